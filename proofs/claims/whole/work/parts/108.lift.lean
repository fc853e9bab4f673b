theorem kU_Pw_353_Br {R : Room} {s : State} {args : Array Value} (hR : 0 + 1 ≤ R.frames ∧ 8 + (1 + 11) + 0 ≤ R.locals) (ht : ∀ w ∈ GW, w.before args s = true) (hN : NX s) : va_CU R s args R_Pw R_Br "PipeWorks$Thing" 353 ⟨"PipeWorks$Thing", "givesAndTakes", "()Z"⟩ y_Th_givesAndTakes c_Th_givesAndTakes 1 (some .boolean) (WL y_Th_givesAndTakes c_Th_givesAndTakes 1 (some .boolean)) { frames := 0, cells := 0, slots := 0, locals := 0 } 0 0 0 := va_cwU (x := ⟨"PipeWorks$Thing", "givesAndTakes", "()Z"⟩) 0 ht (GW_u (x := ⟨"PipeWorks$Thing", "givesAndTakes", "()Z"⟩) w_4_20 w_4_22 w_4_23 w_4_21 w_1_8 (GW_wl w_4_33)) rfl rfl rfl rfl (by decide +kernel) hR
theorem kU_Pw_353_Dr {R : Room} {s : State} {args : Array Value} (hR : 0 + 1 ≤ R.frames ∧ 8 + (1 + 11) + 0 ≤ R.locals) (ht : ∀ w ∈ GW, w.before args s = true) (hN : NX s) : va_CU R s args R_Pw R_Dr "PipeWorks$Thing" 353 ⟨"PipeWorks$Thing", "givesAndTakes", "()Z"⟩ y_Th_givesAndTakes c_Th_givesAndTakes 1 (some .boolean) (WL y_Th_givesAndTakes c_Th_givesAndTakes 1 (some .boolean)) { frames := 0, cells := 0, slots := 0, locals := 0 } 0 0 0 := va_cwU (x := ⟨"PipeWorks$Thing", "givesAndTakes", "()Z"⟩) 0 ht (GW_u (x := ⟨"PipeWorks$Thing", "givesAndTakes", "()Z"⟩) w_4_20 w_4_22 w_4_24 w_4_21 w_1_8 (GW_wl w_4_33)) rfl rfl rfl rfl (by decide +kernel) hR
theorem kU_Pw_353_Ho {R : Room} {s : State} {args : Array Value} (hR : 0 + 1 ≤ R.frames ∧ 8 + (1 + 11) + 0 ≤ R.locals) (ht : ∀ w ∈ GW, w.before args s = true) (hN : NX s) : va_CU R s args R_Pw R_Ho "PipeWorks$Thing" 353 ⟨"PipeWorks$Thing", "givesAndTakes", "()Z"⟩ y_Ho_givesAndTakes c_Ho_givesAndTakes 1 (some .boolean) (WL y_Ho_givesAndTakes c_Ho_givesAndTakes 1 (some .boolean)) { frames := 0, cells := 0, slots := 0, locals := 0 } 0 0 0 := va_cwO (x := ⟨"PipeWorks$Thing", "givesAndTakes", "()Z"⟩) 0 ht (GW_o (x := ⟨"PipeWorks$Thing", "givesAndTakes", "()Z"⟩) w_4_20 w_4_22 w_4_21 w_4_25 w_4_26 w_1_13 (GW_wl w_4_27)) rfl rfl rfl w_4_33 (by decide +kernel) hR
theorem kU_Pw_353_Le {R : Room} {s : State} {args : Array Value} (hR : 0 + 1 ≤ R.frames ∧ 8 + (1 + 11) + 0 ≤ R.locals) (ht : ∀ w ∈ GW, w.before args s = true) (hN : NX s) : va_CU R s args R_Pw R_Le "PipeWorks$Thing" 353 ⟨"PipeWorks$Thing", "givesAndTakes", "()Z"⟩ y_Th_givesAndTakes c_Th_givesAndTakes 1 (some .boolean) (WL y_Th_givesAndTakes c_Th_givesAndTakes 1 (some .boolean)) { frames := 0, cells := 0, slots := 0, locals := 0 } 0 0 0 := va_cwU (x := ⟨"PipeWorks$Thing", "givesAndTakes", "()Z"⟩) 0 ht (GW_u (x := ⟨"PipeWorks$Thing", "givesAndTakes", "()Z"⟩) w_4_20 w_4_22 w_4_28 w_4_21 w_1_8 (GW_wl w_4_33)) rfl rfl rfl rfl (by decide +kernel) hR
theorem kU_Pw_353_Li {R : Room} {s : State} {args : Array Value} (hR : 0 + 1 ≤ R.frames ∧ 8 + (1 + 11) + 0 ≤ R.locals) (ht : ∀ w ∈ GW, w.before args s = true) (hN : NX s) : va_CU R s args R_Pw R_Li "PipeWorks$Thing" 353 ⟨"PipeWorks$Thing", "givesAndTakes", "()Z"⟩ y_Th_givesAndTakes c_Th_givesAndTakes 1 (some .boolean) (WL y_Th_givesAndTakes c_Th_givesAndTakes 1 (some .boolean)) { frames := 0, cells := 0, slots := 0, locals := 0 } 0 0 0 := va_cwU (x := ⟨"PipeWorks$Thing", "givesAndTakes", "()Z"⟩) 0 ht (GW_u (x := ⟨"PipeWorks$Thing", "givesAndTakes", "()Z"⟩) w_4_20 w_4_22 w_4_29 w_4_21 w_1_8 (GW_wl w_4_33)) rfl rfl rfl rfl (by decide +kernel) hR
theorem kU_Pw_353_To {R : Room} {s : State} {args : Array Value} (hR : 0 + 1 ≤ R.frames ∧ 8 + (1 + 11) + 0 ≤ R.locals) (ht : ∀ w ∈ GW, w.before args s = true) (hN : NX s) : va_CU R s args R_Pw R_To "PipeWorks$Thing" 353 ⟨"PipeWorks$Thing", "givesAndTakes", "()Z"⟩ y_To_givesAndTakes c_To_givesAndTakes 1 (some .boolean) (WL y_To_givesAndTakes c_To_givesAndTakes 1 (some .boolean)) { frames := 0, cells := 0, slots := 0, locals := 0 } 0 0 0 := va_cwO (x := ⟨"PipeWorks$Thing", "givesAndTakes", "()Z"⟩) 0 ht (GW_o (x := ⟨"PipeWorks$Thing", "givesAndTakes", "()Z"⟩) w_4_20 w_4_22 w_4_21 w_4_30 w_4_31 w_1_12 (GW_wl w_4_32)) rfl rfl rfl w_4_33 (by decide +kernel) hR
theorem kU_Pw_361_Br {R : Room} {s : State} {args : Array Value} (hR : 0 + 1 ≤ R.frames ∧ 8 + (2 + 11) + 0 ≤ R.locals) (ht : ∀ w ∈ GW, w.before args s = true) (hN : NX s) : va_CU R s args R_Pw R_Br "PipeWorks$Thing" 361 ⟨"PipeWorks$Thing", "burns", "(I)I"⟩ y_Th_burns c_Th_burns 2 (some .int) (WL y_Th_burns c_Th_burns 2 (some .int)) { frames := 0, cells := 0, slots := 0, locals := 0 } 0 0 1 := va_cwU (x := ⟨"PipeWorks$Thing", "burns", "(I)I"⟩) 1 ht (GW_u (x := ⟨"PipeWorks$Thing", "burns", "(I)I"⟩) w_4_55 w_4_57 w_4_58 w_4_56 w_1_8 (GW_wl w_4_66)) rfl rfl rfl rfl (by decide +kernel) hR
theorem kU_Pw_361_Dr {R : Room} {s : State} {args : Array Value} (hR : 0 + 1 ≤ R.frames ∧ 8 + (2 + 11) + 0 ≤ R.locals) (ht : ∀ w ∈ GW, w.before args s = true) (hN : NX s) : va_CU R s args R_Pw R_Dr "PipeWorks$Thing" 361 ⟨"PipeWorks$Thing", "burns", "(I)I"⟩ y_Th_burns c_Th_burns 2 (some .int) (WL y_Th_burns c_Th_burns 2 (some .int)) { frames := 0, cells := 0, slots := 0, locals := 0 } 0 0 1 := va_cwU (x := ⟨"PipeWorks$Thing", "burns", "(I)I"⟩) 1 ht (GW_u (x := ⟨"PipeWorks$Thing", "burns", "(I)I"⟩) w_4_55 w_4_57 w_4_59 w_4_56 w_1_8 (GW_wl w_4_66)) rfl rfl rfl rfl (by decide +kernel) hR
theorem kU_Pw_361_Ho {R : Room} {s : State} {args : Array Value} (hR : 0 + 1 ≤ R.frames ∧ 8 + (2 + 11) + 0 ≤ R.locals) (ht : ∀ w ∈ GW, w.before args s = true) (hN : NX s) : va_CU R s args R_Pw R_Ho "PipeWorks$Thing" 361 ⟨"PipeWorks$Thing", "burns", "(I)I"⟩ y_Ho_burns c_Ho_burns 2 (some .int) (WL y_Ho_burns c_Ho_burns 2 (some .int)) { frames := 0, cells := 0, slots := 0, locals := 0 } 0 0 1 := va_cwO (x := ⟨"PipeWorks$Thing", "burns", "(I)I"⟩) 1 ht (GW_o (x := ⟨"PipeWorks$Thing", "burns", "(I)I"⟩) w_4_55 w_4_57 w_4_56 w_4_60 w_4_61 w_1_13 (GW_wl w_4_62)) rfl rfl rfl w_4_66 (by decide +kernel) hR
theorem kU_Pw_361_Le {R : Room} {s : State} {args : Array Value} (hR : 0 + 1 ≤ R.frames ∧ 8 + (2 + 11) + 0 ≤ R.locals) (ht : ∀ w ∈ GW, w.before args s = true) (hN : NX s) : va_CU R s args R_Pw R_Le "PipeWorks$Thing" 361 ⟨"PipeWorks$Thing", "burns", "(I)I"⟩ y_Th_burns c_Th_burns 2 (some .int) (WL y_Th_burns c_Th_burns 2 (some .int)) { frames := 0, cells := 0, slots := 0, locals := 0 } 0 0 1 := va_cwU (x := ⟨"PipeWorks$Thing", "burns", "(I)I"⟩) 1 ht (GW_u (x := ⟨"PipeWorks$Thing", "burns", "(I)I"⟩) w_4_55 w_4_57 w_4_63 w_4_56 w_1_8 (GW_wl w_4_66)) rfl rfl rfl rfl (by decide +kernel) hR
theorem kU_Pw_361_Li {R : Room} {s : State} {args : Array Value} (hR : 0 + 1 ≤ R.frames ∧ 8 + (2 + 11) + 0 ≤ R.locals) (ht : ∀ w ∈ GW, w.before args s = true) (hN : NX s) : va_CU R s args R_Pw R_Li "PipeWorks$Thing" 361 ⟨"PipeWorks$Thing", "burns", "(I)I"⟩ y_Th_burns c_Th_burns 2 (some .int) (WL y_Th_burns c_Th_burns 2 (some .int)) { frames := 0, cells := 0, slots := 0, locals := 0 } 0 0 1 := va_cwU (x := ⟨"PipeWorks$Thing", "burns", "(I)I"⟩) 1 ht (GW_u (x := ⟨"PipeWorks$Thing", "burns", "(I)I"⟩) w_4_55 w_4_57 w_4_64 w_4_56 w_1_8 (GW_wl w_4_66)) rfl rfl rfl rfl (by decide +kernel) hR
theorem kU_Pw_361_To {R : Room} {s : State} {args : Array Value} (hR : 0 + 1 ≤ R.frames ∧ 8 + (2 + 11) + 0 ≤ R.locals) (ht : ∀ w ∈ GW, w.before args s = true) (hN : NX s) : va_CU R s args R_Pw R_To "PipeWorks$Thing" 361 ⟨"PipeWorks$Thing", "burns", "(I)I"⟩ y_Th_burns c_Th_burns 2 (some .int) (WL y_Th_burns c_Th_burns 2 (some .int)) { frames := 0, cells := 0, slots := 0, locals := 0 } 0 0 1 := va_cwU (x := ⟨"PipeWorks$Thing", "burns", "(I)I"⟩) 1 ht (GW_u (x := ⟨"PipeWorks$Thing", "burns", "(I)I"⟩) w_4_55 w_4_57 w_4_65 w_4_56 w_1_8 (GW_wl w_4_66)) rfl rfl rfl rfl (by decide +kernel) hR
theorem kV_Pw_356 {R : Room} {s : State} {args : Array Value} (hR : 1 + 1 ≤ R.frames ∧ 8 + (5 + 11) + 21 ≤ R.locals) (ht : ∀ w ∈ GW, w.before args s = true) : CallW R s args R_Pw R_Ne 356 y_Ne_flowOut c_Ne_flowOut 5 (some .int) (WL y_Ne_flowOut c_Ne_flowOut 5 (some .int)) { frames := 1, cells := 0, slots := 0, locals := 21 } 0 0 2 := cwV 2 ht (GW_v w_4_34 w_4_35 w_4_36 w_1_2 (GW_wl w_4_37)) rfl rfl rfl (by decide +kernel) hR
theorem kU_Pw_359_Br {R : Room} {s : State} {args : Array Value} (hR : 0 + 1 ≤ R.frames ∧ 8 + (3 + 11) + 0 ≤ R.locals) (ht : ∀ w ∈ GW, w.before args s = true) (hN : NX s) : va_CU R s args R_Pw R_Br "PipeWorks$Thing" 359 ⟨"PipeWorks$Thing", "fill", "(II)I"⟩ y_Th_fill c_Th_fill 3 (some .int) (WL y_Th_fill c_Th_fill 3 (some .int)) { frames := 0, cells := 0, slots := 0, locals := 0 } 0 0 2 := va_cwU (x := ⟨"PipeWorks$Thing", "fill", "(II)I"⟩) 2 ht (GW_u (x := ⟨"PipeWorks$Thing", "fill", "(II)I"⟩) w_4_39 w_4_41 w_4_42 w_4_40 w_1_8 (GW_wl w_4_54)) rfl rfl rfl rfl (by decide +kernel) hR
theorem kU_Pw_359_Dr {R : Room} {s : State} {args : Array Value} (hR : 0 + 1 ≤ R.frames ∧ 8 + (3 + 11) + 0 ≤ R.locals) (ht : ∀ w ∈ GW, w.before args s = true) (hN : NX s) : va_CU R s args R_Pw R_Dr "PipeWorks$Thing" 359 ⟨"PipeWorks$Thing", "fill", "(II)I"⟩ y_Th_fill c_Th_fill 3 (some .int) (WL y_Th_fill c_Th_fill 3 (some .int)) { frames := 0, cells := 0, slots := 0, locals := 0 } 0 0 2 := va_cwU (x := ⟨"PipeWorks$Thing", "fill", "(II)I"⟩) 2 ht (GW_u (x := ⟨"PipeWorks$Thing", "fill", "(II)I"⟩) w_4_39 w_4_41 w_4_43 w_4_40 w_1_8 (GW_wl w_4_54)) rfl rfl rfl rfl (by decide +kernel) hR
theorem kU_Pw_359_Ho {R : Room} {s : State} {args : Array Value} (hR : 1 + 1 ≤ R.frames ∧ 8 + (4 + 11) + 21 ≤ R.locals) (ht : ∀ w ∈ GW, w.before args s = true) (hN : NX s) : va_CU R s args R_Pw R_Ho "PipeWorks$Thing" 359 ⟨"PipeWorks$Thing", "fill", "(II)I"⟩ y_To_fill c_To_fill 4 (some .int) (WL y_To_fill c_To_fill 4 (some .int)) { frames := 1, cells := 0, slots := 0, locals := 21 } 0 0 2 := va_cwO (x := ⟨"PipeWorks$Thing", "fill", "(II)I"⟩) 2 ht (GW_o (x := ⟨"PipeWorks$Thing", "fill", "(II)I"⟩) w_4_39 w_4_41 w_4_40 w_4_44 w_4_45 w_1_12 (GW_wl w_4_46)) rfl rfl rfl w_4_54 (by decide +kernel) hR
theorem kU_Pw_359_Le {R : Room} {s : State} {args : Array Value} (hR : 0 + 1 ≤ R.frames ∧ 8 + (3 + 11) + 0 ≤ R.locals) (ht : ∀ w ∈ GW, w.before args s = true) (hN : NX s) : va_CU R s args R_Pw R_Le "PipeWorks$Thing" 359 ⟨"PipeWorks$Thing", "fill", "(II)I"⟩ y_Th_fill c_Th_fill 3 (some .int) (WL y_Th_fill c_Th_fill 3 (some .int)) { frames := 0, cells := 0, slots := 0, locals := 0 } 0 0 2 := va_cwU (x := ⟨"PipeWorks$Thing", "fill", "(II)I"⟩) 2 ht (GW_u (x := ⟨"PipeWorks$Thing", "fill", "(II)I"⟩) w_4_39 w_4_41 w_4_51 w_4_40 w_1_8 (GW_wl w_4_54)) rfl rfl rfl rfl (by decide +kernel) hR
theorem kU_Pw_359_Li {R : Room} {s : State} {args : Array Value} (hR : 0 + 1 ≤ R.frames ∧ 8 + (3 + 11) + 0 ≤ R.locals) (ht : ∀ w ∈ GW, w.before args s = true) (hN : NX s) : va_CU R s args R_Pw R_Li "PipeWorks$Thing" 359 ⟨"PipeWorks$Thing", "fill", "(II)I"⟩ y_Th_fill c_Th_fill 3 (some .int) (WL y_Th_fill c_Th_fill 3 (some .int)) { frames := 0, cells := 0, slots := 0, locals := 0 } 0 0 2 := va_cwU (x := ⟨"PipeWorks$Thing", "fill", "(II)I"⟩) 2 ht (GW_u (x := ⟨"PipeWorks$Thing", "fill", "(II)I"⟩) w_4_39 w_4_41 w_4_52 w_4_40 w_1_8 (GW_wl w_4_54)) rfl rfl rfl rfl (by decide +kernel) hR
theorem kU_Pw_359_To {R : Room} {s : State} {args : Array Value} (hR : 1 + 1 ≤ R.frames ∧ 8 + (4 + 11) + 21 ≤ R.locals) (ht : ∀ w ∈ GW, w.before args s = true) (hN : NX s) : va_CU R s args R_Pw R_To "PipeWorks$Thing" 359 ⟨"PipeWorks$Thing", "fill", "(II)I"⟩ y_To_fill c_To_fill 4 (some .int) (WL y_To_fill c_To_fill 4 (some .int)) { frames := 1, cells := 0, slots := 0, locals := 21 } 0 0 2 := va_cwO (x := ⟨"PipeWorks$Thing", "fill", "(II)I"⟩) 2 ht (GW_o (x := ⟨"PipeWorks$Thing", "fill", "(II)I"⟩) w_4_39 w_4_41 w_4_40 w_4_53 w_4_45 w_1_12 (GW_wl w_4_46)) rfl rfl rfl w_4_54 (by decide +kernel) hR
theorem kU_Pw_350_Br {R : Room} {s : State} {args : Array Value} (hR : 0 + 1 ≤ R.frames ∧ 8 + (2 + 11) + 0 ≤ R.locals) (ht : ∀ w ∈ GW, w.before args s = true) (hN : NX s) : va_CU R s args R_Pw R_Br "PipeWorks$Thing" 350 ⟨"PipeWorks$Thing", "strokesOf", "(I)I"⟩ y_Dr_strokesOf c_Dr_strokesOf 2 (some .int) (WL y_Dr_strokesOf c_Dr_strokesOf 2 (some .int)) { frames := 0, cells := 0, slots := 0, locals := 0 } 0 0 1 := va_cwO (x := ⟨"PipeWorks$Thing", "strokesOf", "(I)I"⟩) 1 ht (GW_o (x := ⟨"PipeWorks$Thing", "strokesOf", "(I)I"⟩) w_4_8 w_4_10 w_4_9 w_4_11 w_4_12 w_1_9 (GW_wl w_4_13)) rfl rfl rfl w_4_19 (by decide +kernel) hR
theorem kU_Pw_350_Dr {R : Room} {s : State} {args : Array Value} (hR : 0 + 1 ≤ R.frames ∧ 8 + (2 + 11) + 0 ≤ R.locals) (ht : ∀ w ∈ GW, w.before args s = true) (hN : NX s) : va_CU R s args R_Pw R_Dr "PipeWorks$Thing" 350 ⟨"PipeWorks$Thing", "strokesOf", "(I)I"⟩ y_Dr_strokesOf c_Dr_strokesOf 2 (some .int) (WL y_Dr_strokesOf c_Dr_strokesOf 2 (some .int)) { frames := 0, cells := 0, slots := 0, locals := 0 } 0 0 1 := va_cwO (x := ⟨"PipeWorks$Thing", "strokesOf", "(I)I"⟩) 1 ht (GW_o (x := ⟨"PipeWorks$Thing", "strokesOf", "(I)I"⟩) w_4_8 w_4_10 w_4_9 w_4_14 w_4_12 w_1_9 (GW_wl w_4_13)) rfl rfl rfl w_4_19 (by decide +kernel) hR
theorem kU_Pw_350_Ho {R : Room} {s : State} {args : Array Value} (hR : 0 + 1 ≤ R.frames ∧ 8 + (2 + 11) + 0 ≤ R.locals) (ht : ∀ w ∈ GW, w.before args s = true) (hN : NX s) : va_CU R s args R_Pw R_Ho "PipeWorks$Thing" 350 ⟨"PipeWorks$Thing", "strokesOf", "(I)I"⟩ y_Th_strokesOf c_Th_strokesOf 2 (some .int) (WL y_Th_strokesOf c_Th_strokesOf 2 (some .int)) { frames := 0, cells := 0, slots := 0, locals := 0 } 0 0 1 := va_cwU (x := ⟨"PipeWorks$Thing", "strokesOf", "(I)I"⟩) 1 ht (GW_u (x := ⟨"PipeWorks$Thing", "strokesOf", "(I)I"⟩) w_4_8 w_4_10 w_4_15 w_4_9 w_1_8 (GW_wl w_4_19)) rfl rfl rfl rfl (by decide +kernel) hR
theorem kU_Pw_350_Le {R : Room} {s : State} {args : Array Value} (hR : 0 + 1 ≤ R.frames ∧ 8 + (2 + 11) + 0 ≤ R.locals) (ht : ∀ w ∈ GW, w.before args s = true) (hN : NX s) : va_CU R s args R_Pw R_Le "PipeWorks$Thing" 350 ⟨"PipeWorks$Thing", "strokesOf", "(I)I"⟩ y_Th_strokesOf c_Th_strokesOf 2 (some .int) (WL y_Th_strokesOf c_Th_strokesOf 2 (some .int)) { frames := 0, cells := 0, slots := 0, locals := 0 } 0 0 1 := va_cwU (x := ⟨"PipeWorks$Thing", "strokesOf", "(I)I"⟩) 1 ht (GW_u (x := ⟨"PipeWorks$Thing", "strokesOf", "(I)I"⟩) w_4_8 w_4_10 w_4_16 w_4_9 w_1_8 (GW_wl w_4_19)) rfl rfl rfl rfl (by decide +kernel) hR
theorem kU_Pw_350_Li {R : Room} {s : State} {args : Array Value} (hR : 0 + 1 ≤ R.frames ∧ 8 + (2 + 11) + 0 ≤ R.locals) (ht : ∀ w ∈ GW, w.before args s = true) (hN : NX s) : va_CU R s args R_Pw R_Li "PipeWorks$Thing" 350 ⟨"PipeWorks$Thing", "strokesOf", "(I)I"⟩ y_Dr_strokesOf c_Dr_strokesOf 2 (some .int) (WL y_Dr_strokesOf c_Dr_strokesOf 2 (some .int)) { frames := 0, cells := 0, slots := 0, locals := 0 } 0 0 1 := va_cwO (x := ⟨"PipeWorks$Thing", "strokesOf", "(I)I"⟩) 1 ht (GW_o (x := ⟨"PipeWorks$Thing", "strokesOf", "(I)I"⟩) w_4_8 w_4_10 w_4_9 w_4_17 w_4_12 w_1_9 (GW_wl w_4_13)) rfl rfl rfl w_4_19 (by decide +kernel) hR
theorem kU_Pw_350_To {R : Room} {s : State} {args : Array Value} (hR : 0 + 1 ≤ R.frames ∧ 8 + (2 + 11) + 0 ≤ R.locals) (ht : ∀ w ∈ GW, w.before args s = true) (hN : NX s) : va_CU R s args R_Pw R_To "PipeWorks$Thing" 350 ⟨"PipeWorks$Thing", "strokesOf", "(I)I"⟩ y_Th_strokesOf c_Th_strokesOf 2 (some .int) (WL y_Th_strokesOf c_Th_strokesOf 2 (some .int)) { frames := 0, cells := 0, slots := 0, locals := 0 } 0 0 1 := va_cwU (x := ⟨"PipeWorks$Thing", "strokesOf", "(I)I"⟩) 1 ht (GW_u (x := ⟨"PipeWorks$Thing", "strokesOf", "(I)I"⟩) w_4_8 w_4_10 w_4_18 w_4_9 w_1_8 (GW_wl w_4_19)) rfl rfl rfl rfl (by decide +kernel) hR
section S108
variable {p : Program} {l : Launch} {e : Env} {R : Room} {s : State} {m : MethodId} {args : Array Value} {below : List Frame} {meth : Method} {c : Code} {H : Heap} {locs : List Loc} {cells slots : Nat} {Q : State → Prop}
variable {cc : ByteArray} {pc n nL : Nat} {ls : Array Slot} {rest : List Value} {D : va_G} {cy : Nat → ClassId} {Z : Nat → Prop} {ad : Nat → Nat} {tb : List (Nat × Instr × Nat)} {lv : List (Nat × Value)}
section G108
variable {I : Nat → Int32} {A : Nat → Nat → Int32} {T : Nat → Option Nat} {L : List Nat} {K : Nat → Nat} {F : Nat → Nat → Int32}
def gd_givesAndTakes (L : List Nat) (K : Nat → Nat) (q : Nat)  (P : Int32 → Prop) : Prop := q ∈ L ∧ ((K q = 0 ∧ g_Th_givesAndTakes  P) ∨ (K q = 1 ∧ g_Th_givesAndTakes  P) ∨ (K q = 2 ∧ g_Ho_givesAndTakes  P) ∨ (K q = 3 ∧ g_Th_givesAndTakes  P) ∨ (K q = 4 ∧ g_Th_givesAndTakes  P) ∨ (K q = 9 ∧ g_To_givesAndTakes  P))
set_option maxHeartbeats 4000000 in
set_option maxRecDepth 100000 in
theorem gdc_Pw_353 {q : Nat}  {P : Int32 → Prop} (C : CX D cy R_Pw cc tb nL p s m args c Z) (k : Nat) (hk : tb[k]? = some (pc, .invokevirtual 353, 3)) (hn : pc + 3 = n) (hl : lv_has ls nL lv) (h : HXw D Z s.heap H locs (wC cy ad I A T L K F)) (hw : gd_givesAndTakes L K q  P) (hfr : 1 ≤ R.frames) (hlo : 20 ≤ R.locals) (hs : (rest.map fun v => v.category).sum ≤ 8) (hc : cells ≤ R.cells ∧ slots ≤ R.slots) (kk : ∀ r : Int32, P r → W p l e R s m args below meth c H locs cells slots Q (F0 m n ls (.int r :: rest))) : W p l e R s m args below meth c H locs cells slots Q (F0 m pc ls (.ref q :: rest)) := by
  obtain ⟨hq, hw⟩ := hw
  rcases hw with ⟨hk0, hw⟩ | ⟨hk0, hw⟩ | ⟨hk0, hw⟩ | ⟨hk0, hw⟩ | ⟨hk0, hw⟩ | ⟨hk0, hw⟩
  · obtain ⟨q0, he, -⟩ := wC_th (cy := cy) (ad := ad) (I := I) (A := A) (T := T) (F := F) hq hk0
    exact i_callUp (rest := rest) (ci := 0) (qc := (R_Br, T_Br, 6)) C k hk hn hl h rfl he (kU_Pw_353_Br ⟨by omega, by omega⟩) (m_Th_givesAndTakes hw) rfl rfl hs hc kk
  · obtain ⟨q0, he, -⟩ := wC_th (cy := cy) (ad := ad) (I := I) (A := A) (T := T) (F := F) hq hk0
    exact i_callUp (rest := rest) (ci := 1) (qc := (R_Dr, T_Dr, 3)) C k hk hn hl h rfl he (kU_Pw_353_Dr ⟨by omega, by omega⟩) (m_Th_givesAndTakes hw) rfl rfl hs hc kk
  · obtain ⟨q0, he, -⟩ := wC_th (cy := cy) (ad := ad) (I := I) (A := A) (T := T) (F := F) hq hk0
    exact i_callUp (rest := rest) (ci := 2) (qc := (R_Ho, T_Ho, 7)) C k hk hn hl h rfl he (kU_Pw_353_Ho ⟨by omega, by omega⟩) (m_Ho_givesAndTakes hw) rfl rfl hs hc kk
  · obtain ⟨q0, he, -⟩ := wC_th (cy := cy) (ad := ad) (I := I) (A := A) (T := T) (F := F) hq hk0
    exact i_callUp (rest := rest) (ci := 3) (qc := (R_Le, T_Le, 3)) C k hk hn hl h rfl he (kU_Pw_353_Le ⟨by omega, by omega⟩) (m_Th_givesAndTakes hw) rfl rfl hs hc kk
  · obtain ⟨q0, he, -⟩ := wC_th (cy := cy) (ad := ad) (I := I) (A := A) (T := T) (F := F) hq hk0
    exact i_callUp (rest := rest) (ci := 4) (qc := (R_Li, T_Li, 4)) C k hk hn hl h rfl he (kU_Pw_353_Li ⟨by omega, by omega⟩) (m_Th_givesAndTakes hw) rfl rfl hs hc kk
  · obtain ⟨q0, he, -⟩ := wC_th (cy := cy) (ad := ad) (I := I) (A := A) (T := T) (F := F) hq hk0
    exact i_callUp (rest := rest) (ci := 9) (qc := (R_To, T_To, 3)) C k hk hn hl h rfl he (kU_Pw_353_To ⟨by omega, by omega⟩) (m_To_givesAndTakes hw) rfl rfl hs hc kk
def gd_burns (L : List Nat) (K : Nat → Nat) (F : Nat → Nat → Int32) (q : Nat) (a1 : Int32) (P : Int32 → Prop) : Prop := q ∈ L ∧ ((K q = 0 ∧ g_Th_burns a1 P) ∨ (K q = 1 ∧ g_Th_burns a1 P) ∨ (K q = 2 ∧ g_Ho_burns_Ho F q a1 P) ∨ (K q = 3 ∧ g_Th_burns a1 P) ∨ (K q = 4 ∧ g_Th_burns a1 P) ∨ (K q = 9 ∧ g_Th_burns a1 P))
set_option maxHeartbeats 4000000 in
set_option maxRecDepth 100000 in
theorem gdc_Pw_361 {q : Nat} {a1 : Int32} {P : Int32 → Prop} (C : CX D cy R_Pw cc tb nL p s m args c Z) (k : Nat) (hk : tb[k]? = some (pc, .invokevirtual 361, 3)) (hn : pc + 3 = n) (hl : lv_has ls nL lv) (h : HXw D Z s.heap H locs (wC cy ad I A T L K F)) (hw : gd_burns L K F q a1 P) (hfr : 1 ≤ R.frames) (hlo : 21 ≤ R.locals) (hs : (rest.map fun v => v.category).sum ≤ 8) (hc : cells ≤ R.cells ∧ slots ≤ R.slots) (kk : ∀ r : Int32, P r → W p l e R s m args below meth c H locs cells slots Q (F0 m n ls (.int r :: rest))) : W p l e R s m args below meth c H locs cells slots Q (F0 m pc ls (.int a1 :: .ref q :: rest)) := by
  obtain ⟨hq, hw⟩ := hw
  rcases hw with ⟨hk0, hw⟩ | ⟨hk0, hw⟩ | ⟨hk0, hw⟩ | ⟨hk0, hw⟩ | ⟨hk0, hw⟩ | ⟨hk0, hw⟩
  · obtain ⟨q0, he, -⟩ := wC_th (cy := cy) (ad := ad) (I := I) (A := A) (T := T) (F := F) hq hk0
    exact i_callUp (rest := rest) (ci := 0) (qc := (R_Br, T_Br, 6)) C k hk hn hl h rfl he (kU_Pw_361_Br ⟨by omega, by omega⟩) (m_Th_burns hw) rfl rfl hs hc kk
  · obtain ⟨q0, he, -⟩ := wC_th (cy := cy) (ad := ad) (I := I) (A := A) (T := T) (F := F) hq hk0
    exact i_callUp (rest := rest) (ci := 1) (qc := (R_Dr, T_Dr, 3)) C k hk hn hl h rfl he (kU_Pw_361_Dr ⟨by omega, by omega⟩) (m_Th_burns hw) rfl rfl hs hc kk
  · obtain ⟨q0, he, -⟩ := wC_th (cy := cy) (ad := ad) (I := I) (A := A) (T := T) (F := F) hq hk0
    exact i_callUp (rest := rest) (ci := 2) (qc := (R_Ho, T_Ho, 7)) C k hk hn hl h rfl he (kU_Pw_361_Ho ⟨by omega, by omega⟩) (m_Ho_burns_Ho hq hk0 hw) rfl rfl hs hc kk
  · obtain ⟨q0, he, -⟩ := wC_th (cy := cy) (ad := ad) (I := I) (A := A) (T := T) (F := F) hq hk0
    exact i_callUp (rest := rest) (ci := 3) (qc := (R_Le, T_Le, 3)) C k hk hn hl h rfl he (kU_Pw_361_Le ⟨by omega, by omega⟩) (m_Th_burns hw) rfl rfl hs hc kk
  · obtain ⟨q0, he, -⟩ := wC_th (cy := cy) (ad := ad) (I := I) (A := A) (T := T) (F := F) hq hk0
    exact i_callUp (rest := rest) (ci := 4) (qc := (R_Li, T_Li, 4)) C k hk hn hl h rfl he (kU_Pw_361_Li ⟨by omega, by omega⟩) (m_Th_burns hw) rfl rfl hs hc kk
  · obtain ⟨q0, he, -⟩ := wC_th (cy := cy) (ad := ad) (I := I) (A := A) (T := T) (F := F) hq hk0
    exact i_callUp (rest := rest) (ci := 9) (qc := (R_To, T_To, 3)) C k hk hn hl h rfl he (kU_Pw_361_To ⟨by omega, by omega⟩) (m_Th_burns hw) rfl rfl hs hc kk
def gd_fill (L : List Nat) (K : Nat → Nat) (F : Nat → Nat → Int32) (q : Nat) (a1 : Int32) (a2 : Int32) (P : Int32 → ((Nat → Nat → Int32)) → Prop) : Prop := q ∈ L ∧ ((K q = 0 ∧ g_Th_fill a1 a2 (fun r => P r F)) ∨ (K q = 1 ∧ g_Th_fill a1 a2 (fun r => P r F)) ∨ (K q = 2 ∧ g_To_fill_Ho F q a1 a2 P) ∨ (K q = 3 ∧ g_Th_fill a1 a2 (fun r => P r F)) ∨ (K q = 4 ∧ g_Th_fill a1 a2 (fun r => P r F)) ∨ (K q = 9 ∧ g_To_fill_To F q a1 a2 P))
set_option maxHeartbeats 4000000 in
set_option maxRecDepth 100000 in
theorem gdc_Pw_359 {q : Nat} {a1 : Int32} {a2 : Int32} {P : Int32 → ((Nat → Nat → Int32)) → Prop} (C : CX D cy R_Pw cc tb nL p s m args c Z) (k : Nat) (hk : tb[k]? = some (pc, .invokevirtual 359, 3)) (hn : pc + 3 = n) (hl : lv_has ls nL lv) (h : HXw D Z s.heap H locs (wC cy ad I A T L K F)) (hw : gd_fill L K F q a1 a2 P) (hfr : 2 ≤ R.frames) (hlo : 44 ≤ R.locals) (hs : (rest.map fun v => v.category).sum ≤ 8) (hc : cells ≤ R.cells ∧ slots ≤ R.slots) (kk : ∀ (r : Int32) (u : (Nat → Nat → Int32)) (H : Heap) (locs : List Loc), P r u → HXw D Z s.heap H locs (wC cy ad I A T L K u) → W p l e R s m args below meth c H locs cells slots Q (F0 m n ls (.int r :: rest))) : W p l e R s m args below meth c H locs cells slots Q (F0 m pc ls (.int a2 :: .int a1 :: .ref q :: rest)) := by
  obtain ⟨hq, hw⟩ := hw
  rcases hw with ⟨hk0, hw⟩ | ⟨hk0, hw⟩ | ⟨hk0, hw⟩ | ⟨hk0, hw⟩ | ⟨hk0, hw⟩ | ⟨hk0, hw⟩
  · obtain ⟨q0, he, -⟩ := wC_th (cy := cy) (ad := ad) (I := I) (A := A) (T := T) (F := F) hq hk0
    exact i_callUp (rest := rest) (ci := 0) (qc := (R_Br, T_Br, 6)) C k hk hn hl h rfl he (kU_Pw_359_Br ⟨by omega, by omega⟩) (m_Th_fill hw) rfl rfl hs hc (fun r hw => kk r F H locs hw h)
  · obtain ⟨q0, he, -⟩ := wC_th (cy := cy) (ad := ad) (I := I) (A := A) (T := T) (F := F) hq hk0
    exact i_callUp (rest := rest) (ci := 1) (qc := (R_Dr, T_Dr, 3)) C k hk hn hl h rfl he (kU_Pw_359_Dr ⟨by omega, by omega⟩) (m_Th_fill hw) rfl rfl hs hc (fun r hw => kk r F H locs hw h)
  · obtain ⟨q0, he, -⟩ := wC_th (cy := cy) (ad := ad) (I := I) (A := A) (T := T) (F := F) hq hk0
    exact i_callUi (rest := rest) (ci := 2) (qc := (R_Ho, T_Ho, 7)) C k hk hn hl h rfl he (kU_Pw_359_Ho ⟨by omega, by omega⟩) (m_To_fill_Ho hq hk0 hw) rfl rfl hs hc kk
  · obtain ⟨q0, he, -⟩ := wC_th (cy := cy) (ad := ad) (I := I) (A := A) (T := T) (F := F) hq hk0
    exact i_callUp (rest := rest) (ci := 3) (qc := (R_Le, T_Le, 3)) C k hk hn hl h rfl he (kU_Pw_359_Le ⟨by omega, by omega⟩) (m_Th_fill hw) rfl rfl hs hc (fun r hw => kk r F H locs hw h)
  · obtain ⟨q0, he, -⟩ := wC_th (cy := cy) (ad := ad) (I := I) (A := A) (T := T) (F := F) hq hk0
    exact i_callUp (rest := rest) (ci := 4) (qc := (R_Li, T_Li, 4)) C k hk hn hl h rfl he (kU_Pw_359_Li ⟨by omega, by omega⟩) (m_Th_fill hw) rfl rfl hs hc (fun r hw => kk r F H locs hw h)
  · obtain ⟨q0, he, -⟩ := wC_th (cy := cy) (ad := ad) (I := I) (A := A) (T := T) (F := F) hq hk0
    exact i_callUi (rest := rest) (ci := 9) (qc := (R_To, T_To, 3)) C k hk hn hl h rfl he (kU_Pw_359_To ⟨by omega, by omega⟩) (m_To_fill_To hq hk0 hw) rfl rfl hs hc kk
def gd_strokesOf (L : List Nat) (K : Nat → Nat) (q : Nat) (a1 : Int32) (P : Int32 → Prop) : Prop := q ∈ L ∧ ((K q = 0 ∧ g_Dr_strokesOf a1 P) ∨ (K q = 1 ∧ g_Dr_strokesOf a1 P) ∨ (K q = 2 ∧ g_Th_strokesOf a1 P) ∨ (K q = 3 ∧ g_Th_strokesOf a1 P) ∨ (K q = 4 ∧ g_Dr_strokesOf a1 P) ∨ (K q = 9 ∧ g_Th_strokesOf a1 P))
set_option maxHeartbeats 4000000 in
set_option maxRecDepth 100000 in
theorem gdc_Pw_350 {q : Nat} {a1 : Int32} {P : Int32 → Prop} (C : CX D cy R_Pw cc tb nL p s m args c Z) (k : Nat) (hk : tb[k]? = some (pc, .invokevirtual 350, 3)) (hn : pc + 3 = n) (hl : lv_has ls nL lv) (h : HXw D Z s.heap H locs (wC cy ad I A T L K F)) (hw : gd_strokesOf L K q a1 P) (hfr : 1 ≤ R.frames) (hlo : 21 ≤ R.locals) (hs : (rest.map fun v => v.category).sum ≤ 8) (hc : cells ≤ R.cells ∧ slots ≤ R.slots) (kk : ∀ r : Int32, P r → W p l e R s m args below meth c H locs cells slots Q (F0 m n ls (.int r :: rest))) : W p l e R s m args below meth c H locs cells slots Q (F0 m pc ls (.int a1 :: .ref q :: rest)) := by
  obtain ⟨hq, hw⟩ := hw
  rcases hw with ⟨hk0, hw⟩ | ⟨hk0, hw⟩ | ⟨hk0, hw⟩ | ⟨hk0, hw⟩ | ⟨hk0, hw⟩ | ⟨hk0, hw⟩
  · obtain ⟨q0, he, -⟩ := wC_th (cy := cy) (ad := ad) (I := I) (A := A) (T := T) (F := F) hq hk0
    exact i_callUp (rest := rest) (ci := 0) (qc := (R_Br, T_Br, 6)) C k hk hn hl h rfl he (kU_Pw_350_Br ⟨by omega, by omega⟩) (m_Dr_strokesOf hw) rfl rfl hs hc kk
  · obtain ⟨q0, he, -⟩ := wC_th (cy := cy) (ad := ad) (I := I) (A := A) (T := T) (F := F) hq hk0
    exact i_callUp (rest := rest) (ci := 1) (qc := (R_Dr, T_Dr, 3)) C k hk hn hl h rfl he (kU_Pw_350_Dr ⟨by omega, by omega⟩) (m_Dr_strokesOf hw) rfl rfl hs hc kk
  · obtain ⟨q0, he, -⟩ := wC_th (cy := cy) (ad := ad) (I := I) (A := A) (T := T) (F := F) hq hk0
    exact i_callUp (rest := rest) (ci := 2) (qc := (R_Ho, T_Ho, 7)) C k hk hn hl h rfl he (kU_Pw_350_Ho ⟨by omega, by omega⟩) (m_Th_strokesOf hw) rfl rfl hs hc kk
  · obtain ⟨q0, he, -⟩ := wC_th (cy := cy) (ad := ad) (I := I) (A := A) (T := T) (F := F) hq hk0
    exact i_callUp (rest := rest) (ci := 3) (qc := (R_Le, T_Le, 3)) C k hk hn hl h rfl he (kU_Pw_350_Le ⟨by omega, by omega⟩) (m_Th_strokesOf hw) rfl rfl hs hc kk
  · obtain ⟨q0, he, -⟩ := wC_th (cy := cy) (ad := ad) (I := I) (A := A) (T := T) (F := F) hq hk0
    exact i_callUp (rest := rest) (ci := 4) (qc := (R_Li, T_Li, 4)) C k hk hn hl h rfl he (kU_Pw_350_Li ⟨by omega, by omega⟩) (m_Dr_strokesOf hw) rfl rfl hs hc kk
  · obtain ⟨q0, he, -⟩ := wC_th (cy := cy) (ad := ad) (I := I) (A := A) (T := T) (F := F) hq hk0
    exact i_callUp (rest := rest) (ci := 9) (qc := (R_To, T_To, 3)) C k hk hn hl h rfl he (kU_Pw_350_To ⟨by omega, by omega⟩) (m_Th_strokesOf hw) rfl rfl hs hc kk
end G108
def g_Pw_stepThings_146 (T : Nat → Option Nat) (L : List Nat) (K : Nat → Nat) (a1 : Int32) (P : ((Nat → Int32) × (Nat → Nat → Int32) × (Nat → Nat → Int32)) → Prop) (kb2 : (Nat → Int32) → (Nat → Nat → Int32) → (Nat → Nat → Int32) → Int32 → Prop) (I : Nat → Int32) (A : Nat → Nat → Int32) (F : Nat → Nat → Int32) (x2 : Int32) : Prop := kb2 I A F (x2 + (1 : Int32))
set_option maxHeartbeats 4000000 in
set_option maxRecDepth 100000 in
theorem e_Pw_stepThings_146 {T : Nat → Option Nat} {L : List Nat} {K : Nat → Nat} {a1 : Int32} {P : ((Nat → Int32) × (Nat → Nat → Int32) × (Nat → Nat → Int32)) → Prop} {kb2 : (Nat → Int32) → (Nat → Nat → Int32) → (Nat → Nat → Int32) → Int32 → Prop} (C : CX D cy R_Pw c_Pw_stepThings tb_Pw_stepThings 5 p s m args c Z) (hret : RetV p l e { frames := 3, cells := 0, slots := 0, locals := 68 } s m args below meth c c_Pw_stepThings D Z Q (fun (u : (Nat → Int32) × (Nat → Nat → Int32) × (Nat → Nat → Int32)) => wC cy ad u.1 u.2.1 T L K u.2.2) P 0 0)
    (hb2 : ∀ (I : Nat → Int32) (A : Nat → Nat → Int32) (F : Nat → Nat → Int32) (x2 : Int32) (ls : Array Slot) (H : Heap) (locs : List Loc), lv_has ls 5 [(0, .ref (ad 0)), (1, .int a1), (2, .int x2)] → HXw D Z s.heap H locs (wC cy ad I A T L K F) → kb2 I A F x2 → W p l e { frames := 3, cells := 0, slots := 0, locals := 68 } s m args below meth c H locs 0 0 Q (F0 m 2 ls [])) :
    ∀ (I : Nat → Int32) (A : Nat → Nat → Int32) (F : Nat → Nat → Int32) (x2 : Int32) (ls : Array Slot) (H : Heap) (locs : List Loc), lv_has ls 5 [(0, .ref (ad 0)), (1, .int a1), (2, .int x2)] → HXw D Z s.heap H locs (wC cy ad I A T L K F) → g_Pw_stepThings_146 T L K a1 P kb2 I A F x2 → W p l e { frames := 3, cells := 0, slots := 0, locals := 68 } s m args below meth c H locs 0 0 Q (F0 m 146 ls []) := by
  intro I A F x2 ls H locs hl h hw
  refine i_iinc (v := x2 + (1 : Int32)) (lv' := [(2, .int (x2 + (1 : Int32))), (0, .ref (ad 0)), (1, .int a1)]) (n := 149) C 79 rfl rfl hl 2 rfl rfl (by decide) rfl (fun ls hl => ?_)
  refine i_goto (tgt := 2) C 80 rfl rfl ?_
  exact hb2 I A F (x2 + (1 : Int32)) ls _ _ (lv_sub hl [1, 2, 0] rfl) h hw
def g_Pw_stepThings_129 (T : Nat → Option Nat) (L : List Nat) (K : Nat → Nat) (a1 : Int32) (P : ((Nat → Int32) × (Nat → Nat → Int32) × (Nat → Nat → Int32)) → Prop) (kb2 : (Nat → Int32) → (Nat → Nat → Int32) → (Nat → Nat → Int32) → Int32 → Prop) (I : Nat → Int32) (A : Nat → Nat → Int32) (F : Nat → Nat → Int32) (x2 : Int32) (t3 : Nat) : Prop := gd_burns L K F t3 (I 0) (fun r9 => (g_Pw_stepThings_146 T L K a1 P kb2 (va_up I 3 ((I 3) + r9)) A F x2))
set_option maxHeartbeats 4000000 in
set_option maxRecDepth 100000 in
theorem e_Pw_stepThings_129 {T : Nat → Option Nat} {L : List Nat} {K : Nat → Nat} {a1 : Int32} {P : ((Nat → Int32) × (Nat → Nat → Int32) × (Nat → Nat → Int32)) → Prop} {kb2 : (Nat → Int32) → (Nat → Nat → Int32) → (Nat → Nat → Int32) → Int32 → Prop} (C : CX D cy R_Pw c_Pw_stepThings tb_Pw_stepThings 5 p s m args c Z) (hret : RetV p l e { frames := 3, cells := 0, slots := 0, locals := 68 } s m args below meth c c_Pw_stepThings D Z Q (fun (u : (Nat → Int32) × (Nat → Nat → Int32) × (Nat → Nat → Int32)) => wC cy ad u.1 u.2.1 T L K u.2.2) P 0 0)
    (hb2 : ∀ (I : Nat → Int32) (A : Nat → Nat → Int32) (F : Nat → Nat → Int32) (x2 : Int32) (ls : Array Slot) (H : Heap) (locs : List Loc), lv_has ls 5 [(0, .ref (ad 0)), (1, .int a1), (2, .int x2)] → HXw D Z s.heap H locs (wC cy ad I A T L K F) → kb2 I A F x2 → W p l e { frames := 3, cells := 0, slots := 0, locals := 68 } s m args below meth c H locs 0 0 Q (F0 m 2 ls [])) :
    ∀ (I : Nat → Int32) (A : Nat → Nat → Int32) (F : Nat → Nat → Int32) (x2 : Int32) (t3 : Nat) (ls : Array Slot) (H : Heap) (locs : List Loc), lv_has ls 5 [(0, .ref (ad 0)), (1, .int a1), (2, .int x2), (3, .ref t3)] → HXw D Z s.heap H locs (wC cy ad I A T L K F) → g_Pw_stepThings_129 T L K a1 P kb2 I A F x2 t3 → W p l e { frames := 3, cells := 0, slots := 0, locals := 68 } s m args below meth c H locs 0 0 Q (F0 m 129 ls []) := by
  intro I A F x2 t3 ls H locs hl h hw
  refine i_aload_n (n := 130) C 70 rfl rfl rfl hl 0 rfl ?_
  refine i_dup (n := 131) C 71 rfl rfl rfl ?_
  refine fgC_Pw_263 (n := 134) C 72 rfl rfl h ?_
  refine i_aload_n (n := 135) C 73 rfl rfl rfl hl 3 rfl ?_
  refine i_aload_n (n := 136) C 74 rfl rfl rfl hl 0 rfl ?_
  refine fgC_Pw_184 (n := 139) C 75 rfl rfl h ?_
  refine gdc_Pw_361 (rest := [.int (I 3), .ref (ad 0)]) (n := 142) C 76 rfl rfl hl h hw (by decide) (by decide) (Nat.le_of_ble_eq_true rfl) ⟨by decide, by decide⟩ (fun r9 hw => ?_)
  refine i_iadd (n := 143) C 77 rfl rfl ?_
  refine fpC_Pw_263 (n := 146) C 78 rfl rfl h (fun H locs h => ?_)
  exact e_Pw_stepThings_146 C hret hb2 (va_up I 3 ((I 3) + r9)) A F x2 ls _ _ (lv_sub hl [0, 1, 2] rfl) h hw
def g_Pw_stepThings_98 (T : Nat → Option Nat) (L : List Nat) (K : Nat → Nat) (a1 : Int32) (P : ((Nat → Int32) × (Nat → Nat → Int32) × (Nat → Nat → Int32)) → Prop) (kb2 : (Nat → Int32) → (Nat → Nat → Int32) → (Nat → Nat → Int32) → Int32 → Prop) (I : Nat → Int32) (A : Nat → Nat → Int32) (F : Nat → Nat → Int32) (x2 : Int32) (t3 : Nat) (x4 : Int32) : Prop := gd_givesAndTakes L K t3 (fun r7 => ((r7 = 0 → (g_Pw_stepThings_129 T L K a1 P kb2 I A F x2 t3)) ∧ (¬ r7 = 0 → (g_Ne_flowOut I A x2 a1 (fun r10 => (gd_fill L K F t3 x4 r10 (fun r11 u12 => (g_Pw_stepThings_129 T L K a1 P kb2 (va_up I 2 ((I 2) + r11)) A u12 x2 t3))))))))
set_option maxHeartbeats 4000000 in
set_option maxRecDepth 100000 in
theorem e_Pw_stepThings_98 {T : Nat → Option Nat} {L : List Nat} {K : Nat → Nat} {a1 : Int32} {P : ((Nat → Int32) × (Nat → Nat → Int32) × (Nat → Nat → Int32)) → Prop} {kb2 : (Nat → Int32) → (Nat → Nat → Int32) → (Nat → Nat → Int32) → Int32 → Prop} (C : CX D cy R_Pw c_Pw_stepThings tb_Pw_stepThings 5 p s m args c Z) (hret : RetV p l e { frames := 3, cells := 0, slots := 0, locals := 68 } s m args below meth c c_Pw_stepThings D Z Q (fun (u : (Nat → Int32) × (Nat → Nat → Int32) × (Nat → Nat → Int32)) => wC cy ad u.1 u.2.1 T L K u.2.2) P 0 0)
    (hb2 : ∀ (I : Nat → Int32) (A : Nat → Nat → Int32) (F : Nat → Nat → Int32) (x2 : Int32) (ls : Array Slot) (H : Heap) (locs : List Loc), lv_has ls 5 [(0, .ref (ad 0)), (1, .int a1), (2, .int x2)] → HXw D Z s.heap H locs (wC cy ad I A T L K F) → kb2 I A F x2 → W p l e { frames := 3, cells := 0, slots := 0, locals := 68 } s m args below meth c H locs 0 0 Q (F0 m 2 ls [])) :
    ∀ (I : Nat → Int32) (A : Nat → Nat → Int32) (F : Nat → Nat → Int32) (x2 : Int32) (t3 : Nat) (x4 : Int32) (ls : Array Slot) (H : Heap) (locs : List Loc), lv_has ls 5 [(0, .ref (ad 0)), (1, .int a1), (2, .int x2), (3, .ref t3), (4, .int x4)] → HXw D Z s.heap H locs (wC cy ad I A T L K F) → g_Pw_stepThings_98 T L K a1 P kb2 I A F x2 t3 x4 → W p l e { frames := 3, cells := 0, slots := 0, locals := 68 } s m args below meth c H locs 0 0 Q (F0 m 98 ls []) := by
  intro I A F x2 t3 x4 ls H locs hl h hw
  refine i_aload_n (n := 99) C 54 rfl rfl rfl hl 3 rfl ?_
  refine gdc_Pw_353 (rest := []) (n := 102) C 55 rfl rfl hl h hw (by decide) (by decide) (Nat.le_of_ble_eq_true rfl) ⟨by decide, by decide⟩ (fun r7 hw => ?_)
  refine i_if_eq (tgt := 129) (n := 105) C 56 rfl rfl rfl (fun c8 => ?_) (fun c8 => ?_)
  · replace hw := hw.1 c8
    exact e_Pw_stepThings_129 C hret hb2 I A F x2 t3 ls _ _ (lv_sub hl [0, 1, 2, 3] rfl) h hw
  · replace hw := hw.2 c8
    refine i_aload_n (n := 106) C 57 rfl rfl rfl hl 0 rfl ?_
    refine i_dup (n := 107) C 58 rfl rfl rfl ?_
    refine fgC_Pw_260 (n := 110) C 59 rfl rfl h ?_
    refine i_aload_n (n := 111) C 60 rfl rfl rfl hl 3 rfl ?_
    refine i_iload (n := 113) C 61 rfl rfl hl 4 rfl ?_
    refine i_aload_n (n := 114) C 62 rfl rfl rfl hl 0 rfl ?_
    refine fgC_Pw_10 (n := 117) C 63 rfl rfl h ?_
    refine i_iload_n (n := 118) C 64 rfl rfl rfl hl 2 rfl ?_
    refine i_iload_n (n := 119) C 65 rfl rfl rfl hl 1 rfl ?_
    refine i_callVp (rest := [.int x4, .ref t3, .int (I 2), .ref (ad 0)]) (ci := 5) (qc := (R_Ne, T_Ne, 17)) (n := 122) C 66 rfl rfl hl h rfl (wC_get (h := 1) (by decide)) (kV_Pw_356 ⟨by decide, by decide⟩) (m_Ne_flowOut hw) rfl rfl (Nat.le_of_ble_eq_true rfl) ⟨by decide, by decide⟩ (fun r10 hw => ?_)
    refine gdc_Pw_359 (rest := [.int (I 2), .ref (ad 0)]) (n := 125) C 67 rfl rfl hl h hw (by decide) (by decide) (Nat.le_of_ble_eq_true rfl) ⟨by decide, by decide⟩ (fun r11 u12 H locs hw h => ?_)
    refine i_iadd (n := 126) C 68 rfl rfl ?_
    refine fpC_Pw_260 (n := 129) C 69 rfl rfl h (fun H locs h => ?_)
    exact e_Pw_stepThings_129 C hret hb2 (va_up I 2 ((I 2) + r11)) A u12 x2 t3 ls _ _ (lv_sub hl [0, 1, 2, 3] rfl) h hw
def g_Pw_stepThings_74 (T : Nat → Option Nat) (L : List Nat) (K : Nat → Nat) (a1 : Int32) (P : ((Nat → Int32) × (Nat → Nat → Int32) × (Nat → Nat → Int32)) → Prop) (kb2 : (Nat → Int32) → (Nat → Nat → Int32) → (Nat → Nat → Int32) → Int32 → Prop) (I : Nat → Int32) (A : Nat → Nat → Int32) (F : Nat → Nat → Int32) (x2 : Int32) (t3 : Nat) (x4 : Int32) : Prop := vp_in x2 12 ∧ ((¬ (A 1 x2.toNatClampNeg) = 0 → (g_Pw_stepThings_98 T L K a1 P kb2 I A F x2 t3 x4)) ∧ ((A 1 x2.toNatClampNeg) = 0 → (vp_in x2 12 ∧ (gd_strokesOf L K t3 x4 (fun r13 => (vp_in x2 12 ∧ (g_Pw_stepThings_98 T L K a1 P kb2 I (sA A 0 x2 ((A 0 x2.toNatClampNeg) + r13)) F x2 t3 x4)))))))
set_option maxHeartbeats 4000000 in
set_option maxRecDepth 100000 in
theorem e_Pw_stepThings_74 {T : Nat → Option Nat} {L : List Nat} {K : Nat → Nat} {a1 : Int32} {P : ((Nat → Int32) × (Nat → Nat → Int32) × (Nat → Nat → Int32)) → Prop} {kb2 : (Nat → Int32) → (Nat → Nat → Int32) → (Nat → Nat → Int32) → Int32 → Prop} (C : CX D cy R_Pw c_Pw_stepThings tb_Pw_stepThings 5 p s m args c Z) (hret : RetV p l e { frames := 3, cells := 0, slots := 0, locals := 68 } s m args below meth c c_Pw_stepThings D Z Q (fun (u : (Nat → Int32) × (Nat → Nat → Int32) × (Nat → Nat → Int32)) => wC cy ad u.1 u.2.1 T L K u.2.2) P 0 0)
    (hb2 : ∀ (I : Nat → Int32) (A : Nat → Nat → Int32) (F : Nat → Nat → Int32) (x2 : Int32) (ls : Array Slot) (H : Heap) (locs : List Loc), lv_has ls 5 [(0, .ref (ad 0)), (1, .int a1), (2, .int x2)] → HXw D Z s.heap H locs (wC cy ad I A T L K F) → kb2 I A F x2 → W p l e { frames := 3, cells := 0, slots := 0, locals := 68 } s m args below meth c H locs 0 0 Q (F0 m 2 ls [])) :
    ∀ (I : Nat → Int32) (A : Nat → Nat → Int32) (F : Nat → Nat → Int32) (x2 : Int32) (t3 : Nat) (x4 : Int32) (ls : Array Slot) (H : Heap) (locs : List Loc), lv_has ls 5 [(0, .ref (ad 0)), (1, .int a1), (2, .int x2), (3, .ref t3), (4, .int x4)] → HXw D Z s.heap H locs (wC cy ad I A T L K F) → g_Pw_stepThings_74 T L K a1 P kb2 I A F x2 t3 x4 → W p l e { frames := 3, cells := 0, slots := 0, locals := 68 } s m args below meth c H locs 0 0 Q (F0 m 74 ls []) := by
  intro I A F x2 t3 x4 ls H locs hl h hw
  refine i_aload_n (n := 75) C 39 rfl rfl rfl hl 0 rfl ?_
  refine fgC_Pw_39 (n := 78) C 40 rfl rfl h ?_
  refine i_iload_n (n := 79) C 41 rfl rfl rfl hl 2 rfl ?_
  obtain ⟨hb, hw⟩ := hw
  refine i_zald (n := 80) C 42 rfl rfl h (wC_arr 1 (by decide) rfl) hb ?_
  refine i_if_ne (tgt := 98) (n := 83) C 43 rfl rfl rfl (fun c6 => ?_) (fun c6 => ?_)
  · replace hw := hw.1 c6
    exact e_Pw_stepThings_98 C hret hb2 I A F x2 t3 x4 ls _ _ hl h hw
  · replace hw := hw.2 c6
    refine i_aload_n (n := 84) C 44 rfl rfl rfl hl 0 rfl ?_
    refine fgC_Pw_35 (n := 87) C 45 rfl rfl h ?_
    refine i_iload_n (n := 88) C 46 rfl rfl rfl hl 2 rfl ?_
    refine i_dup2 (n := 89) C 47 rfl rfl rfl rfl ?_
    obtain ⟨hb, hw⟩ := hw
    refine i_iald (n := 90) C 48 rfl rfl h (wC_arr 0 (by decide) rfl) hb ?_
    refine i_aload_n (n := 91) C 49 rfl rfl rfl hl 3 rfl ?_
    refine i_iload (n := 93) C 50 rfl rfl hl 4 rfl ?_
    refine gdc_Pw_350 (rest := [.int (A 0 x2.toNatClampNeg), .int x2, .ref (ad 8)]) (n := 96) C 51 rfl rfl hl h hw (by decide) (by decide) (Nat.le_of_ble_eq_true rfl) ⟨by decide, by decide⟩ (fun r13 hw => ?_)
    refine i_iadd (n := 97) C 52 rfl rfl ?_
    obtain ⟨hb, hw⟩ := hw
    refine i_iast (n := 98) C 53 rfl rfl h (wC_arr 0 (by decide) rfl) hb (wC_sA 0 (by decide) rfl _ _) (fun H locs h => ?_)
    exact e_Pw_stepThings_98 C hret hb2 I (sA A 0 x2 ((A 0 x2.toNatClampNeg) + r13)) F x2 t3 x4 ls _ _ hl h hw
def g_Pw_stepThings_2 (T : Nat → Option Nat) (L : List Nat) (K : Nat → Nat) (a1 : Int32) (P : ((Nat → Int32) × (Nat → Nat → Int32) × (Nat → Nat → Int32)) → Prop) (kx2 : (Nat → Int32) → (Nat → Nat → Int32) → (Nat → Nat → Int32) → Prop) : Nat → (Nat → Int32) → (Nat → Nat → Int32) → (Nat → Nat → Int32) → Int32 → Prop
  | 0, _, _, _, _ => False
  | n2 + 1, I, A, F, x2 => ((I 4) ≤ x2 → (kx2 I A F)) ∧ (¬ (I 4) ≤ x2 → (vp_in x2 12 ∧ ((T x2.toNatClampNeg = none → (g_Pw_stepThings_146 T L K a1 P (g_Pw_stepThings_2 T L K a1 P kx2 n2) I A F x2)) ∧ (∀ q2 : Nat, T x2.toNatClampNeg = some q2 → (g_Ne_taken A T L K F x2 (I 0) (fun r4 => ((r4 < (1 : Int32) → (g_Pw_stepThings_74 T L K a1 P (g_Pw_stepThings_2 T L K a1 P kx2 n2) I A F x2 q2 r4)) ∧ (¬ r4 < (1 : Int32) → (g_Ne_pressAt A x2 (fun r14 => ((¬ r14 = 0 → (g_Pw_stepThings_74 T L K a1 P (g_Pw_stepThings_2 T L K a1 P kx2 n2) I A F x2 q2 r4)) ∧ (r14 = 0 → (g_Pw_stepThings_74 T L K a1 P (g_Pw_stepThings_2 T L K a1 P kx2 n2) (va_up I 1 ((I 1) + (1 : Int32))) A F x2 q2 (0 : Int32))))))))))))))
set_option maxHeartbeats 4000000 in
set_option maxRecDepth 100000 in
theorem e_Pw_stepThings_2 {T : Nat → Option Nat} {L : List Nat} {K : Nat → Nat} {a1 : Int32} {P : ((Nat → Int32) × (Nat → Nat → Int32) × (Nat → Nat → Int32)) → Prop} {kx2 : (Nat → Int32) → (Nat → Nat → Int32) → (Nat → Nat → Int32) → Prop} (C : CX D cy R_Pw c_Pw_stepThings tb_Pw_stepThings 5 p s m args c Z) (hret : RetV p l e { frames := 3, cells := 0, slots := 0, locals := 68 } s m args below meth c c_Pw_stepThings D Z Q (fun (u : (Nat → Int32) × (Nat → Nat → Int32) × (Nat → Nat → Int32)) => wC cy ad u.1 u.2.1 T L K u.2.2) P 0 0)
    (hx2 : ∀ (I : Nat → Int32) (A : Nat → Nat → Int32) (F : Nat → Nat → Int32) (ls : Array Slot) (H : Heap) (locs : List Loc), lv_has ls 5 [] → HXw D Z s.heap H locs (wC cy ad I A T L K F) → kx2 I A F → W p l e { frames := 3, cells := 0, slots := 0, locals := 68 } s m args below meth c H locs 0 0 Q (F0 m 152 ls [])) :
    ∀ (n : Nat) (I : Nat → Int32) (A : Nat → Nat → Int32) (F : Nat → Nat → Int32) (x2 : Int32) (ls : Array Slot) (H : Heap) (locs : List Loc), lv_has ls 5 [(0, .ref (ad 0)), (1, .int a1), (2, .int x2)] → HXw D Z s.heap H locs (wC cy ad I A T L K F) → g_Pw_stepThings_2 T L K a1 P kx2 n I A F x2 → W p l e { frames := 3, cells := 0, slots := 0, locals := 68 } s m args below meth c H locs 0 0 Q (F0 m 2 ls []) := by
  intro n
  induction n with
  | zero => intro I A F x2 ls H locs hl h hw; exact hw.elim
  | succ n ih =>
    intro I A F x2 ls H locs hl h hw
    refine i_iload_n (n := 3) C 2 rfl rfl rfl hl 2 rfl ?_
    refine i_aload_n (n := 4) C 3 rfl rfl rfl hl 0 rfl ?_
    refine fgC_Pw_10 (n := 7) C 4 rfl rfl h ?_
    refine fgC_Pw_245 (n := 10) C 5 rfl rfl h ?_
    refine i_icmp_ge (tgt := 152) (n := 13) C 6 rfl rfl rfl (fun c1 => ?_) (fun c1 => ?_)
    · replace hw := hw.1 c1
      exact hx2 I A F ls _ _ (lv_sub hl [] rfl) h hw
    · replace hw := hw.2 c1
      refine i_aload_n (n := 14) C 7 rfl rfl rfl hl 0 rfl ?_
      refine fgC_Pw_10 (n := 17) C 8 rfl rfl h ?_
      refine fgC_Pw_168 (n := 20) C 9 rfl rfl h ?_
      refine i_iload_n (n := 21) C 10 rfl rfl rfl hl 2 rfl ?_
      obtain ⟨hb, hw⟩ := hw
      refine i_aldq (n := 22) C 11 rfl rfl h (wC_get (h := 5) (by decide)) hb (fun c3 => ?_) (fun q2 c3 => ?_)
      · replace hw := hw.1 c3
        refine i_astore_nN (lv' := [(3, .null), (0, .ref (ad 0)), (1, .int a1), (2, .int x2)]) (n := 23) C 12 rfl rfl rfl hl (by decide) rfl (fun ls hl => ?_)
        refine i_aload_nN (n := 24) C 13 rfl rfl rfl hl 0 rfl ?_
        refine i_ifnonnullN (n := 27) C 14 rfl rfl ?_
        refine i_goto (tgt := 146) C 15 rfl rfl ?_
        exact e_Pw_stepThings_146 C hret ih I A F x2 ls _ _ (lv_sub hl [1, 2, 3] rfl) h hw
      · replace hw := hw.2 q2 c3
        refine i_astore_n (lv' := [(3, .ref q2), (0, .ref (ad 0)), (1, .int a1), (2, .int x2)]) (n := 23) C 12 rfl rfl rfl hl (by decide) rfl (fun ls hl => ?_)
        refine i_aload_n (n := 24) C 13 rfl rfl rfl hl 0 rfl ?_
        refine i_ifnonnull (tgt := 30) C 14 rfl rfl ?_
        refine i_aload_n (n := 31) C 16 rfl rfl rfl hl 1 rfl ?_
        refine fgC_Pw_10 (n := 34) C 17 rfl rfl h ?_
        refine i_iload_n (n := 35) C 18 rfl rfl rfl hl 3 rfl ?_
        refine i_aload_n (n := 36) C 19 rfl rfl rfl hl 1 rfl ?_
        refine fgC_Pw_184 (n := 39) C 20 rfl rfl h ?_
        refine i_callVp (rest := []) (ci := 5) (qc := (R_Ne, T_Ne, 17)) (n := 42) C 21 rfl rfl hl h rfl (wC_get (h := 1) (by decide)) (kV_Pw_188 ⟨by decide, by decide⟩) (m_Ne_taken hw) rfl rfl (Nat.le_of_ble_eq_true rfl) ⟨by decide, by decide⟩ (fun r4 hw => ?_)
        refine i_istore (lv' := [(4, .int r4), (3, .ref q2), (0, .ref (ad 0)), (1, .int a1), (2, .int x2)]) (n := 44) C 22 rfl rfl hl (by decide) rfl (fun ls hl => ?_)
        refine i_iload (n := 46) C 23 rfl rfl hl 0 rfl ?_
        refine i_iconst (v := (1 : Int32)) (n := 47) C 24 rfl rfl rfl ?_
        refine i_icmp_lt (tgt := 74) (n := 50) C 25 rfl rfl rfl (fun c5 => ?_) (fun c5 => ?_)
        · replace hw := hw.1 c5
          exact e_Pw_stepThings_74 C hret ih I A F x2 q2 r4 ls _ _ (lv_sub hl [2, 3, 4, 1, 0] rfl) h hw
        · replace hw := hw.2 c5
          refine i_aload_n (n := 51) C 26 rfl rfl rfl hl 2 rfl ?_
          refine fgC_Pw_10 (n := 54) C 27 rfl rfl h ?_
          refine i_iload_n (n := 55) C 28 rfl rfl rfl hl 4 rfl ?_
          refine i_callVp (rest := []) (ci := 5) (qc := (R_Ne, T_Ne, 17)) (n := 58) C 29 rfl rfl hl h rfl (wC_get (h := 1) (by decide)) (kV_Pw_230 ⟨by decide, by decide⟩) (m_Ne_pressAt hw) rfl rfl (Nat.le_of_ble_eq_true rfl) ⟨by decide, by decide⟩ (fun r14 hw => ?_)
          refine i_if_ne (tgt := 74) (n := 61) C 30 rfl rfl rfl (fun c15 => ?_) (fun c15 => ?_)
          · replace hw := hw.1 c15
            exact e_Pw_stepThings_74 C hret ih I A F x2 q2 r4 ls _ _ (lv_sub hl [2, 3, 4, 1, 0] rfl) h hw
          · replace hw := hw.2 c15
            refine i_aload_n (n := 62) C 31 rfl rfl rfl hl 2 rfl ?_
            refine i_dup (n := 63) C 32 rfl rfl rfl ?_
            refine fgC_Pw_236 (n := 66) C 33 rfl rfl h ?_
            refine i_iconst (v := (1 : Int32)) (n := 67) C 34 rfl rfl rfl ?_
            refine i_iadd (n := 68) C 35 rfl rfl ?_
            refine fpC_Pw_236 (n := 71) C 36 rfl rfl h (fun H locs h => ?_)
            refine i_iconst (v := (0 : Int32)) (n := 72) C 37 rfl rfl rfl ?_
            refine i_istore (lv' := [(4, .int (0 : Int32)), (3, .ref q2), (0, .ref (ad 0)), (1, .int a1), (2, .int x2)]) (n := 74) C 38 rfl rfl hl (by decide) rfl (fun ls hl => ?_)
            exact e_Pw_stepThings_74 C hret ih (va_up I 1 ((I 1) + (1 : Int32))) A F x2 q2 (0 : Int32) ls _ _ (lv_sub hl [2, 3, 4, 1, 0] rfl) h hw
def g_Pw_stepThings (I : Nat → Int32) (A : Nat → Nat → Int32) (T : Nat → Option Nat) (L : List Nat) (K : Nat → Nat) (F : Nat → Nat → Int32) (a1 : Int32) (P : ((Nat → Int32) × (Nat → Nat → Int32) × (Nat → Nat → Int32)) → Prop) : Prop := ∃ N : Nat, g_Pw_stepThings_2 T L K a1 P (fun (I_16 : Nat → Int32) (A_16 : Nat → Nat → Int32) (F_16 : Nat → Nat → Int32) => P (I_16, A_16, F_16)) N I A F (0 : Int32)
set_option maxHeartbeats 4000000 in
set_option maxRecDepth 100000 in
theorem m_Pw_stepThings {l : Launch} {D : va_G} {cy : Nat → ClassId} {ad : Nat → Nat} {I : Nat → Int32} {A : Nat → Nat → Int32} {T : Nat → Option Nat} {L : List Nat} {K : Nat → Nat} {F : Nat → Nat → Int32} {a1 : Int32} {P : ((Nat → Int32) × (Nat → Nat → Int32) × (Nat → Nat → Int32)) → Prop} (hw : g_Pw_stepThings I A T L K F a1 P) : ∀ sz, Met l y_Pw_stepThings (WL y_Pw_stepThings c_Pw_stepThings 5 none) { frames := 3, cells := 0, slots := 0, locals := 68 } (va_Pc [.ref (ad 0), .int a1] (PreW D cy (wC cy ad I A T L K F) sz)) (va_Qv P (fun u t => PostW D (va_A (wC cy ad I A T L K F) sz) ((fun (u : (Nat → Int32) × (Nat → Nat → Int32) × (Nat → Nat → Int32)) => wC cy ad u.1 u.2.1 T L K u.2.2) u) t) (va_A (wC cy ad I A T L K F) sz)) 0 0 (va_A (wC cy ad I A T L K F) sz) := by
  refine met_v (wf := fun (u : (Nat → Int32) × (Nat → Nat → Int32) × (Nat → Nat → Int32)) => wC cy ad u.1 u.2.1 T L K u.2.2) R_Pw db_Pw_stepThings (by decide) rfl (Nat.le_of_ble_eq_true rfl) ?_
  intro p e s m below meth c Z Q ls hin C h hl hret
  have hl : lv_has ls 5 [(0, .ref (ad 0)), (1, .int a1)] := hl
  refine i_iconst (v := (0 : Int32)) (n := 1) C 0 rfl rfl rfl ?_
  refine i_istore_n (lv' := [(2, .int (0 : Int32)), (0, .ref (ad 0)), (1, .int a1)]) (n := 2) C 1 rfl rfl rfl hl (by decide) rfl (fun ls hl => ?_)
  obtain ⟨n16, hw⟩ := hw
  refine e_Pw_stepThings_2 C hret (fun I_16 A_16 F_16 ls H locs hl h hw => ?_) n16 I A F (0 : Int32) ls _ _ (lv_sub hl [1, 2, 0] rfl) h hw
  have hl : lv_has ls 5 [] := hl
  exact hret (I_16, A_16, F_16) _ _ _ _ hw h (C.dg (k := 81) rfl)
end S108
theorem kV_Pw_239 {R : Room} {s : State} {args : Array Value} (hR : 1 + 1 ≤ R.frames ∧ 8 + (4 + 11) + 21 ≤ R.locals) (ht : ∀ w ∈ GW, w.before args s = true) : CallW R s args R_Pw R_Pi 239 y_Pi_openMains c_Pi_openMains 4 (some .int) (WL y_Pi_openMains c_Pi_openMains 4 (some .int)) { frames := 1, cells := 0, slots := 0, locals := 21 } 0 0 1 := cwV 1 ht (GW_v w_4_3 w_3_161 w_3_162 w_1_3 (GW_wl w_3_163)) rfl rfl rfl (by decide +kernel) hR
theorem kV_Pw_242 {R : Room} {s : State} {args : Array Value} (hR : 3 + 1 ≤ R.frames ∧ 8 + (5 + 11) + 68 ≤ R.locals) (ht : ∀ w ∈ GW, w.before args s = true) : CallW R s args R_Pw R_Pw 242 y_Pw_stepThings c_Pw_stepThings 5 none (WL y_Pw_stepThings c_Pw_stepThings 5 none) { frames := 3, cells := 0, slots := 0, locals := 68 } 0 0 1 := cwV 1 ht (GW_v w_4_4 w_4_6 w_0_11 w_1_1 (GW_wl w_4_7)) rfl rfl rfl (by decide +kernel) hR
section S109
variable {p : Program} {l : Launch} {e : Env} {R : Room} {s : State} {m : MethodId} {args : Array Value} {below : List Frame} {meth : Method} {c : Code} {H : Heap} {locs : List Loc} {cells slots : Nat} {Q : State → Prop}
variable {cc : ByteArray} {pc n nL : Nat} {ls : Array Slot} {rest : List Value} {D : va_G} {cy : Nat → ClassId} {Z : Nat → Prop} {ad : Nat → Nat} {tb : List (Nat × Instr × Nat)} {lv : List (Nat × Value)}
def g_Pw_step_21 (T : Nat → Option Nat) (L : List Nat) (K : Nat → Nat) (a1 : Int32) (P : Int32 → ((Nat → Int32) × (Nat → Nat → Int32) × (Nat → Nat → Int32)) → Prop) (kx21 : (Nat → Int32) → (Nat → Nat → Int32) → (Nat → Nat → Int32) → Int32 → Prop) : Nat → (Nat → Int32) → (Nat → Nat → Int32) → (Nat → Nat → Int32) → Int32 → Int32 → Prop
  | 0, _, _, _, _, _ => False
  | n21 + 1, I, A, F, x2, x3 => (a1 ≤ x3 → (kx21 I A F x2)) ∧ (¬ a1 ≤ x3 → (g_Ne_settle I A T L K F (I 0) (fun u5 => (g_Pi_openMains u5.1 u5.2 (0 : Int32) (fun r6 => (g_Pw_stepThings u5.1 u5.2 T L K F r6 (fun u7 => (g_Pw_step_21 T L K a1 P kx21 n21 (va_up u7.1 0 ((u7.1 0) + (1 : Int32))) u7.2.1 u7.2.2 x2 (x3 + (1 : Int32))))))))))
set_option maxHeartbeats 4000000 in
set_option maxRecDepth 100000 in
theorem e_Pw_step_21 {T : Nat → Option Nat} {L : List Nat} {K : Nat → Nat} {a1 : Int32} {P : Int32 → ((Nat → Int32) × (Nat → Nat → Int32) × (Nat → Nat → Int32)) → Prop} {kx21 : (Nat → Int32) → (Nat → Nat → Int32) → (Nat → Nat → Int32) → Int32 → Prop} (C : CX D cy R_Pw c_Pw_step tb_Pw_step 4 p s m args c Z) (hret : RetI p l e { frames := 6, cells := 0, slots := 0, locals := 139 } s m args below meth c c_Pw_step .int D Z Q (fun (u : (Nat → Int32) × (Nat → Nat → Int32) × (Nat → Nat → Int32)) => wC cy ad u.1 u.2.1 T L K u.2.2) P 0 0)
    (hx21 : ∀ (I : Nat → Int32) (A : Nat → Nat → Int32) (F : Nat → Nat → Int32) (x2 : Int32) (ls : Array Slot) (H : Heap) (locs : List Loc), lv_has ls 4 [(0, .ref (ad 0)), (2, .int x2)] → HXw D Z s.heap H locs (wC cy ad I A T L K F) → kx21 I A F x2 → W p l e { frames := 6, cells := 0, slots := 0, locals := 139 } s m args below meth c H locs 0 0 Q (F0 m 65 ls [])) :
    ∀ (n : Nat) (I : Nat → Int32) (A : Nat → Nat → Int32) (F : Nat → Nat → Int32) (x2 : Int32) (x3 : Int32) (ls : Array Slot) (H : Heap) (locs : List Loc), lv_has ls 4 [(0, .ref (ad 0)), (1, .int a1), (2, .int x2), (3, .int x3)] → HXw D Z s.heap H locs (wC cy ad I A T L K F) → g_Pw_step_21 T L K a1 P kx21 n I A F x2 x3 → W p l e { frames := 6, cells := 0, slots := 0, locals := 139 } s m args below meth c H locs 0 0 Q (F0 m 21 ls []) := by
  intro n
  induction n with
  | zero => intro I A F x2 x3 ls H locs hl h hw; exact hw.elim
  | succ n ih =>
    intro I A F x2 x3 ls H locs hl h hw
    refine i_iload_n (n := 22) C 12 rfl rfl rfl hl 3 rfl ?_
    refine i_iload_n (n := 23) C 13 rfl rfl rfl hl 1 rfl ?_
    refine i_icmp_ge (tgt := 65) (n := 26) C 14 rfl rfl rfl (fun c4 => ?_) (fun c4 => ?_)
    · replace hw := hw.1 c4
      exact hx21 I A F x2 ls _ _ (lv_sub hl [0, 2] rfl) h hw
    · replace hw := hw.2 c4
      refine i_aload_n (n := 27) C 15 rfl rfl rfl hl 0 rfl ?_
      refine fgC_Pw_10 (n := 30) C 16 rfl rfl h ?_
      refine i_aload_n (n := 31) C 17 rfl rfl rfl hl 0 rfl ?_
      refine fgC_Pw_184 (n := 34) C 18 rfl rfl h ?_
      refine i_callVv (rest := []) (ci := 5) (qc := (R_Ne, T_Ne, 17)) (n := 37) C 19 rfl rfl hl h rfl (wC_get (h := 1) (by decide)) (kV_Pw_212 ⟨by decide, by decide⟩) (m_Ne_settle hw) rfl rfl (Nat.le_of_ble_eq_true rfl) ⟨by decide, by decide⟩ (fun u5 H locs hw h => ?_)
      refine i_aload_n (n := 38) C 20 rfl rfl rfl hl 0 rfl ?_
      refine i_aload_n (n := 39) C 21 rfl rfl rfl hl 0 rfl ?_
      refine fgC_Pw_20 (n := 42) C 22 rfl rfl h ?_
      refine i_iconst (v := (0 : Int32)) (n := 43) C 23 rfl rfl rfl ?_
      refine i_callVp (rest := [.ref (ad 0)]) (ci := 7) (qc := (R_Pi, T_Pi, 8)) (n := 46) C 24 rfl rfl hl h rfl (wC_get (h := 2) (by decide)) (kV_Pw_239 ⟨by decide, by decide⟩) (m_Pi_openMains hw) rfl rfl (Nat.le_of_ble_eq_true rfl) ⟨by decide, by decide⟩ (fun r6 hw => ?_)
      refine i_callVv (rest := []) (ci := 10) (qc := (R_Pw, T_Pw, 16)) (n := 49) C 25 rfl rfl hl h rfl (wC_get (h := 0) (by decide)) (kV_Pw_242 ⟨by decide, by decide⟩) (m_Pw_stepThings hw) rfl rfl (Nat.le_of_ble_eq_true rfl) ⟨by decide, by decide⟩ (fun u7 H locs hw h => ?_)
      refine i_aload_n (n := 50) C 26 rfl rfl rfl hl 0 rfl ?_
      refine i_dup (n := 51) C 27 rfl rfl rfl ?_
      refine fgC_Pw_184 (n := 54) C 28 rfl rfl h ?_
      refine i_iconst (v := (1 : Int32)) (n := 55) C 29 rfl rfl rfl ?_
      refine i_iadd (n := 56) C 30 rfl rfl ?_
      refine fpC_Pw_184 (n := 59) C 31 rfl rfl h (fun H locs h => ?_)
      refine i_iinc (v := x3 + (1 : Int32)) (lv' := [(3, .int (x3 + (1 : Int32))), (0, .ref (ad 0)), (1, .int a1), (2, .int x2)]) (n := 62) C 32 rfl rfl hl 3 rfl rfl (by decide) rfl (fun ls hl => ?_)
      refine i_goto (tgt := 21) C 33 rfl rfl ?_
      exact ih (va_up u7.1 0 ((u7.1 0) + (1 : Int32))) u7.2.1 u7.2.2 x2 (x3 + (1 : Int32)) ls _ _ (lv_sub hl [1, 2, 3, 0] rfl) h hw
def g_Pw_step (I : Nat → Int32) (A : Nat → Nat → Int32) (T : Nat → Option Nat) (L : List Nat) (K : Nat → Nat) (F : Nat → Nat → Int32) (a1 : Int32) (P : Int32 → ((Nat → Int32) × (Nat → Nat → Int32) × (Nat → Nat → Int32)) → Prop) : Prop := g_Pw_isWithin a1 (1 : Int32) (400 : Int32) (fun r1 => ((¬ r1 = 0 → (∀ y3 : Int32, y3 = (I 1) → (∃ N : Nat, g_Pw_step_21 T L K a1 P (fun (I_8 : Nat → Int32) (A_8 : Nat → Nat → Int32) (F_8 : Nat → Nat → Int32) (x2_8 : Int32) => P ((I_8 1) - x2_8) (I_8, A_8, F_8)) N I A F y3 (0 : Int32)))) ∧ (r1 = 0 → (P (-2 : Int32) (I, A, F)))))
set_option maxHeartbeats 4000000 in
set_option maxRecDepth 100000 in
theorem m_Pw_step {l : Launch} {D : va_G} {cy : Nat → ClassId} {ad : Nat → Nat} {I : Nat → Int32} {A : Nat → Nat → Int32} {T : Nat → Option Nat} {L : List Nat} {K : Nat → Nat} {F : Nat → Nat → Int32} {a1 : Int32} {P : Int32 → ((Nat → Int32) × (Nat → Nat → Int32) × (Nat → Nat → Int32)) → Prop} (hw : g_Pw_step I A T L K F a1 P) : ∀ sz, Met l y_Pw_step (WL y_Pw_step c_Pw_step 4 (some .int)) { frames := 6, cells := 0, slots := 0, locals := 139 } (va_Pc [.ref (ad 0), .int a1] (PreW D cy (wC cy ad I A T L K F) sz)) (va_Qi P (fun u t => PostW D (va_A (wC cy ad I A T L K F) sz) ((fun (u : (Nat → Int32) × (Nat → Nat → Int32) × (Nat → Nat → Int32)) => wC cy ad u.1 u.2.1 T L K u.2.2) u) t) (va_A (wC cy ad I A T L K F) sz)) 0 0 (va_A (wC cy ad I A T L K F) sz) := by
  refine met_i (wf := fun (u : (Nat → Int32) × (Nat → Nat → Int32) × (Nat → Nat → Int32)) => wC cy ad u.1 u.2.1 T L K u.2.2) R_Pw .int db_Pw_step (by decide) rfl rfl (Nat.le_of_ble_eq_true rfl) ?_
  intro p e s m below meth c Z Q ls C h hl hret
  have hl : lv_has ls 4 [(0, .ref (ad 0)), (1, .int a1)] := hl
  refine i_iload_n (n := 1) C 0 rfl rfl rfl hl 1 rfl ?_
  refine i_iconst (v := (1 : Int32)) (n := 2) C 1 rfl rfl rfl ?_
  refine i_sipush (v := (400 : Int32)) (n := 5) C 2 rfl rfl rfl ?_
  refine i_callSp (rest := []) (n := 8) C 3 rfl rfl hl h (kS_Pw_69 ⟨by decide, by decide⟩) (m_Pw_isWithin hw) rfl rfl (Nat.le_of_ble_eq_true rfl) ⟨by decide, by decide⟩ (fun r1 hw => ?_)
  refine i_if_ne (tgt := 14) (n := 11) C 4 rfl rfl rfl (fun c2 => ?_) (fun c2 => ?_)
  · replace hw := hw.1 c2
    refine i_aload_n (n := 15) C 7 rfl rfl rfl hl 0 rfl ?_
    refine fgC_Pw_236 (n := 18) C 8 rfl rfl h ?_
    refine lv_topi (fun y3 ey3 => ?_)
    replace hw := hw y3 ey3
    refine i_istore_n (lv' := [(2, .int y3), (0, .ref (ad 0)), (1, .int a1)]) (n := 19) C 9 rfl rfl rfl hl (by decide) rfl (fun ls hl => ?_)
    refine i_iconst (v := (0 : Int32)) (n := 20) C 10 rfl rfl rfl ?_
    refine i_istore_n (lv' := [(3, .int (0 : Int32)), (2, .int y3), (0, .ref (ad 0)), (1, .int a1)]) (n := 21) C 11 rfl rfl rfl hl (by decide) rfl (fun ls hl => ?_)
    obtain ⟨n8, hw⟩ := hw
    refine e_Pw_step_21 C hret (fun I_8 A_8 F_8 x2_8 ls H locs hl h hw => ?_) n8 I A F y3 (0 : Int32) ls _ _ (lv_sub hl [2, 3, 1, 0] rfl) h hw
    have hl : lv_has ls 4 [(0, .ref (ad 0)), (2, .int x2_8)] := hl
    refine i_aload_n (n := 66) C 34 rfl rfl rfl hl 0 rfl ?_
    refine fgC_Pw_236 (n := 69) C 35 rfl rfl h ?_
    refine i_iload_n (n := 70) C 36 rfl rfl rfl hl 1 rfl ?_
    refine i_isub (n := 71) C 37 rfl rfl ?_
    exact hret _ (I_8, A_8, F_8) _ _ _ _ rfl hw h (C.dg (k := 38) rfl)
  · replace hw := hw.2 c2
    refine i_bipush (v := (-2 : Int32)) (n := 13) C 5 rfl rfl rfl ?_
    exact hret _ (I, A, F) _ _ _ _ rfl hw h (C.dg (k := 6) rfl)
end S109
section S110
variable {p : Program} {l : Launch} {e : Env} {R : Room} {s : State} {m : MethodId} {args : Array Value} {below : List Frame} {meth : Method} {c : Code} {H : Heap} {locs : List Loc} {cells slots : Nat} {Q : State → Prop}
variable {cc : ByteArray} {pc n nL : Nat} {ls : Array Slot} {rest : List Value} {D : va_G} {cy : Nat → ClassId} {Z : Nat → Prop} {ad : Nat → Nat} {tb : List (Nat × Instr × Nat)} {lv : List (Nat × Value)}
def g_Pw_told (I : Nat → Int32) (a1 : Int32) (P : Int32 → Prop) : Prop := (a1 = (0 : Int32) → (P (I 0))) ∧ (a1 = (1 : Int32) → (P (I 4))) ∧ (a1 = (2 : Int32) → (P (I 9))) ∧ (a1 = (3 : Int32) → (P (I 10))) ∧ (a1 = (4 : Int32) → (P (I 12))) ∧ (a1 = (5 : Int32) → (P (I 13))) ∧ (a1 = (6 : Int32) → (P (I 1))) ∧ (a1 = (7 : Int32) → (P (I 2))) ∧ (a1 = (8 : Int32) → (P (I 3))) ∧ (a1 = (9 : Int32) → (P (I 6))) ∧ (a1 = (10 : Int32) → (P (I 14))) ∧ (¬ a1 = (0 : Int32) → ¬ a1 = (1 : Int32) → ¬ a1 = (2 : Int32) → ¬ a1 = (3 : Int32) → ¬ a1 = (4 : Int32) → ¬ a1 = (5 : Int32) → ¬ a1 = (6 : Int32) → ¬ a1 = (7 : Int32) → ¬ a1 = (8 : Int32) → ¬ a1 = (9 : Int32) → ¬ a1 = (10 : Int32) → (P (-2 : Int32)))
set_option maxHeartbeats 4000000 in
set_option maxRecDepth 100000 in
theorem m_Pw_told {l : Launch} {D : va_G} {cy : Nat → ClassId} {ad : Nat → Nat} {I : Nat → Int32} {A : Nat → Nat → Int32} {T : Nat → Option Nat} {L : List Nat} {K : Nat → Nat} {F : Nat → Nat → Int32} {a1 : Int32} {P : Int32 → Prop} (hw : g_Pw_told I a1 P) : ∀ sz, Met l y_Pw_told (WL y_Pw_told c_Pw_told 2 (some .int)) { frames := 0, cells := 0, slots := 0, locals := 0 } (va_Pc [.ref (ad 0), .int a1] (PreW D cy (wC cy ad I A T L K F) sz)) (vp_Si P) 0 0 (fun _ => False) := by
  refine met_p R_Pw .int db_Pw_told (by decide) rfl rfl (Nat.le_of_ble_eq_true rfl) ?_
  intro p e s m below meth c Z Q ls C h hl hret
  have hl : lv_has ls 2 [(0, .ref (ad 0)), (1, .int a1)] := hl
  refine i_iload_n (n := 1) C 0 rfl rfl rfl hl 1 rfl ?_
  by_cases c1 : a1 = (0 : Int32)
  · replace hw := hw.1 c1
    refine i_tsw (tgt := 60) C 1 rfl c1 (by decide) (by decide) rfl rfl ?_
    refine i_aload_n (n := 61) C 2 rfl rfl rfl hl 0 rfl ?_
    refine fgC_Pw_184 (n := 64) C 3 rfl rfl h ?_
    exact hret _ _ _ rfl hw (C.dg (k := 4) rfl)
  replace hw := hw.2
  by_cases c2 : a1 = (1 : Int32)
  · replace hw := hw.1 c2
    refine i_tsw (tgt := 65) C 1 rfl c2 (by decide) (by decide) rfl rfl ?_
    refine i_aload_n (n := 66) C 5 rfl rfl rfl hl 0 rfl ?_
    refine fgC_Pw_10 (n := 69) C 6 rfl rfl h ?_
    refine fgC_Pw_245 (n := 72) C 7 rfl rfl h ?_
    exact hret _ _ _ rfl hw (C.dg (k := 8) rfl)
  replace hw := hw.2
  by_cases c3 : a1 = (2 : Int32)
  · replace hw := hw.1 c3
    refine i_tsw (tgt := 73) C 1 rfl c3 (by decide) (by decide) rfl rfl ?_
    refine i_aload_n (n := 74) C 9 rfl rfl rfl hl 0 rfl ?_
    refine fgC_Pw_20 (n := 77) C 10 rfl rfl h ?_
    refine fgC_Pw_248 (n := 80) C 11 rfl rfl h ?_
    exact hret _ _ _ rfl hw (C.dg (k := 12) rfl)
  replace hw := hw.2
  by_cases c4 : a1 = (3 : Int32)
  · replace hw := hw.1 c4
    refine i_tsw (tgt := 81) C 1 rfl c4 (by decide) (by decide) rfl rfl ?_
    refine i_aload_n (n := 82) C 13 rfl rfl rfl hl 0 rfl ?_
    refine fgC_Pw_20 (n := 85) C 14 rfl rfl h ?_
    refine fgC_Pw_251 (n := 88) C 15 rfl rfl h ?_
    exact hret _ _ _ rfl hw (C.dg (k := 16) rfl)
  replace hw := hw.2
  by_cases c5 : a1 = (4 : Int32)
  · replace hw := hw.1 c5
    refine i_tsw (tgt := 89) C 1 rfl c5 (by decide) (by decide) rfl rfl ?_
    refine i_aload_n (n := 90) C 17 rfl rfl rfl hl 0 rfl ?_
    refine fgC_Pw_24 (n := 93) C 18 rfl rfl h ?_
    refine fgC_Pw_254 (n := 96) C 19 rfl rfl h ?_
    exact hret _ _ _ rfl hw (C.dg (k := 20) rfl)
  replace hw := hw.2
  by_cases c6 : a1 = (5 : Int32)
  · replace hw := hw.1 c6
    refine i_tsw (tgt := 97) C 1 rfl c6 (by decide) (by decide) rfl rfl ?_
    refine i_aload_n (n := 98) C 21 rfl rfl rfl hl 0 rfl ?_
    refine fgC_Pw_24 (n := 101) C 22 rfl rfl h ?_
    refine fgC_Pw_257 (n := 104) C 23 rfl rfl h ?_
    exact hret _ _ _ rfl hw (C.dg (k := 24) rfl)
  replace hw := hw.2
  by_cases c7 : a1 = (6 : Int32)
  · replace hw := hw.1 c7
    refine i_tsw (tgt := 105) C 1 rfl c7 (by decide) (by decide) rfl rfl ?_
    refine i_aload_n (n := 106) C 25 rfl rfl rfl hl 0 rfl ?_
    refine fgC_Pw_236 (n := 109) C 26 rfl rfl h ?_
    exact hret _ _ _ rfl hw (C.dg (k := 27) rfl)
  replace hw := hw.2
  by_cases c8 : a1 = (7 : Int32)
  · replace hw := hw.1 c8
    refine i_tsw (tgt := 110) C 1 rfl c8 (by decide) (by decide) rfl rfl ?_
    refine i_aload_n (n := 111) C 28 rfl rfl rfl hl 0 rfl ?_
    refine fgC_Pw_260 (n := 114) C 29 rfl rfl h ?_
    exact hret _ _ _ rfl hw (C.dg (k := 30) rfl)
  replace hw := hw.2
  by_cases c9 : a1 = (8 : Int32)
  · replace hw := hw.1 c9
    refine i_tsw (tgt := 115) C 1 rfl c9 (by decide) (by decide) rfl rfl ?_
    refine i_aload_n (n := 116) C 31 rfl rfl rfl hl 0 rfl ?_
    refine fgC_Pw_263 (n := 119) C 32 rfl rfl h ?_
    exact hret _ _ _ rfl hw (C.dg (k := 33) rfl)
  replace hw := hw.2
  by_cases c10 : a1 = (9 : Int32)
  · replace hw := hw.1 c10
    refine i_tsw (tgt := 120) C 1 rfl c10 (by decide) (by decide) rfl rfl ?_
    refine i_aload_n (n := 121) C 34 rfl rfl rfl hl 0 rfl ?_
    refine fgC_Pw_10 (n := 124) C 35 rfl rfl h ?_
    refine fgC_Pw_219 (n := 127) C 36 rfl rfl h ?_
    exact hret _ _ _ rfl hw (C.dg (k := 37) rfl)
  replace hw := hw.2
  by_cases c11 : a1 = (10 : Int32)
  · replace hw := hw.1 c11
    refine i_tsw (tgt := 128) C 1 rfl c11 (by decide) (by decide) rfl rfl ?_
    refine i_aload_n (n := 129) C 38 rfl rfl rfl hl 0 rfl ?_
    refine fgC_Pw_31 (n := 132) C 39 rfl rfl h ?_
    refine fgC_Pw_266 (n := 135) C 40 rfl rfl h ?_
    exact hret _ _ _ rfl hw (C.dg (k := 41) rfl)
  replace hw := hw.2
  replace hw := hw c1
  replace hw := hw c2
  replace hw := hw c3
  replace hw := hw c4
  replace hw := hw c5
  replace hw := hw c6
  replace hw := hw c7
  replace hw := hw c8
  replace hw := hw c9
  replace hw := hw c10
  replace hw := hw c11
  refine i_tswd (tgt := 136) C 1 rfl (fun j hj => match j, hj with | 0, _ => lv_neT c1 rfl | 1, _ => lv_neT c2 rfl | 2, _ => lv_neT c3 rfl | 3, _ => lv_neT c4 rfl | 4, _ => lv_neT c5 rfl | 5, _ => lv_neT c6 rfl | 6, _ => lv_neT c7 rfl | 7, _ => lv_neT c8 rfl | 8, _ => lv_neT c9 rfl | 9, _ => lv_neT c10 rfl | 10, _ => lv_neT c11 rfl | j + 11, hj => absurd hj (by omega)) rfl ?_
  refine i_bipush (v := (-2 : Int32)) (n := 138) C 42 rfl rfl rfl ?_
  exact hret _ _ _ rfl hw (C.dg (k := 43) rfl)
end S110
