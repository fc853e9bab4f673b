section S67
variable {p : Program} {l : Launch} {e : Env} {R : Room} {s : State} {m : MethodId} {args : Array Value} {below : List Frame} {meth : Method} {c : Code} {H : Heap} {locs : List Loc} {cells slots : Nat} {Q : State → Prop}
variable {cc : ByteArray} {pc n nL : Nat} {ls : Array Slot} {rest : List Value} {D : va_G} {cy : Nat → ClassId} {Z : Nat → Prop} {ad : Nat → Nat} {tb : List (Nat × Instr × Nat)} {lv : List (Nat × Value)}
set_option maxHeartbeats 4000000 in
set_option maxRecDepth 100000 in
theorem m_Th_held {l : Launch} {D : va_G} {cy : Nat → ClassId}    {b : Nat} {w : va_W} {P : Int32 → Prop} (hw : g_Th_held  P) : ∀ sz, Met l y_Th_held (WL y_Th_held c_Th_held 1 (some .int)) { frames := 0, cells := 0, slots := 0, locals := 0 } (va_Pc [.ref b] (PreW D cy (w) sz)) (vp_Si P) 0 0 (fun _ => False) := by
  refine met_p R_Th .int db_Th_held (by decide) rfl rfl (Nat.le_of_ble_eq_true rfl) ?_
  intro p e s m below meth c Z Q ls C h hl hret
  have hl : lv_has ls 1 [(0, .ref b)] := hl
  refine i_iconst (v := (0 : Int32)) (n := 1) C 0 rfl rfl rfl ?_
  exact hret _ _ _ rfl hw (C.dg (k := 1) rfl)
end S67
section S68
variable {p : Program} {l : Launch} {e : Env} {R : Room} {s : State} {m : MethodId} {args : Array Value} {below : List Frame} {meth : Method} {c : Code} {H : Heap} {locs : List Loc} {cells slots : Nat} {Q : State → Prop}
variable {cc : ByteArray} {pc n nL : Nat} {ls : Array Slot} {rest : List Value} {D : va_G} {cy : Nat → ClassId} {Z : Nat → Prop} {ad : Nat → Nat} {tb : List (Nat × Instr × Nat)} {lv : List (Nat × Value)}
set_option maxHeartbeats 4000000 in
set_option maxRecDepth 100000 in
theorem m_To_held_Ho {l : Launch} {D : va_G} {cy : Nat → ClassId} {ad : Nat → Nat} {I : Nat → Int32} {A : Nat → Nat → Int32} {T : Nat → Option Nat} {L : List Nat} {K : Nat → Nat} {F : Nat → Nat → Int32} {b : Nat} {P : Int32 → Prop} (hbq : b ∈ L) (hbk : K b = 2) (hw : g_To_held_Ho F b P) : ∀ sz, Met l y_To_held (WL y_To_held c_To_held 1 (some .int)) { frames := 0, cells := 0, slots := 0, locals := 0 } (va_Pc [.ref b] (PreW D cy (wC cy ad I A T L K F) sz)) (vp_Si P) 0 0 (fun _ => False) := by
  refine met_p R_To .int db_To_held (by decide) rfl rfl (Nat.le_of_ble_eq_true rfl) ?_
  intro p e s m below meth c Z Q ls C h hl hret
  have hl : lv_has ls 1 [(0, .ref b)] := hl
  refine i_aload_n (n := 1) C 0 rfl rfl rfl hl 0 rfl ?_
  refine tg_To_16_Ho (n := 4) C 1 rfl rfl h hbq hbk ?_
  exact hret _ _ _ rfl hw (C.dg (k := 2) rfl)
end S68
section S69
variable {p : Program} {l : Launch} {e : Env} {R : Room} {s : State} {m : MethodId} {args : Array Value} {below : List Frame} {meth : Method} {c : Code} {H : Heap} {locs : List Loc} {cells slots : Nat} {Q : State → Prop}
variable {cc : ByteArray} {pc n nL : Nat} {ls : Array Slot} {rest : List Value} {D : va_G} {cy : Nat → ClassId} {Z : Nat → Prop} {ad : Nat → Nat} {tb : List (Nat × Instr × Nat)} {lv : List (Nat × Value)}
set_option maxHeartbeats 4000000 in
set_option maxRecDepth 100000 in
theorem m_To_held_To {l : Launch} {D : va_G} {cy : Nat → ClassId} {ad : Nat → Nat} {I : Nat → Int32} {A : Nat → Nat → Int32} {T : Nat → Option Nat} {L : List Nat} {K : Nat → Nat} {F : Nat → Nat → Int32} {b : Nat} {P : Int32 → Prop} (hbq : b ∈ L) (hbk : K b = 9) (hw : g_To_held_To F b P) : ∀ sz, Met l y_To_held (WL y_To_held c_To_held 1 (some .int)) { frames := 0, cells := 0, slots := 0, locals := 0 } (va_Pc [.ref b] (PreW D cy (wC cy ad I A T L K F) sz)) (vp_Si P) 0 0 (fun _ => False) := by
  refine met_p R_To .int db_To_held (by decide) rfl rfl (Nat.le_of_ble_eq_true rfl) ?_
  intro p e s m below meth c Z Q ls C h hl hret
  have hl : lv_has ls 1 [(0, .ref b)] := hl
  refine i_aload_n (n := 1) C 0 rfl rfl rfl hl 0 rfl ?_
  refine tg_To_16_To (n := 4) C 1 rfl rfl h hbq hbk ?_
  exact hret _ _ _ rfl hw (C.dg (k := 2) rfl)
end S69
section S70
variable {p : Program} {l : Launch} {e : Env} {R : Room} {s : State} {m : MethodId} {args : Array Value} {below : List Frame} {meth : Method} {c : Code} {H : Heap} {locs : List Loc} {cells slots : Nat} {Q : State → Prop}
variable {cc : ByteArray} {pc n nL : Nat} {ls : Array Slot} {rest : List Value} {D : va_G} {cy : Nat → ClassId} {Z : Nat → Prop} {ad : Nat → Nat} {tb : List (Nat × Instr × Nat)} {lv : List (Nat × Value)}
set_option maxHeartbeats 4000000 in
set_option maxRecDepth 100000 in
theorem m_Th_isLitOrFound {l : Launch} {D : va_G} {cy : Nat → ClassId}    {b : Nat} {w : va_W} {P : Int32 → Prop} (hw : g_Th_isLitOrFound  P) : ∀ sz, Met l y_Th_isLitOrFound (WL y_Th_isLitOrFound c_Th_isLitOrFound 1 (some .boolean)) { frames := 0, cells := 0, slots := 0, locals := 0 } (va_Pc [.ref b] (PreW D cy (w) sz)) (vp_Si P) 0 0 (fun _ => False) := by
  refine met_p R_Th .boolean db_Th_isLitOrFound (by decide) rfl rfl (Nat.le_of_ble_eq_true rfl) ?_
  intro p e s m below meth c Z Q ls C h hl hret
  have hl : lv_has ls 1 [(0, .ref b)] := hl
  refine i_iconst (v := (0 : Int32)) (n := 1) C 0 rfl rfl rfl ?_
  exact hret _ _ _ rfl hw (C.dg (k := 1) rfl)
end S70
section S71
variable {p : Program} {l : Launch} {e : Env} {R : Room} {s : State} {m : MethodId} {args : Array Value} {below : List Frame} {meth : Method} {c : Code} {H : Heap} {locs : List Loc} {cells slots : Nat} {Q : State → Prop}
variable {cc : ByteArray} {pc n nL : Nat} {ls : Array Slot} {rest : List Value} {D : va_G} {cy : Nat → ClassId} {Z : Nat → Prop} {ad : Nat → Nat} {tb : List (Nat × Instr × Nat)} {lv : List (Nat × Value)}
set_option maxHeartbeats 4000000 in
set_option maxRecDepth 100000 in
theorem m_Ho_isLitOrFound_Ho {l : Launch} {D : va_G} {cy : Nat → ClassId} {ad : Nat → Nat} {I : Nat → Int32} {A : Nat → Nat → Int32} {T : Nat → Option Nat} {L : List Nat} {K : Nat → Nat} {F : Nat → Nat → Int32} {b : Nat} {P : Int32 → Prop} (hbq : b ∈ L) (hbk : K b = 2) (hw : g_Ho_isLitOrFound_Ho F b P) : ∀ sz, Met l y_Ho_isLitOrFound (WL y_Ho_isLitOrFound c_Ho_isLitOrFound 1 (some .boolean)) { frames := 0, cells := 0, slots := 0, locals := 0 } (va_Pc [.ref b] (PreW D cy (wC cy ad I A T L K F) sz)) (vp_Si P) 0 0 (fun _ => False) := by
  refine met_p R_Ho .boolean db_Ho_isLitOrFound (by decide) rfl rfl (Nat.le_of_ble_eq_true rfl) ?_
  intro p e s m below meth c Z Q ls C h hl hret
  have hl : lv_has ls 1 [(0, .ref b)] := hl
  refine i_aload_n (n := 1) C 0 rfl rfl rfl hl 0 rfl ?_
  refine tg_Ho_18_Ho (n := 4) C 1 rfl rfl h hbq hbk ?_
  obtain ⟨hB, hw⟩ := hw
  exact hret _ _ _ hB.nar hw (C.dg (k := 2) rfl)
end S71
section S72
variable {p : Program} {l : Launch} {e : Env} {R : Room} {s : State} {m : MethodId} {args : Array Value} {below : List Frame} {meth : Method} {c : Code} {H : Heap} {locs : List Loc} {cells slots : Nat} {Q : State → Prop}
variable {cc : ByteArray} {pc n nL : Nat} {ls : Array Slot} {rest : List Value} {D : va_G} {cy : Nat → ClassId} {Z : Nat → Prop} {ad : Nat → Nat} {tb : List (Nat × Instr × Nat)} {lv : List (Nat × Value)}
set_option maxHeartbeats 4000000 in
set_option maxRecDepth 100000 in
theorem m_Le_isLitOrFound_Le {l : Launch} {D : va_G} {cy : Nat → ClassId} {ad : Nat → Nat} {I : Nat → Int32} {A : Nat → Nat → Int32} {T : Nat → Option Nat} {L : List Nat} {K : Nat → Nat} {F : Nat → Nat → Int32} {b : Nat} {P : Int32 → Prop} (hbq : b ∈ L) (hbk : K b = 3) (hw : g_Le_isLitOrFound_Le F b P) : ∀ sz, Met l y_Le_isLitOrFound (WL y_Le_isLitOrFound c_Le_isLitOrFound 1 (some .boolean)) { frames := 0, cells := 0, slots := 0, locals := 0 } (va_Pc [.ref b] (PreW D cy (wC cy ad I A T L K F) sz)) (vp_Si P) 0 0 (fun _ => False) := by
  refine met_p R_Le .boolean db_Le_isLitOrFound (by decide) rfl rfl (Nat.le_of_ble_eq_true rfl) ?_
  intro p e s m below meth c Z Q ls C h hl hret
  have hl : lv_has ls 1 [(0, .ref b)] := hl
  refine i_aload_n (n := 1) C 0 rfl rfl rfl hl 0 rfl ?_
  refine tg_Le_17_Le (n := 4) C 1 rfl rfl h hbq hbk ?_
  obtain ⟨hB, hw⟩ := hw
  exact hret _ _ _ hB.nar hw (C.dg (k := 2) rfl)
end S72
theorem kV_Pw_188 {R : Room} {s : State} {args : Array Value} (hR : 2 + 1 ≤ R.frames ∧ 8 + (4 + 11) + 45 ≤ R.locals) (ht : ∀ w ∈ GW, w.before args s = true) : CallW R s args R_Pw R_Ne 188 y_Ne_taken c_Ne_taken 4 (some .int) (WL y_Ne_taken c_Ne_taken 4 (some .int)) { frames := 2, cells := 0, slots := 0, locals := 45 } 0 0 2 := cwV 2 ht (GW_v w_3_51 w_3_52 w_3_53 w_1_2 (GW_wl w_3_54)) rfl rfl rfl (by decide +kernel) hR
theorem kV_Pw_191 {R : Room} {s : State} {args : Array Value} (hR : 1 + 1 ≤ R.frames ∧ 8 + (4 + 11) + 21 ≤ R.locals) (ht : ∀ w ∈ GW, w.before args s = true) : CallW R s args R_Pw R_Ne 191 y_Ne_isSource c_Ne_isSource 4 (some .boolean) (WL y_Ne_isSource c_Ne_isSource 4 (some .boolean)) { frames := 1, cells := 0, slots := 0, locals := 21 } 0 0 2 := cwV 2 ht (GW_v w_3_88 w_3_89 w_3_90 w_1_2 (GW_wl w_3_91)) rfl rfl rfl (by decide +kernel) hR
theorem kU_Pw_172_Br {R : Room} {s : State} {args : Array Value} (hR : 0 + 1 ≤ R.frames ∧ 8 + (1 + 11) + 0 ≤ R.locals) (ht : ∀ w ∈ GW, w.before args s = true) (hN : NX s) : va_CU R s args R_Pw R_Br "PipeWorks$Thing" 172 ⟨"PipeWorks$Thing", "kind", "()I"⟩ y_Br_kind c_Br_kind 1 (some .int) (WL y_Br_kind c_Br_kind 1 (some .int)) { frames := 0, cells := 0, slots := 0, locals := 0 } 0 0 0 := va_cwA (x := ⟨"PipeWorks$Thing", "kind", "()I"⟩) 0 ht (GW_u (x := ⟨"PipeWorks$Thing", "kind", "()I"⟩) w_3_50 w_3_27 w_3_28 w_3_29 w_1_11 (GW_wl w_3_30)) rfl rfl rfl (hN.1 _ (by simp [nxW])) (by decide +kernel) hR
theorem kU_Pw_172_Dr {R : Room} {s : State} {args : Array Value} (hR : 0 + 1 ≤ R.frames ∧ 8 + (1 + 11) + 0 ≤ R.locals) (ht : ∀ w ∈ GW, w.before args s = true) (hN : NX s) : va_CU R s args R_Pw R_Dr "PipeWorks$Thing" 172 ⟨"PipeWorks$Thing", "kind", "()I"⟩ y_Dr_kind c_Dr_kind 1 (some .int) (WL y_Dr_kind c_Dr_kind 1 (some .int)) { frames := 0, cells := 0, slots := 0, locals := 0 } 0 0 0 := va_cwA (x := ⟨"PipeWorks$Thing", "kind", "()I"⟩) 0 ht (GW_u (x := ⟨"PipeWorks$Thing", "kind", "()I"⟩) w_3_50 w_3_27 w_3_31 w_3_32 w_1_9 (GW_wl w_3_33)) rfl rfl rfl (hN.1 _ (by simp [nxW])) (by decide +kernel) hR
theorem kU_Pw_172_Ho {R : Room} {s : State} {args : Array Value} (hR : 0 + 1 ≤ R.frames ∧ 8 + (1 + 11) + 0 ≤ R.locals) (ht : ∀ w ∈ GW, w.before args s = true) (hN : NX s) : va_CU R s args R_Pw R_Ho "PipeWorks$Thing" 172 ⟨"PipeWorks$Thing", "kind", "()I"⟩ y_Ho_kind c_Ho_kind 1 (some .int) (WL y_Ho_kind c_Ho_kind 1 (some .int)) { frames := 0, cells := 0, slots := 0, locals := 0 } 0 0 0 := va_cwA (x := ⟨"PipeWorks$Thing", "kind", "()I"⟩) 0 ht (GW_u (x := ⟨"PipeWorks$Thing", "kind", "()I"⟩) w_3_50 w_3_27 w_3_34 w_3_35 w_1_13 (GW_wl w_3_36)) rfl rfl rfl (hN.1 _ (by simp [nxW])) (by decide +kernel) hR
theorem kU_Pw_172_Le {R : Room} {s : State} {args : Array Value} (hR : 0 + 1 ≤ R.frames ∧ 8 + (1 + 11) + 0 ≤ R.locals) (ht : ∀ w ∈ GW, w.before args s = true) (hN : NX s) : va_CU R s args R_Pw R_Le "PipeWorks$Thing" 172 ⟨"PipeWorks$Thing", "kind", "()I"⟩ y_Le_kind c_Le_kind 1 (some .int) (WL y_Le_kind c_Le_kind 1 (some .int)) { frames := 0, cells := 0, slots := 0, locals := 0 } 0 0 0 := va_cwA (x := ⟨"PipeWorks$Thing", "kind", "()I"⟩) 0 ht (GW_u (x := ⟨"PipeWorks$Thing", "kind", "()I"⟩) w_3_50 w_3_27 w_3_37 w_3_38 w_1_14 (GW_wl w_3_39)) rfl rfl rfl (hN.1 _ (by simp [nxW])) (by decide +kernel) hR
theorem kU_Pw_172_Li {R : Room} {s : State} {args : Array Value} (hR : 0 + 1 ≤ R.frames ∧ 8 + (1 + 11) + 0 ≤ R.locals) (ht : ∀ w ∈ GW, w.before args s = true) (hN : NX s) : va_CU R s args R_Pw R_Li "PipeWorks$Thing" 172 ⟨"PipeWorks$Thing", "kind", "()I"⟩ y_Li_kind c_Li_kind 1 (some .int) (WL y_Li_kind c_Li_kind 1 (some .int)) { frames := 0, cells := 0, slots := 0, locals := 0 } 0 0 0 := va_cwA (x := ⟨"PipeWorks$Thing", "kind", "()I"⟩) 0 ht (GW_u (x := ⟨"PipeWorks$Thing", "kind", "()I"⟩) w_3_50 w_3_27 w_3_40 w_3_41 w_1_10 (GW_wl w_3_42)) rfl rfl rfl (hN.1 _ (by simp [nxW])) (by decide +kernel) hR
theorem kU_Pw_172_To {R : Room} {s : State} {args : Array Value} (hR : 0 + 1 ≤ R.frames ∧ 8 + (1 + 11) + 0 ≤ R.locals) (ht : ∀ w ∈ GW, w.before args s = true) (hN : NX s) : va_CU R s args R_Pw R_To "PipeWorks$Thing" 172 ⟨"PipeWorks$Thing", "kind", "()I"⟩ y_To_kind c_To_kind 1 (some .int) (WL y_To_kind c_To_kind 1 (some .int)) { frames := 0, cells := 0, slots := 0, locals := 0 } 0 0 0 := va_cwA (x := ⟨"PipeWorks$Thing", "kind", "()I"⟩) 0 ht (GW_u (x := ⟨"PipeWorks$Thing", "kind", "()I"⟩) w_3_50 w_3_27 w_3_43 w_3_44 w_1_12 (GW_wl w_3_45)) rfl rfl rfl (hN.1 _ (by simp [nxW])) (by decide +kernel) hR
theorem kU_Pw_194_Br {R : Room} {s : State} {args : Array Value} (hR : 0 + 1 ≤ R.frames ∧ 8 + (1 + 11) + 0 ≤ R.locals) (ht : ∀ w ∈ GW, w.before args s = true) (hN : NX s) : va_CU R s args R_Pw R_Br "PipeWorks$Thing" 194 ⟨"PipeWorks$Thing", "held", "()I"⟩ y_Th_held c_Th_held 1 (some .int) (WL y_Th_held c_Th_held 1 (some .int)) { frames := 0, cells := 0, slots := 0, locals := 0 } 0 0 0 := va_cwU (x := ⟨"PipeWorks$Thing", "held", "()I"⟩) 0 ht (GW_u (x := ⟨"PipeWorks$Thing", "held", "()I"⟩) w_3_106 w_3_108 w_3_109 w_3_107 w_1_8 (GW_wl w_3_117)) rfl rfl rfl rfl (by decide +kernel) hR
theorem kU_Pw_194_Dr {R : Room} {s : State} {args : Array Value} (hR : 0 + 1 ≤ R.frames ∧ 8 + (1 + 11) + 0 ≤ R.locals) (ht : ∀ w ∈ GW, w.before args s = true) (hN : NX s) : va_CU R s args R_Pw R_Dr "PipeWorks$Thing" 194 ⟨"PipeWorks$Thing", "held", "()I"⟩ y_Th_held c_Th_held 1 (some .int) (WL y_Th_held c_Th_held 1 (some .int)) { frames := 0, cells := 0, slots := 0, locals := 0 } 0 0 0 := va_cwU (x := ⟨"PipeWorks$Thing", "held", "()I"⟩) 0 ht (GW_u (x := ⟨"PipeWorks$Thing", "held", "()I"⟩) w_3_106 w_3_108 w_3_110 w_3_107 w_1_8 (GW_wl w_3_117)) rfl rfl rfl rfl (by decide +kernel) hR
theorem kU_Pw_194_Ho {R : Room} {s : State} {args : Array Value} (hR : 0 + 1 ≤ R.frames ∧ 8 + (1 + 11) + 0 ≤ R.locals) (ht : ∀ w ∈ GW, w.before args s = true) (hN : NX s) : va_CU R s args R_Pw R_Ho "PipeWorks$Thing" 194 ⟨"PipeWorks$Thing", "held", "()I"⟩ y_To_held c_To_held 1 (some .int) (WL y_To_held c_To_held 1 (some .int)) { frames := 0, cells := 0, slots := 0, locals := 0 } 0 0 0 := va_cwO (x := ⟨"PipeWorks$Thing", "held", "()I"⟩) 0 ht (GW_o (x := ⟨"PipeWorks$Thing", "held", "()I"⟩) w_3_106 w_3_108 w_3_107 w_3_111 w_3_112 w_1_12 (GW_wl w_3_113)) rfl rfl rfl w_3_117 (by decide +kernel) hR
theorem kU_Pw_194_Le {R : Room} {s : State} {args : Array Value} (hR : 0 + 1 ≤ R.frames ∧ 8 + (1 + 11) + 0 ≤ R.locals) (ht : ∀ w ∈ GW, w.before args s = true) (hN : NX s) : va_CU R s args R_Pw R_Le "PipeWorks$Thing" 194 ⟨"PipeWorks$Thing", "held", "()I"⟩ y_Th_held c_Th_held 1 (some .int) (WL y_Th_held c_Th_held 1 (some .int)) { frames := 0, cells := 0, slots := 0, locals := 0 } 0 0 0 := va_cwU (x := ⟨"PipeWorks$Thing", "held", "()I"⟩) 0 ht (GW_u (x := ⟨"PipeWorks$Thing", "held", "()I"⟩) w_3_106 w_3_108 w_3_114 w_3_107 w_1_8 (GW_wl w_3_117)) rfl rfl rfl rfl (by decide +kernel) hR
theorem kU_Pw_194_Li {R : Room} {s : State} {args : Array Value} (hR : 0 + 1 ≤ R.frames ∧ 8 + (1 + 11) + 0 ≤ R.locals) (ht : ∀ w ∈ GW, w.before args s = true) (hN : NX s) : va_CU R s args R_Pw R_Li "PipeWorks$Thing" 194 ⟨"PipeWorks$Thing", "held", "()I"⟩ y_Th_held c_Th_held 1 (some .int) (WL y_Th_held c_Th_held 1 (some .int)) { frames := 0, cells := 0, slots := 0, locals := 0 } 0 0 0 := va_cwU (x := ⟨"PipeWorks$Thing", "held", "()I"⟩) 0 ht (GW_u (x := ⟨"PipeWorks$Thing", "held", "()I"⟩) w_3_106 w_3_108 w_3_115 w_3_107 w_1_8 (GW_wl w_3_117)) rfl rfl rfl rfl (by decide +kernel) hR
theorem kU_Pw_194_To {R : Room} {s : State} {args : Array Value} (hR : 0 + 1 ≤ R.frames ∧ 8 + (1 + 11) + 0 ≤ R.locals) (ht : ∀ w ∈ GW, w.before args s = true) (hN : NX s) : va_CU R s args R_Pw R_To "PipeWorks$Thing" 194 ⟨"PipeWorks$Thing", "held", "()I"⟩ y_To_held c_To_held 1 (some .int) (WL y_To_held c_To_held 1 (some .int)) { frames := 0, cells := 0, slots := 0, locals := 0 } 0 0 0 := va_cwO (x := ⟨"PipeWorks$Thing", "held", "()I"⟩) 0 ht (GW_o (x := ⟨"PipeWorks$Thing", "held", "()I"⟩) w_3_106 w_3_108 w_3_107 w_3_116 w_3_112 w_1_12 (GW_wl w_3_113)) rfl rfl rfl w_3_117 (by decide +kernel) hR
theorem kU_Pw_197_Br {R : Room} {s : State} {args : Array Value} (hR : 0 + 1 ≤ R.frames ∧ 8 + (1 + 11) + 0 ≤ R.locals) (ht : ∀ w ∈ GW, w.before args s = true) (hN : NX s) : va_CU R s args R_Pw R_Br "PipeWorks$Thing" 197 ⟨"PipeWorks$Thing", "isLitOrFound", "()Z"⟩ y_Th_isLitOrFound c_Th_isLitOrFound 1 (some .boolean) (WL y_Th_isLitOrFound c_Th_isLitOrFound 1 (some .boolean)) { frames := 0, cells := 0, slots := 0, locals := 0 } 0 0 0 := va_cwU (x := ⟨"PipeWorks$Thing", "isLitOrFound", "()Z"⟩) 0 ht (GW_u (x := ⟨"PipeWorks$Thing", "isLitOrFound", "()Z"⟩) w_3_118 w_3_120 w_3_121 w_3_119 w_1_8 (GW_wl w_3_131)) rfl rfl rfl rfl (by decide +kernel) hR
theorem kU_Pw_197_Dr {R : Room} {s : State} {args : Array Value} (hR : 0 + 1 ≤ R.frames ∧ 8 + (1 + 11) + 0 ≤ R.locals) (ht : ∀ w ∈ GW, w.before args s = true) (hN : NX s) : va_CU R s args R_Pw R_Dr "PipeWorks$Thing" 197 ⟨"PipeWorks$Thing", "isLitOrFound", "()Z"⟩ y_Th_isLitOrFound c_Th_isLitOrFound 1 (some .boolean) (WL y_Th_isLitOrFound c_Th_isLitOrFound 1 (some .boolean)) { frames := 0, cells := 0, slots := 0, locals := 0 } 0 0 0 := va_cwU (x := ⟨"PipeWorks$Thing", "isLitOrFound", "()Z"⟩) 0 ht (GW_u (x := ⟨"PipeWorks$Thing", "isLitOrFound", "()Z"⟩) w_3_118 w_3_120 w_3_122 w_3_119 w_1_8 (GW_wl w_3_131)) rfl rfl rfl rfl (by decide +kernel) hR
theorem kU_Pw_197_Ho {R : Room} {s : State} {args : Array Value} (hR : 0 + 1 ≤ R.frames ∧ 8 + (1 + 11) + 0 ≤ R.locals) (ht : ∀ w ∈ GW, w.before args s = true) (hN : NX s) : va_CU R s args R_Pw R_Ho "PipeWorks$Thing" 197 ⟨"PipeWorks$Thing", "isLitOrFound", "()Z"⟩ y_Ho_isLitOrFound c_Ho_isLitOrFound 1 (some .boolean) (WL y_Ho_isLitOrFound c_Ho_isLitOrFound 1 (some .boolean)) { frames := 0, cells := 0, slots := 0, locals := 0 } 0 0 0 := va_cwO (x := ⟨"PipeWorks$Thing", "isLitOrFound", "()Z"⟩) 0 ht (GW_o (x := ⟨"PipeWorks$Thing", "isLitOrFound", "()Z"⟩) w_3_118 w_3_120 w_3_119 w_3_123 w_3_124 w_1_13 (GW_wl w_3_125)) rfl rfl rfl w_3_131 (by decide +kernel) hR
theorem kU_Pw_197_Le {R : Room} {s : State} {args : Array Value} (hR : 0 + 1 ≤ R.frames ∧ 8 + (1 + 11) + 0 ≤ R.locals) (ht : ∀ w ∈ GW, w.before args s = true) (hN : NX s) : va_CU R s args R_Pw R_Le "PipeWorks$Thing" 197 ⟨"PipeWorks$Thing", "isLitOrFound", "()Z"⟩ y_Le_isLitOrFound c_Le_isLitOrFound 1 (some .boolean) (WL y_Le_isLitOrFound c_Le_isLitOrFound 1 (some .boolean)) { frames := 0, cells := 0, slots := 0, locals := 0 } 0 0 0 := va_cwO (x := ⟨"PipeWorks$Thing", "isLitOrFound", "()Z"⟩) 0 ht (GW_o (x := ⟨"PipeWorks$Thing", "isLitOrFound", "()Z"⟩) w_3_118 w_3_120 w_3_119 w_3_126 w_3_127 w_1_14 (GW_wl w_3_128)) rfl rfl rfl w_3_131 (by decide +kernel) hR
theorem kU_Pw_197_Li {R : Room} {s : State} {args : Array Value} (hR : 0 + 1 ≤ R.frames ∧ 8 + (1 + 11) + 0 ≤ R.locals) (ht : ∀ w ∈ GW, w.before args s = true) (hN : NX s) : va_CU R s args R_Pw R_Li "PipeWorks$Thing" 197 ⟨"PipeWorks$Thing", "isLitOrFound", "()Z"⟩ y_Th_isLitOrFound c_Th_isLitOrFound 1 (some .boolean) (WL y_Th_isLitOrFound c_Th_isLitOrFound 1 (some .boolean)) { frames := 0, cells := 0, slots := 0, locals := 0 } 0 0 0 := va_cwU (x := ⟨"PipeWorks$Thing", "isLitOrFound", "()Z"⟩) 0 ht (GW_u (x := ⟨"PipeWorks$Thing", "isLitOrFound", "()Z"⟩) w_3_118 w_3_120 w_3_129 w_3_119 w_1_8 (GW_wl w_3_131)) rfl rfl rfl rfl (by decide +kernel) hR
theorem kU_Pw_197_To {R : Room} {s : State} {args : Array Value} (hR : 0 + 1 ≤ R.frames ∧ 8 + (1 + 11) + 0 ≤ R.locals) (ht : ∀ w ∈ GW, w.before args s = true) (hN : NX s) : va_CU R s args R_Pw R_To "PipeWorks$Thing" 197 ⟨"PipeWorks$Thing", "isLitOrFound", "()Z"⟩ y_Th_isLitOrFound c_Th_isLitOrFound 1 (some .boolean) (WL y_Th_isLitOrFound c_Th_isLitOrFound 1 (some .boolean)) { frames := 0, cells := 0, slots := 0, locals := 0 } 0 0 0 := va_cwU (x := ⟨"PipeWorks$Thing", "isLitOrFound", "()Z"⟩) 0 ht (GW_u (x := ⟨"PipeWorks$Thing", "isLitOrFound", "()Z"⟩) w_3_118 w_3_120 w_3_130 w_3_119 w_1_8 (GW_wl w_3_131)) rfl rfl rfl rfl (by decide +kernel) hR
section S73
variable {p : Program} {l : Launch} {e : Env} {R : Room} {s : State} {m : MethodId} {args : Array Value} {below : List Frame} {meth : Method} {c : Code} {H : Heap} {locs : List Loc} {cells slots : Nat} {Q : State → Prop}
variable {cc : ByteArray} {pc n nL : Nat} {ls : Array Slot} {rest : List Value} {D : va_G} {cy : Nat → ClassId} {Z : Nat → Prop} {ad : Nat → Nat} {tb : List (Nat × Instr × Nat)} {lv : List (Nat × Value)}
section G73
variable {I : Nat → Int32} {A : Nat → Nat → Int32} {T : Nat → Option Nat} {L : List Nat} {K : Nat → Nat} {F : Nat → Nat → Int32}
set_option maxHeartbeats 4000000 in
set_option maxRecDepth 100000 in
theorem gdc_Pw_172 {q : Nat}  {P : Int32 → Prop} (C : CX D cy R_Pw cc tb nL p s m args c Z) (k : Nat) (hk : tb[k]? = some (pc, .invokevirtual 172, 3)) (hn : pc + 3 = n) (hl : lv_has ls nL lv) (h : HXw D Z s.heap H locs (wC cy ad I A T L K F)) (hw : gd_kind L K F q  P) (hfr : 1 ≤ R.frames) (hlo : 20 ≤ R.locals) (hs : (rest.map fun v => v.category).sum ≤ 8) (hc : cells ≤ R.cells ∧ slots ≤ R.slots) (kk : ∀ r : Int32, P r → W p l e R s m args below meth c H locs cells slots Q (F0 m n ls (.int r :: rest))) : W p l e R s m args below meth c H locs cells slots Q (F0 m pc ls (.ref q :: rest)) := by
  obtain ⟨hq, hw⟩ := hw
  rcases hw with ⟨hk0, hw⟩ | ⟨hk0, hw⟩ | ⟨hk0, hw⟩ | ⟨hk0, hw⟩ | ⟨hk0, hw⟩ | ⟨hk0, hw⟩
  · obtain ⟨q0, he, -⟩ := wC_th (cy := cy) (ad := ad) (I := I) (A := A) (T := T) (F := F) hq hk0
    exact i_callUp (rest := rest) (ci := 0) (qc := (R_Br, T_Br, 6)) C k hk hn hl h rfl he (kU_Pw_172_Br ⟨by omega, by omega⟩) (m_Br_kind hw) rfl rfl hs hc kk
  · obtain ⟨q0, he, -⟩ := wC_th (cy := cy) (ad := ad) (I := I) (A := A) (T := T) (F := F) hq hk0
    exact i_callUp (rest := rest) (ci := 1) (qc := (R_Dr, T_Dr, 3)) C k hk hn hl h rfl he (kU_Pw_172_Dr ⟨by omega, by omega⟩) (m_Dr_kind hw) rfl rfl hs hc kk
  · obtain ⟨q0, he, -⟩ := wC_th (cy := cy) (ad := ad) (I := I) (A := A) (T := T) (F := F) hq hk0
    exact i_callUp (rest := rest) (ci := 2) (qc := (R_Ho, T_Ho, 7)) C k hk hn hl h rfl he (kU_Pw_172_Ho ⟨by omega, by omega⟩) (m_Ho_kind hw) rfl rfl hs hc kk
  · obtain ⟨q0, he, -⟩ := wC_th (cy := cy) (ad := ad) (I := I) (A := A) (T := T) (F := F) hq hk0
    exact i_callUp (rest := rest) (ci := 3) (qc := (R_Le, T_Le, 3)) C k hk hn hl h rfl he (kU_Pw_172_Le ⟨by omega, by omega⟩) (m_Le_kind_Le hq hk0 hw) rfl rfl hs hc kk
  · obtain ⟨q0, he, -⟩ := wC_th (cy := cy) (ad := ad) (I := I) (A := A) (T := T) (F := F) hq hk0
    exact i_callUp (rest := rest) (ci := 4) (qc := (R_Li, T_Li, 4)) C k hk hn hl h rfl he (kU_Pw_172_Li ⟨by omega, by omega⟩) (m_Li_kind hw) rfl rfl hs hc kk
  · obtain ⟨q0, he, -⟩ := wC_th (cy := cy) (ad := ad) (I := I) (A := A) (T := T) (F := F) hq hk0
    exact i_callUp (rest := rest) (ci := 9) (qc := (R_To, T_To, 3)) C k hk hn hl h rfl he (kU_Pw_172_To ⟨by omega, by omega⟩) (m_To_kind hw) rfl rfl hs hc kk
set_option maxHeartbeats 4000000 in
set_option maxRecDepth 100000 in
theorem gdc_Pw_194 {q : Nat}  {P : Int32 → Prop} (C : CX D cy R_Pw cc tb nL p s m args c Z) (k : Nat) (hk : tb[k]? = some (pc, .invokevirtual 194, 3)) (hn : pc + 3 = n) (hl : lv_has ls nL lv) (h : HXw D Z s.heap H locs (wC cy ad I A T L K F)) (hw : gd_held L K F q  P) (hfr : 1 ≤ R.frames) (hlo : 20 ≤ R.locals) (hs : (rest.map fun v => v.category).sum ≤ 8) (hc : cells ≤ R.cells ∧ slots ≤ R.slots) (kk : ∀ r : Int32, P r → W p l e R s m args below meth c H locs cells slots Q (F0 m n ls (.int r :: rest))) : W p l e R s m args below meth c H locs cells slots Q (F0 m pc ls (.ref q :: rest)) := by
  obtain ⟨hq, hw⟩ := hw
  rcases hw with ⟨hk0, hw⟩ | ⟨hk0, hw⟩ | ⟨hk0, hw⟩ | ⟨hk0, hw⟩ | ⟨hk0, hw⟩ | ⟨hk0, hw⟩
  · obtain ⟨q0, he, -⟩ := wC_th (cy := cy) (ad := ad) (I := I) (A := A) (T := T) (F := F) hq hk0
    exact i_callUp (rest := rest) (ci := 0) (qc := (R_Br, T_Br, 6)) C k hk hn hl h rfl he (kU_Pw_194_Br ⟨by omega, by omega⟩) (m_Th_held hw) rfl rfl hs hc kk
  · obtain ⟨q0, he, -⟩ := wC_th (cy := cy) (ad := ad) (I := I) (A := A) (T := T) (F := F) hq hk0
    exact i_callUp (rest := rest) (ci := 1) (qc := (R_Dr, T_Dr, 3)) C k hk hn hl h rfl he (kU_Pw_194_Dr ⟨by omega, by omega⟩) (m_Th_held hw) rfl rfl hs hc kk
  · obtain ⟨q0, he, -⟩ := wC_th (cy := cy) (ad := ad) (I := I) (A := A) (T := T) (F := F) hq hk0
    exact i_callUp (rest := rest) (ci := 2) (qc := (R_Ho, T_Ho, 7)) C k hk hn hl h rfl he (kU_Pw_194_Ho ⟨by omega, by omega⟩) (m_To_held_Ho hq hk0 hw) rfl rfl hs hc kk
  · obtain ⟨q0, he, -⟩ := wC_th (cy := cy) (ad := ad) (I := I) (A := A) (T := T) (F := F) hq hk0
    exact i_callUp (rest := rest) (ci := 3) (qc := (R_Le, T_Le, 3)) C k hk hn hl h rfl he (kU_Pw_194_Le ⟨by omega, by omega⟩) (m_Th_held hw) rfl rfl hs hc kk
  · obtain ⟨q0, he, -⟩ := wC_th (cy := cy) (ad := ad) (I := I) (A := A) (T := T) (F := F) hq hk0
    exact i_callUp (rest := rest) (ci := 4) (qc := (R_Li, T_Li, 4)) C k hk hn hl h rfl he (kU_Pw_194_Li ⟨by omega, by omega⟩) (m_Th_held hw) rfl rfl hs hc kk
  · obtain ⟨q0, he, -⟩ := wC_th (cy := cy) (ad := ad) (I := I) (A := A) (T := T) (F := F) hq hk0
    exact i_callUp (rest := rest) (ci := 9) (qc := (R_To, T_To, 3)) C k hk hn hl h rfl he (kU_Pw_194_To ⟨by omega, by omega⟩) (m_To_held_To hq hk0 hw) rfl rfl hs hc kk
set_option maxHeartbeats 4000000 in
set_option maxRecDepth 100000 in
theorem gdc_Pw_197 {q : Nat}  {P : Int32 → Prop} (C : CX D cy R_Pw cc tb nL p s m args c Z) (k : Nat) (hk : tb[k]? = some (pc, .invokevirtual 197, 3)) (hn : pc + 3 = n) (hl : lv_has ls nL lv) (h : HXw D Z s.heap H locs (wC cy ad I A T L K F)) (hw : gd_isLitOrFound L K F q  P) (hfr : 1 ≤ R.frames) (hlo : 20 ≤ R.locals) (hs : (rest.map fun v => v.category).sum ≤ 8) (hc : cells ≤ R.cells ∧ slots ≤ R.slots) (kk : ∀ r : Int32, P r → W p l e R s m args below meth c H locs cells slots Q (F0 m n ls (.int r :: rest))) : W p l e R s m args below meth c H locs cells slots Q (F0 m pc ls (.ref q :: rest)) := by
  obtain ⟨hq, hw⟩ := hw
  rcases hw with ⟨hk0, hw⟩ | ⟨hk0, hw⟩ | ⟨hk0, hw⟩ | ⟨hk0, hw⟩ | ⟨hk0, hw⟩ | ⟨hk0, hw⟩
  · obtain ⟨q0, he, -⟩ := wC_th (cy := cy) (ad := ad) (I := I) (A := A) (T := T) (F := F) hq hk0
    exact i_callUp (rest := rest) (ci := 0) (qc := (R_Br, T_Br, 6)) C k hk hn hl h rfl he (kU_Pw_197_Br ⟨by omega, by omega⟩) (m_Th_isLitOrFound hw) rfl rfl hs hc kk
  · obtain ⟨q0, he, -⟩ := wC_th (cy := cy) (ad := ad) (I := I) (A := A) (T := T) (F := F) hq hk0
    exact i_callUp (rest := rest) (ci := 1) (qc := (R_Dr, T_Dr, 3)) C k hk hn hl h rfl he (kU_Pw_197_Dr ⟨by omega, by omega⟩) (m_Th_isLitOrFound hw) rfl rfl hs hc kk
  · obtain ⟨q0, he, -⟩ := wC_th (cy := cy) (ad := ad) (I := I) (A := A) (T := T) (F := F) hq hk0
    exact i_callUp (rest := rest) (ci := 2) (qc := (R_Ho, T_Ho, 7)) C k hk hn hl h rfl he (kU_Pw_197_Ho ⟨by omega, by omega⟩) (m_Ho_isLitOrFound_Ho hq hk0 hw) rfl rfl hs hc kk
  · obtain ⟨q0, he, -⟩ := wC_th (cy := cy) (ad := ad) (I := I) (A := A) (T := T) (F := F) hq hk0
    exact i_callUp (rest := rest) (ci := 3) (qc := (R_Le, T_Le, 3)) C k hk hn hl h rfl he (kU_Pw_197_Le ⟨by omega, by omega⟩) (m_Le_isLitOrFound_Le hq hk0 hw) rfl rfl hs hc kk
  · obtain ⟨q0, he, -⟩ := wC_th (cy := cy) (ad := ad) (I := I) (A := A) (T := T) (F := F) hq hk0
    exact i_callUp (rest := rest) (ci := 4) (qc := (R_Li, T_Li, 4)) C k hk hn hl h rfl he (kU_Pw_197_Li ⟨by omega, by omega⟩) (m_Th_isLitOrFound hw) rfl rfl hs hc kk
  · obtain ⟨q0, he, -⟩ := wC_th (cy := cy) (ad := ad) (I := I) (A := A) (T := T) (F := F) hq hk0
    exact i_callUp (rest := rest) (ci := 9) (qc := (R_To, T_To, 3)) C k hk hn hl h rfl he (kU_Pw_197_To ⟨by omega, by omega⟩) (m_Th_isLitOrFound hw) rfl rfl hs hc kk
end G73
set_option maxHeartbeats 4000000 in
set_option maxRecDepth 100000 in
theorem e_Pw_ofNode_167 {I : Nat → Int32} {A : Nat → Nat → Int32} {T : Nat → Option Nat} {L : List Nat} {K : Nat → Nat} {F : Nat → Nat → Int32} {a1 : Int32} {a2 : Int32} {P : Int32 → Prop}  (C : CX D cy R_Pw c_Pw_ofNode tb_Pw_ofNode 4 p s m args c Z) (h : HXw D Z s.heap H locs (wC cy ad I A T L K F)) (hret : RetP p l e { frames := 3, cells := 0, slots := 0, locals := 68 } s m args below meth c c_Pw_ofNode .int H locs Q P) :
    ∀ (s0 : Int32) (ls : Array Slot), lv_has ls 4 [] → g_Pw_ofNode_167 I A T L K F a1 a2 P  s0 → W p l e { frames := 3, cells := 0, slots := 0, locals := 68 } s m args below meth c H locs 0 0 Q (F0 m 167 ls [.int s0]) := by
  intro s0 ls hl hw
  refine i_callSp (rest := []) (n := 170) C 64 rfl rfl hl h (kS_Pw_103 ⟨by decide, by decide⟩) (m_Pw_bit hw) rfl rfl (Nat.le_of_ble_eq_true rfl) ⟨by decide, by decide⟩ (fun r15 hw => ?_)
  exact hret _ _ _ rfl hw (C.dg (k := 65) rfl)
set_option maxHeartbeats 4000000 in
set_option maxRecDepth 100000 in
theorem e_Pw_ofNode_166 {I : Nat → Int32} {A : Nat → Nat → Int32} {T : Nat → Option Nat} {L : List Nat} {K : Nat → Nat} {F : Nat → Nat → Int32} {a1 : Int32} {a2 : Int32} {P : Int32 → Prop}  (C : CX D cy R_Pw c_Pw_ofNode tb_Pw_ofNode 4 p s m args c Z) (h : HXw D Z s.heap H locs (wC cy ad I A T L K F)) (hret : RetP p l e { frames := 3, cells := 0, slots := 0, locals := 68 } s m args below meth c c_Pw_ofNode .int H locs Q P) :
    ∀ (ls : Array Slot), lv_has ls 4 [] → g_Pw_ofNode_166 I A T L K F a1 a2 P   → W p l e { frames := 3, cells := 0, slots := 0, locals := 68 } s m args below meth c H locs 0 0 Q (F0 m 166 ls []) := by
  intro  ls hl hw
  refine i_iconst (v := (0 : Int32)) (n := 167) C 63 rfl rfl rfl ?_
  exact e_Pw_ofNode_167 C h hret  (0 : Int32) ls hl hw
set_option maxHeartbeats 4000000 in
set_option maxRecDepth 100000 in
theorem m_Pw_ofNode {l : Launch} {D : va_G} {cy : Nat → ClassId} {ad : Nat → Nat} {I : Nat → Int32} {A : Nat → Nat → Int32} {T : Nat → Option Nat} {L : List Nat} {K : Nat → Nat} {F : Nat → Nat → Int32} {a1 : Int32} {a2 : Int32} {P : Int32 → Prop} (hw : g_Pw_ofNode I A T L K F a1 a2 P) : ∀ sz, Met l y_Pw_ofNode (WL y_Pw_ofNode c_Pw_ofNode 4 (some .int)) { frames := 3, cells := 0, slots := 0, locals := 68 } (va_Pc [.ref (ad 0), .int a1, .int a2] (PreW D cy (wC cy ad I A T L K F) sz)) (vp_Si P) 0 0 (fun _ => False) := by
  refine met_p R_Pw .int db_Pw_ofNode (by decide) rfl rfl (Nat.le_of_ble_eq_true rfl) ?_
  intro p e s m below meth c Z Q ls C h hl hret
  have hl : lv_has ls 4 [(0, .ref (ad 0)), (1, .int a1), (2, .int a2)] := hl
  refine i_aload_n (n := 1) C 0 rfl rfl rfl hl 0 rfl ?_
  refine fgC_Pw_10 (n := 4) C 1 rfl rfl h ?_
  refine i_iload_n (n := 5) C 2 rfl rfl rfl hl 1 rfl ?_
  refine i_callVp (rest := []) (ci := 5) (qc := (R_Ne, T_Ne, 17)) (n := 8) C 3 rfl rfl hl h rfl (wC_get (h := 1) (by decide)) (kV_Pw_77 ⟨by decide, by decide⟩) (m_Ne_has hw) rfl rfl (Nat.le_of_ble_eq_true rfl) ⟨by decide, by decide⟩ (fun r1 hw => ?_)
  refine i_if_ne (tgt := 13) (n := 11) C 4 rfl rfl rfl (fun c2 => ?_) (fun c2 => ?_)
  · replace hw := hw.1 c2
    refine i_aload_n (n := 14) C 7 rfl rfl rfl hl 0 rfl ?_
    refine fgC_Pw_10 (n := 17) C 8 rfl rfl h ?_
    refine fgC_Pw_168 (n := 20) C 9 rfl rfl h ?_
    refine i_iload_n (n := 21) C 10 rfl rfl rfl hl 1 rfl ?_
    obtain ⟨hb, hw⟩ := hw
    refine i_aldq (n := 22) C 11 rfl rfl h (wC_get (h := 5) (by decide)) hb (fun c4 => ?_) (fun q3 c4 => ?_)
    · replace hw := hw.1 c4
      refine i_astore_nN (lv' := [(3, .null), (0, .ref (ad 0)), (1, .int a1), (2, .int a2)]) (n := 23) C 12 rfl rfl rfl hl (by decide) rfl (fun ls hl => ?_)
      refine i_iload_n (n := 24) C 13 rfl rfl rfl hl 3 rfl ?_
      by_cases c5 : a2 = (0 : Int32)
      · replace hw := hw.1 c5
        refine i_tsw (tgt := 76) C 14 rfl c5 (by decide) (by decide) rfl rfl ?_
        refine i_aload_nN (n := 77) C 15 rfl rfl rfl hl 0 rfl ?_
        refine i_ifnonnullN (n := 80) C 16 rfl rfl ?_
        refine i_iconst (v := (0 : Int32)) (n := 81) C 17 rfl rfl rfl ?_
        refine i_goto (tgt := 88) C 18 rfl rfl ?_
        exact hret _ _ _ rfl hw (C.dg (k := 21) rfl)
      replace hw := hw.2
      by_cases c6 : a2 = (1 : Int32)
      · replace hw := hw.1 c6
        refine i_tsw (tgt := 89) C 14 rfl c6 (by decide) (by decide) rfl rfl ?_
        refine i_aload_n (n := 90) C 22 rfl rfl rfl hl 1 rfl ?_
        refine fgC_Pw_10 (n := 93) C 23 rfl rfl h ?_
        refine fgC_Pw_178 (n := 96) C 24 rfl rfl h ?_
        refine i_iload_n (n := 97) C 25 rfl rfl rfl hl 2 rfl ?_
        obtain ⟨hb, hw⟩ := hw
        refine i_iald (n := 98) C 26 rfl rfl h (wC_arr 7 (by decide) rfl) hb ?_
        exact hret _ _ _ rfl hw (C.dg (k := 27) rfl)
      replace hw := hw.2
      by_cases c7 : a2 = (2 : Int32)
      · replace hw := hw.1 c7
        refine i_tsw (tgt := 99) C 14 rfl c7 (by decide) (by decide) rfl rfl ?_
        refine i_aload_n (n := 100) C 28 rfl rfl rfl hl 1 rfl ?_
        refine fgC_Pw_10 (n := 103) C 29 rfl rfl h ?_
        refine fgC_Pw_181 (n := 106) C 30 rfl rfl h ?_
        refine i_iload_n (n := 107) C 31 rfl rfl rfl hl 2 rfl ?_
        obtain ⟨hb, hw⟩ := hw
        refine i_iald (n := 108) C 32 rfl rfl h (wC_arr 8 (by decide) rfl) hb ?_
        exact hret _ _ _ rfl hw (C.dg (k := 33) rfl)
      replace hw := hw.2
      by_cases c8 : a2 = (3 : Int32)
      · replace hw := hw.1 c8
        refine i_tsw (tgt := 109) C 14 rfl c8 (by decide) (by decide) rfl rfl ?_
        refine i_aload_n (n := 110) C 34 rfl rfl rfl hl 1 rfl ?_
        refine fgC_Pw_10 (n := 113) C 35 rfl rfl h ?_
        refine i_iload_n (n := 114) C 36 rfl rfl rfl hl 2 rfl ?_
        refine i_aload_n (n := 115) C 37 rfl rfl rfl hl 1 rfl ?_
        refine fgC_Pw_184 (n := 118) C 38 rfl rfl h ?_
        refine i_callVp (rest := []) (ci := 5) (qc := (R_Ne, T_Ne, 17)) (n := 121) C 39 rfl rfl hl h rfl (wC_get (h := 1) (by decide)) (kV_Pw_188 ⟨by decide, by decide⟩) (m_Ne_taken hw) rfl rfl (Nat.le_of_ble_eq_true rfl) ⟨by decide, by decide⟩ (fun r9 hw => ?_)
        exact hret _ _ _ rfl hw (C.dg (k := 40) rfl)
      replace hw := hw.2
      by_cases c10 : a2 = (4 : Int32)
      · replace hw := hw.1 c10
        refine i_tsw (tgt := 122) C 14 rfl c10 (by decide) (by decide) rfl rfl ?_
        refine i_aload_n (n := 123) C 41 rfl rfl rfl hl 1 rfl ?_
        refine fgC_Pw_10 (n := 126) C 42 rfl rfl h ?_
        refine i_iload_n (n := 127) C 43 rfl rfl rfl hl 2 rfl ?_
        refine i_aload_n (n := 128) C 44 rfl rfl rfl hl 1 rfl ?_
        refine fgC_Pw_184 (n := 131) C 45 rfl rfl h ?_
        refine i_callVp (rest := []) (ci := 5) (qc := (R_Ne, T_Ne, 17)) (n := 134) C 46 rfl rfl hl h rfl (wC_get (h := 1) (by decide)) (kV_Pw_191 ⟨by decide, by decide⟩) (m_Ne_isSource hw) rfl rfl (Nat.le_of_ble_eq_true rfl) ⟨by decide, by decide⟩ (fun r11 hw => ?_)
        refine i_callSp (rest := []) (n := 137) C 47 rfl rfl hl h (kS_Pw_103 ⟨by decide, by decide⟩) (m_Pw_bit hw) rfl rfl (Nat.le_of_ble_eq_true rfl) ⟨by decide, by decide⟩ (fun r12 hw => ?_)
        exact hret _ _ _ rfl hw (C.dg (k := 48) rfl)
      replace hw := hw.2
      by_cases c13 : a2 = (5 : Int32)
      · replace hw := hw.1 c13
        refine i_tsw (tgt := 138) C 14 rfl c13 (by decide) (by decide) rfl rfl ?_
        refine i_aload_nN (n := 139) C 49 rfl rfl rfl hl 0 rfl ?_
        refine i_ifnonnullN (n := 142) C 50 rfl rfl ?_
        refine i_iconst (v := (0 : Int32)) (n := 143) C 51 rfl rfl rfl ?_
        refine i_goto (tgt := 150) C 52 rfl rfl ?_
        exact hret _ _ _ rfl hw (C.dg (k := 55) rfl)
      replace hw := hw.2
      by_cases c14 : a2 = (6 : Int32)
      · replace hw := hw.1 c14
        refine i_tsw (tgt := 151) C 14 rfl c14 (by decide) (by decide) rfl rfl ?_
        refine i_aload_nN (n := 152) C 56 rfl rfl rfl hl 0 rfl ?_
        refine i_ifnullN (tgt := 166) C 57 rfl rfl ?_
        exact e_Pw_ofNode_166 C h hret   ls (lv_sub hl [] rfl) hw
      replace hw := hw.2
      by_cases c16 : a2 = (7 : Int32)
      · replace hw := hw.1 c16
        refine i_tsw (tgt := 171) C 14 rfl c16 (by decide) (by decide) rfl rfl ?_
        refine i_aload_n (n := 172) C 66 rfl rfl rfl hl 1 rfl ?_
        refine fgC_Pw_35 (n := 175) C 67 rfl rfl h ?_
        refine i_iload_n (n := 176) C 68 rfl rfl rfl hl 2 rfl ?_
        obtain ⟨hb, hw⟩ := hw
        refine i_iald (n := 177) C 69 rfl rfl h (wC_arr 0 (by decide) rfl) hb ?_
        exact hret _ _ _ rfl hw (C.dg (k := 70) rfl)
      replace hw := hw.2
      by_cases c17 : a2 = (8 : Int32)
      · replace hw := hw.1 c17
        refine i_tsw (tgt := 178) C 14 rfl c17 (by decide) (by decide) rfl rfl ?_
        refine i_aload_n (n := 179) C 71 rfl rfl rfl hl 1 rfl ?_
        refine fgC_Pw_54 (n := 182) C 72 rfl rfl h ?_
        refine i_iload_n (n := 183) C 73 rfl rfl rfl hl 2 rfl ?_
        obtain ⟨hb, hw⟩ := hw
        refine i_iald (n := 184) C 74 rfl rfl h (wC_arr 4 (by decide) rfl) hb ?_
        exact hret _ _ _ rfl hw (C.dg (k := 75) rfl)
      replace hw := hw.2
      replace hw := hw c5
      replace hw := hw c6
      replace hw := hw c7
      replace hw := hw c8
      replace hw := hw c10
      replace hw := hw c13
      replace hw := hw c14
      replace hw := hw c16
      replace hw := hw c17
      refine i_tswd (tgt := 185) C 14 rfl (fun j hj => match j, hj with | 0, _ => lv_neT c5 rfl | 1, _ => lv_neT c6 rfl | 2, _ => lv_neT c7 rfl | 3, _ => lv_neT c8 rfl | 4, _ => lv_neT c10 rfl | 5, _ => lv_neT c13 rfl | 6, _ => lv_neT c14 rfl | 7, _ => lv_neT c16 rfl | 8, _ => lv_neT c17 rfl | j + 9, hj => absurd hj (by omega)) rfl ?_
      refine i_bipush (v := (-2 : Int32)) (n := 187) C 76 rfl rfl rfl ?_
      exact hret _ _ _ rfl hw (C.dg (k := 77) rfl)
    · replace hw := hw.2 q3 c4
      refine i_astore_n (lv' := [(3, .ref q3), (0, .ref (ad 0)), (1, .int a1), (2, .int a2)]) (n := 23) C 12 rfl rfl rfl hl (by decide) rfl (fun ls hl => ?_)
      refine i_iload_n (n := 24) C 13 rfl rfl rfl hl 3 rfl ?_
      by_cases c18 : a2 = (0 : Int32)
      · replace hw := hw.1 c18
        refine i_tsw (tgt := 76) C 14 rfl c18 (by decide) (by decide) rfl rfl ?_
        refine i_aload_n (n := 77) C 15 rfl rfl rfl hl 0 rfl ?_
        refine i_ifnonnull (tgt := 84) C 16 rfl rfl ?_
        refine i_aload_n (n := 85) C 19 rfl rfl rfl hl 0 rfl ?_
        refine gdc_Pw_172 (rest := []) (n := 88) C 20 rfl rfl hl h hw (by decide) (by decide) (Nat.le_of_ble_eq_true rfl) ⟨by decide, by decide⟩ (fun r19 hw => ?_)
        exact hret _ _ _ rfl hw (C.dg (k := 21) rfl)
      replace hw := hw.2
      by_cases c20 : a2 = (1 : Int32)
      · replace hw := hw.1 c20
        refine i_tsw (tgt := 89) C 14 rfl c20 (by decide) (by decide) rfl rfl ?_
        refine i_aload_n (n := 90) C 22 rfl rfl rfl hl 1 rfl ?_
        refine fgC_Pw_10 (n := 93) C 23 rfl rfl h ?_
        refine fgC_Pw_178 (n := 96) C 24 rfl rfl h ?_
        refine i_iload_n (n := 97) C 25 rfl rfl rfl hl 2 rfl ?_
        obtain ⟨hb, hw⟩ := hw
        refine i_iald (n := 98) C 26 rfl rfl h (wC_arr 7 (by decide) rfl) hb ?_
        exact hret _ _ _ rfl hw (C.dg (k := 27) rfl)
      replace hw := hw.2
      by_cases c21 : a2 = (2 : Int32)
      · replace hw := hw.1 c21
        refine i_tsw (tgt := 99) C 14 rfl c21 (by decide) (by decide) rfl rfl ?_
        refine i_aload_n (n := 100) C 28 rfl rfl rfl hl 1 rfl ?_
        refine fgC_Pw_10 (n := 103) C 29 rfl rfl h ?_
        refine fgC_Pw_181 (n := 106) C 30 rfl rfl h ?_
        refine i_iload_n (n := 107) C 31 rfl rfl rfl hl 2 rfl ?_
        obtain ⟨hb, hw⟩ := hw
        refine i_iald (n := 108) C 32 rfl rfl h (wC_arr 8 (by decide) rfl) hb ?_
        exact hret _ _ _ rfl hw (C.dg (k := 33) rfl)
      replace hw := hw.2
      by_cases c22 : a2 = (3 : Int32)
      · replace hw := hw.1 c22
        refine i_tsw (tgt := 109) C 14 rfl c22 (by decide) (by decide) rfl rfl ?_
        refine i_aload_n (n := 110) C 34 rfl rfl rfl hl 1 rfl ?_
        refine fgC_Pw_10 (n := 113) C 35 rfl rfl h ?_
        refine i_iload_n (n := 114) C 36 rfl rfl rfl hl 2 rfl ?_
        refine i_aload_n (n := 115) C 37 rfl rfl rfl hl 1 rfl ?_
        refine fgC_Pw_184 (n := 118) C 38 rfl rfl h ?_
        refine i_callVp (rest := []) (ci := 5) (qc := (R_Ne, T_Ne, 17)) (n := 121) C 39 rfl rfl hl h rfl (wC_get (h := 1) (by decide)) (kV_Pw_188 ⟨by decide, by decide⟩) (m_Ne_taken hw) rfl rfl (Nat.le_of_ble_eq_true rfl) ⟨by decide, by decide⟩ (fun r23 hw => ?_)
        exact hret _ _ _ rfl hw (C.dg (k := 40) rfl)
      replace hw := hw.2
      by_cases c24 : a2 = (4 : Int32)
      · replace hw := hw.1 c24
        refine i_tsw (tgt := 122) C 14 rfl c24 (by decide) (by decide) rfl rfl ?_
        refine i_aload_n (n := 123) C 41 rfl rfl rfl hl 1 rfl ?_
        refine fgC_Pw_10 (n := 126) C 42 rfl rfl h ?_
        refine i_iload_n (n := 127) C 43 rfl rfl rfl hl 2 rfl ?_
        refine i_aload_n (n := 128) C 44 rfl rfl rfl hl 1 rfl ?_
        refine fgC_Pw_184 (n := 131) C 45 rfl rfl h ?_
        refine i_callVp (rest := []) (ci := 5) (qc := (R_Ne, T_Ne, 17)) (n := 134) C 46 rfl rfl hl h rfl (wC_get (h := 1) (by decide)) (kV_Pw_191 ⟨by decide, by decide⟩) (m_Ne_isSource hw) rfl rfl (Nat.le_of_ble_eq_true rfl) ⟨by decide, by decide⟩ (fun r25 hw => ?_)
        refine i_callSp (rest := []) (n := 137) C 47 rfl rfl hl h (kS_Pw_103 ⟨by decide, by decide⟩) (m_Pw_bit hw) rfl rfl (Nat.le_of_ble_eq_true rfl) ⟨by decide, by decide⟩ (fun r26 hw => ?_)
        exact hret _ _ _ rfl hw (C.dg (k := 48) rfl)
      replace hw := hw.2
      by_cases c27 : a2 = (5 : Int32)
      · replace hw := hw.1 c27
        refine i_tsw (tgt := 138) C 14 rfl c27 (by decide) (by decide) rfl rfl ?_
        refine i_aload_n (n := 139) C 49 rfl rfl rfl hl 0 rfl ?_
        refine i_ifnonnull (tgt := 146) C 50 rfl rfl ?_
        refine i_aload_n (n := 147) C 53 rfl rfl rfl hl 0 rfl ?_
        refine gdc_Pw_194 (rest := []) (n := 150) C 54 rfl rfl hl h hw (by decide) (by decide) (Nat.le_of_ble_eq_true rfl) ⟨by decide, by decide⟩ (fun r28 hw => ?_)
        exact hret _ _ _ rfl hw (C.dg (k := 55) rfl)
      replace hw := hw.2
      by_cases c29 : a2 = (6 : Int32)
      · replace hw := hw.1 c29
        refine i_tsw (tgt := 151) C 14 rfl c29 (by decide) (by decide) rfl rfl ?_
        refine i_aload_n (n := 152) C 56 rfl rfl rfl hl 0 rfl ?_
        refine i_ifnull (n := 155) C 57 rfl rfl ?_
        refine i_aload_n (n := 156) C 58 rfl rfl rfl hl 0 rfl ?_
        refine gdc_Pw_197 (rest := []) (n := 159) C 59 rfl rfl hl h hw (by decide) (by decide) (Nat.le_of_ble_eq_true rfl) ⟨by decide, by decide⟩ (fun r30 hw => ?_)
        refine i_if_eq (tgt := 166) (n := 162) C 60 rfl rfl rfl (fun c31 => ?_) (fun c31 => ?_)
        · replace hw := hw.1 c31
          exact e_Pw_ofNode_166 C h hret   ls (lv_sub hl [] rfl) hw
        · replace hw := hw.2 c31
          refine i_iconst (v := (1 : Int32)) (n := 163) C 61 rfl rfl rfl ?_
          refine i_goto (tgt := 167) C 62 rfl rfl ?_
          exact e_Pw_ofNode_167 C h hret  (1 : Int32) ls (lv_sub hl [] rfl) hw
      replace hw := hw.2
      by_cases c32 : a2 = (7 : Int32)
      · replace hw := hw.1 c32
        refine i_tsw (tgt := 171) C 14 rfl c32 (by decide) (by decide) rfl rfl ?_
        refine i_aload_n (n := 172) C 66 rfl rfl rfl hl 1 rfl ?_
        refine fgC_Pw_35 (n := 175) C 67 rfl rfl h ?_
        refine i_iload_n (n := 176) C 68 rfl rfl rfl hl 2 rfl ?_
        obtain ⟨hb, hw⟩ := hw
        refine i_iald (n := 177) C 69 rfl rfl h (wC_arr 0 (by decide) rfl) hb ?_
        exact hret _ _ _ rfl hw (C.dg (k := 70) rfl)
      replace hw := hw.2
      by_cases c33 : a2 = (8 : Int32)
      · replace hw := hw.1 c33
        refine i_tsw (tgt := 178) C 14 rfl c33 (by decide) (by decide) rfl rfl ?_
        refine i_aload_n (n := 179) C 71 rfl rfl rfl hl 1 rfl ?_
        refine fgC_Pw_54 (n := 182) C 72 rfl rfl h ?_
        refine i_iload_n (n := 183) C 73 rfl rfl rfl hl 2 rfl ?_
        obtain ⟨hb, hw⟩ := hw
        refine i_iald (n := 184) C 74 rfl rfl h (wC_arr 4 (by decide) rfl) hb ?_
        exact hret _ _ _ rfl hw (C.dg (k := 75) rfl)
      replace hw := hw.2
      replace hw := hw c18
      replace hw := hw c20
      replace hw := hw c21
      replace hw := hw c22
      replace hw := hw c24
      replace hw := hw c27
      replace hw := hw c29
      replace hw := hw c32
      replace hw := hw c33
      refine i_tswd (tgt := 185) C 14 rfl (fun j hj => match j, hj with | 0, _ => lv_neT c18 rfl | 1, _ => lv_neT c20 rfl | 2, _ => lv_neT c21 rfl | 3, _ => lv_neT c22 rfl | 4, _ => lv_neT c24 rfl | 5, _ => lv_neT c27 rfl | 6, _ => lv_neT c29 rfl | 7, _ => lv_neT c32 rfl | 8, _ => lv_neT c33 rfl | j + 9, hj => absurd hj (by omega)) rfl ?_
      refine i_bipush (v := (-2 : Int32)) (n := 187) C 76 rfl rfl rfl ?_
      exact hret _ _ _ rfl hw (C.dg (k := 77) rfl)
  · replace hw := hw.2 c2
    refine i_iconst (v := (-1 : Int32)) (n := 12) C 5 rfl rfl rfl ?_
    exact hret _ _ _ rfl hw (C.dg (k := 6) rfl)
end S73
section S74
variable {p : Program} {l : Launch} {e : Env} {R : Room} {s : State} {m : MethodId} {args : Array Value} {below : List Frame} {meth : Method} {c : Code} {H : Heap} {locs : List Loc} {cells slots : Nat} {Q : State → Prop}
variable {cc : ByteArray} {pc n nL : Nat} {ls : Array Slot} {rest : List Value} {D : va_G} {cy : Nat → ClassId} {Z : Nat → Prop} {ad : Nat → Nat} {tb : List (Nat × Instr × Nat)} {lv : List (Nat × Value)}
set_option maxHeartbeats 4000000 in
set_option maxRecDepth 100000 in
theorem e_Ho_setLit_Ho_18 {I : Nat → Int32} {A : Nat → Nat → Int32} {T : Nat → Option Nat} {L : List Nat} {K : Nat → Nat} {b : Nat} {a1 : Int32} {a2 : Int32} {P : Int32 → ((Nat → Nat → Int32)) → Prop}  (C : CX D cy R_Ho c_Ho_setLit tb_Ho_setLit 4 p s m args c Z) (hbq : b ∈ L) (hbk : K b = 2) (hret : RetI p l e { frames := 0, cells := 0, slots := 0, locals := 0 } s m args below meth c c_Ho_setLit .boolean D Z Q (fun (u : (Nat → Nat → Int32)) => wC cy ad I A T L K u) P 0 0) :
    ∀ (F : Nat → Nat → Int32) (x3 : Int32) (ls : Array Slot) (H : Heap) (locs : List Loc), lv_has ls 4 [(0, .ref b), (1, .int a1), (3, .int x3)] → HXw D Z s.heap H locs (wC cy ad I A T L K F) → g_Ho_setLit_Ho_18 b a1 a2 P  F x3 → W p l e { frames := 0, cells := 0, slots := 0, locals := 0 } s m args below meth c H locs 0 0 Q (F0 m 18 ls []) := by
  intro F x3 ls H locs hl h hw
  refine i_aload_n (n := 19) C 10 rfl rfl rfl hl 0 rfl ?_
  refine i_iload_n (n := 20) C 11 rfl rfl rfl hl 1 rfl ?_
  obtain ⟨hB, hw⟩ := hw
  refine tp_Ho_18_Ho (n := 23) C 12 rfl rfl h hbq hbk hB (fun H locs h => ?_)
  refine i_iload_n (n := 24) C 13 rfl rfl rfl hl 2 rfl ?_
  obtain ⟨hB, hw⟩ := hw
  exact hret _ (sF F b 5 a1) _ _ _ _ hB.nar hw h (C.dg (k := 14) rfl)
set_option maxHeartbeats 4000000 in
set_option maxRecDepth 100000 in
theorem m_Ho_setLit_Ho {l : Launch} {D : va_G} {cy : Nat → ClassId} {ad : Nat → Nat} {I : Nat → Int32} {A : Nat → Nat → Int32} {T : Nat → Option Nat} {L : List Nat} {K : Nat → Nat} {F : Nat → Nat → Int32} {b : Nat} {a1 : Int32} {a2 : Int32} {P : Int32 → ((Nat → Nat → Int32)) → Prop} (hbq : b ∈ L) (hbk : K b = 2) (hw : g_Ho_setLit_Ho F b a1 a2 P) : ∀ sz, Met l y_Ho_setLit (WL y_Ho_setLit c_Ho_setLit 4 (some .boolean)) { frames := 0, cells := 0, slots := 0, locals := 0 } (va_Pc [.ref b, .int a1, .int a2] (PreW D cy (wC cy ad I A T L K F) sz)) (va_Qi P (fun u t => PostW D (va_A (wC cy ad I A T L K F) sz) ((fun (u : (Nat → Nat → Int32)) => wC cy ad I A T L K u) u) t) (va_A (wC cy ad I A T L K F) sz)) 0 0 (va_A (wC cy ad I A T L K F) sz) := by
  refine met_i (wf := fun (u : (Nat → Nat → Int32)) => wC cy ad I A T L K u) R_Ho .boolean db_Ho_setLit (by decide) rfl rfl (Nat.le_of_ble_eq_true rfl) ?_
  intro p e s m below meth c Z Q ls C h hl hret
  have hl : lv_has ls 4 [(0, .ref b), (1, .int a1), (2, .int a2)] := hl
  refine i_aload_n (n := 1) C 0 rfl rfl rfl hl 0 rfl ?_
  refine tg_Ho_18_Ho (n := 4) C 1 rfl rfl h hbq hbk ?_
  refine lv_topi (fun y1 ey1 => ?_)
  replace hw := hw y1 ey1
  refine i_istore_n (lv' := [(3, .int y1), (0, .ref b), (1, .int a1), (2, .int a2)]) (n := 5) C 2 rfl rfl rfl hl (by decide) rfl (fun ls hl => ?_)
  refine i_iload_n (n := 6) C 3 rfl rfl rfl hl 2 rfl ?_
  refine i_if_eq (tgt := 18) (n := 9) C 4 rfl rfl rfl (fun c2 => ?_) (fun c2 => ?_)
  · replace hw := hw.1 c2
    exact e_Ho_setLit_Ho_18 C hbq hbk hret  F y1 ls _ _ (lv_sub hl [1, 2, 0] rfl) h hw
  · replace hw := hw.2 c2
    refine i_iload_n (n := 10) C 5 rfl rfl rfl hl 0 rfl ?_
    refine i_if_ne (tgt := 18) (n := 13) C 6 rfl rfl rfl (fun c3 => ?_) (fun c3 => ?_)
    · replace hw := hw.1 c3
      exact e_Ho_setLit_Ho_18 C hbq hbk hret  F y1 ls _ _ (lv_sub hl [1, 2, 0] rfl) h hw
    · replace hw := hw.2 c3
      refine i_aload_n (n := 14) C 7 rfl rfl rfl hl 1 rfl ?_
      refine i_iload_n (n := 15) C 8 rfl rfl rfl hl 3 rfl ?_
      refine tp_Ho_22_Ho (n := 18) C 9 rfl rfl h hbq hbk (fun H locs h => ?_)
      exact e_Ho_setLit_Ho_18 C hbq hbk hret  (sF F b 6 a2) y1 ls _ _ (lv_sub hl [1, 2, 0] rfl) h hw
end S74
theorem kV_Pw_201_Ho {R : Room} {s : State} {args : Array Value} (hR : 0 + 1 ≤ R.frames ∧ 8 + (4 + 11) + 0 ≤ R.locals) (ht : ∀ w ∈ GW, w.before args s = true) : CallW R s args R_Pw R_Ho 201 y_Ho_setLit c_Ho_setLit 4 (some .boolean) (WL y_Ho_setLit c_Ho_setLit 4 (some .boolean)) { frames := 0, cells := 0, slots := 0, locals := 0 } 0 0 2 := cwV 2 ht (GW_v w_3_136 w_3_137 w_3_138 w_1_13 (GW_wl w_3_139)) rfl rfl rfl (by decide +kernel) hR
section S75
variable {p : Program} {l : Launch} {e : Env} {R : Room} {s : State} {m : MethodId} {args : Array Value} {below : List Frame} {meth : Method} {c : Code} {H : Heap} {locs : List Loc} {cells slots : Nat} {Q : State → Prop}
variable {cc : ByteArray} {pc n nL : Nat} {ls : Array Slot} {rest : List Value} {D : va_G} {cy : Nat → ClassId} {Z : Nat → Prop} {ad : Nat → Nat} {tb : List (Nat × Instr × Nat)} {lv : List (Nat × Value)}
set_option maxHeartbeats 4000000 in
set_option maxRecDepth 100000 in
theorem m_Pw_light {l : Launch} {D : va_G} {cy : Nat → ClassId} {ad : Nat → Nat} {I : Nat → Int32} {A : Nat → Nat → Int32} {T : Nat → Option Nat} {L : List Nat} {K : Nat → Nat} {F : Nat → Nat → Int32} {a1 : Int32} {a2 : Int32} {P : Int32 → ((Nat → Nat → Int32)) → Prop} (hw : g_Pw_light I T L K F a1 a2 P) : ∀ sz, Met l y_Pw_light (WL y_Pw_light c_Pw_light 5 (some .int)) { frames := 1, cells := 0, slots := 0, locals := 23 } (va_Pc [.ref (ad 0), .int a1, .int a2] (PreW D cy (wC cy ad I A T L K F) sz)) (va_Qi P (fun u t => PostW D (va_A (wC cy ad I A T L K F) sz) ((fun (u : (Nat → Nat → Int32)) => wC cy ad I A T L K u) u) t) (va_A (wC cy ad I A T L K F) sz)) 0 0 (va_A (wC cy ad I A T L K F) sz) := by
  refine met_i (wf := fun (u : (Nat → Nat → Int32)) => wC cy ad I A T L K u) R_Pw .int db_Pw_light (by decide) rfl rfl (Nat.le_of_ble_eq_true rfl) ?_
  intro p e s m below meth c Z Q ls C h hl hret
  have hl : lv_has ls 5 [(0, .ref (ad 0)), (1, .int a1), (2, .int a2)] := hl
  refine i_aload_n (n := 1) C 0 rfl rfl rfl hl 0 rfl ?_
  refine fgC_Pw_10 (n := 4) C 1 rfl rfl h ?_
  refine i_iload_n (n := 5) C 2 rfl rfl rfl hl 1 rfl ?_
  refine i_callVp (rest := []) (ci := 5) (qc := (R_Ne, T_Ne, 17)) (n := 8) C 3 rfl rfl hl h rfl (wC_get (h := 1) (by decide)) (kV_Pw_77 ⟨by decide, by decide⟩) (m_Ne_has hw) rfl rfl (Nat.le_of_ble_eq_true rfl) ⟨by decide, by decide⟩ (fun r1 hw => ?_)
  refine i_if_ne (tgt := 13) (n := 11) C 4 rfl rfl rfl (fun c2 => ?_) (fun c2 => ?_)
  · replace hw := hw.1 c2
    refine i_aload_n (n := 14) C 7 rfl rfl rfl hl 0 rfl ?_
    refine fgC_Pw_10 (n := 17) C 8 rfl rfl h ?_
    refine fgC_Pw_168 (n := 20) C 9 rfl rfl h ?_
    refine i_iload_n (n := 21) C 10 rfl rfl rfl hl 1 rfl ?_
    obtain ⟨hb, hw⟩ := hw
    refine i_aldq (n := 22) C 11 rfl rfl h (wC_get (h := 5) (by decide)) hb (fun c4 => ?_) (fun q3 c4 => ?_)
    · replace hw := hw.1 c4
      refine i_astoreN (lv' := [(4, .null), (0, .ref (ad 0)), (1, .int a1), (2, .int a2)]) (n := 24) C 12 rfl rfl hl (by decide) rfl (fun ls hl => ?_)
      refine i_aloadN (n := 26) C 13 rfl rfl hl 0 rfl ?_
      refine i_instN (n := 29) C 14 rfl rfl ?_
      refine i_if_eq (tgt := 51) (n := 32) C 15 rfl rfl rfl (fun _ => ?_) (fun c5 => absurd (by decide) c5)
      refine i_bipush (v := (-3 : Int32)) (n := 53) C 26 rfl rfl rfl ?_
      exact hret _ F _ _ _ _ rfl hw h (C.dg (k := 27) rfl)
    · replace hw := hw.2 q3 c4
      refine i_astore (lv' := [(4, .ref q3), (0, .ref (ad 0)), (1, .int a1), (2, .int a2)]) (n := 24) C 12 rfl rfl hl (by decide) rfl (fun ls hl => ?_)
      refine i_aload (n := 26) C 13 rfl rfl hl 0 rfl ?_
      obtain ⟨hq6, ht7, hw⟩ := hw
      refine i_instHo (n := 29) C 14 rfl rfl h w_2_213 hq6 ht7 (fun hk8 => ?_) (fun hk8 => ?_)
      · replace hw := hw.1 hk8
        refine i_if_eq (tgt := 51) (n := 32) C 15 rfl rfl rfl (fun c9 => absurd c9 (by decide)) (fun _ => ?_)
        refine i_aload (n := 34) C 16 rfl rfl hl 0 rfl ?_
        refine i_castHo (n := 37) C 17 rfl rfl h w_2_213 hq6 hk8 ?_
        refine i_astore_n (lv' := [(3, .ref q3), (4, .ref q3), (0, .ref (ad 0)), (1, .int a1), (2, .int a2)]) (n := 38) C 18 rfl rfl rfl hl (by decide) rfl (fun ls hl => ?_)
        refine i_aload_n (n := 39) C 19 rfl rfl rfl hl 0 rfl ?_
        refine i_iload_n (n := 40) C 20 rfl rfl rfl hl 4 rfl ?_
        refine i_aload_n (n := 41) C 21 rfl rfl rfl hl 2 rfl ?_
        refine fgC_Pw_184 (n := 44) C 22 rfl rfl h ?_
        obtain ⟨q010, he11, -⟩ := wC_th (cy := cy) (ad := ad) (I := I) (A := A) (T := T) (F := F) hq6 hk8
        refine i_callVi (rest := []) (ci := 2) (qc := (R_Ho, T_Ho, 7)) (n := 47) C 23 rfl rfl hl h rfl he11 (kV_Pw_201_Ho ⟨by decide, by decide⟩) (m_Ho_setLit_Ho hq6 hk8 hw) rfl rfl (Nat.le_of_ble_eq_true rfl) ⟨by decide, by decide⟩ (fun r12 u13 H locs hw h => ?_)
        refine i_callSp (rest := []) (n := 50) C 24 rfl rfl hl h (kS_Pw_103 ⟨by decide, by decide⟩) (m_Pw_bit hw) rfl rfl (Nat.le_of_ble_eq_true rfl) ⟨by decide, by decide⟩ (fun r14 hw => ?_)
        exact hret _ u13 _ _ _ _ rfl hw h (C.dg (k := 25) rfl)
      · replace hw := hw.2 hk8
        refine i_if_eq (tgt := 51) (n := 32) C 15 rfl rfl rfl (fun _ => ?_) (fun c15 => absurd (by decide) c15)
        refine i_bipush (v := (-3 : Int32)) (n := 53) C 26 rfl rfl rfl ?_
        exact hret _ F _ _ _ _ rfl hw h (C.dg (k := 27) rfl)
  · replace hw := hw.2 c2
    refine i_iconst (v := (-1 : Int32)) (n := 12) C 5 rfl rfl rfl ?_
    exact hret _ F _ _ _ _ rfl hw h (C.dg (k := 6) rfl)
end S75
section S76
variable {p : Program} {l : Launch} {e : Env} {R : Room} {s : State} {m : MethodId} {args : Array Value} {below : List Frame} {meth : Method} {c : Code} {H : Heap} {locs : List Loc} {cells slots : Nat} {Q : State → Prop}
variable {cc : ByteArray} {pc n nL : Nat} {ls : Array Slot} {rest : List Value} {D : va_G} {cy : Nat → ClassId} {Z : Nat → Prop} {ad : Nat → Nat} {tb : List (Nat × Instr × Nat)} {lv : List (Nat × Value)}
set_option maxHeartbeats 4000000 in
set_option maxRecDepth 100000 in
theorem e_Pw_found_54 {I : Nat → Int32} {A : Nat → Nat → Int32} {T : Nat → Option Nat} {L : List Nat} {K : Nat → Nat} {a1 : Int32} {P : Int32 → ((Nat → Nat → Int32)) → Prop}  (C : CX D cy R_Pw c_Pw_found tb_Pw_found 4 p s m args c Z) (hret : RetI p l e { frames := 1, cells := 0, slots := 0, locals := 21 } s m args below meth c c_Pw_found .int D Z Q (fun (u : (Nat → Nat → Int32)) => wC cy ad I A T L K u) P 0 0) :
    ∀ (F : Nat → Nat → Int32) (t2 : Nat) (s0 : Int32) (ls : Array Slot) (H : Heap) (locs : List Loc), lv_has ls 4 [(2, .ref t2)] → HXw D Z s.heap H locs (wC cy ad I A T L K F) → g_Pw_found_54 I T L K a1 P  F t2 s0 → W p l e { frames := 1, cells := 0, slots := 0, locals := 21 } s m args below meth c H locs 0 0 Q (F0 m 54 ls [.int s0]) := by
  intro F t2 s0 ls H locs hl h hw
  refine i_callSp (rest := []) (n := 57) C 28 rfl rfl hl h (kS_Pw_103 ⟨by decide, by decide⟩) (m_Pw_bit hw) rfl rfl (Nat.le_of_ble_eq_true rfl) ⟨by decide, by decide⟩ (fun r12 hw => ?_)
  refine i_istore_n (lv' := [(3, .int r12), (2, .ref t2)]) (n := 58) C 29 rfl rfl rfl hl (by decide) rfl (fun ls hl => ?_)
  refine i_aload_n (n := 59) C 30 rfl rfl rfl hl 1 rfl ?_
  refine i_iconst (v := (1 : Int32)) (n := 60) C 31 rfl rfl rfl ?_
  obtain ⟨hq13, hk14, hw⟩ := hw
  refine tp_Pw_209_Le (n := 63) C 32 rfl rfl h hq13 hk14 (by first | exact Or.inl rfl | exact Or.inr rfl) (fun H locs h => ?_)
  refine i_iload_n (n := 64) C 33 rfl rfl rfl hl 0 rfl ?_
  exact hret _ (sF F t2 2 (1 : Int32)) _ _ _ _ rfl hw h (C.dg (k := 34) rfl)
set_option maxHeartbeats 4000000 in
set_option maxRecDepth 100000 in
theorem m_Pw_found {l : Launch} {D : va_G} {cy : Nat → ClassId} {ad : Nat → Nat} {I : Nat → Int32} {A : Nat → Nat → Int32} {T : Nat → Option Nat} {L : List Nat} {K : Nat → Nat} {F : Nat → Nat → Int32} {a1 : Int32} {P : Int32 → ((Nat → Nat → Int32)) → Prop} (hw : g_Pw_found I T L K F a1 P) : ∀ sz, Met l y_Pw_found (WL y_Pw_found c_Pw_found 4 (some .int)) { frames := 1, cells := 0, slots := 0, locals := 21 } (va_Pc [.ref (ad 0), .int a1] (PreW D cy (wC cy ad I A T L K F) sz)) (va_Qi P (fun u t => PostW D (va_A (wC cy ad I A T L K F) sz) ((fun (u : (Nat → Nat → Int32)) => wC cy ad I A T L K u) u) t) (va_A (wC cy ad I A T L K F) sz)) 0 0 (va_A (wC cy ad I A T L K F) sz) := by
  refine met_i (wf := fun (u : (Nat → Nat → Int32)) => wC cy ad I A T L K u) R_Pw .int db_Pw_found (by decide) rfl rfl (Nat.le_of_ble_eq_true rfl) ?_
  intro p e s m below meth c Z Q ls C h hl hret
  have hl : lv_has ls 4 [(0, .ref (ad 0)), (1, .int a1)] := hl
  refine i_aload_n (n := 1) C 0 rfl rfl rfl hl 0 rfl ?_
  refine fgC_Pw_10 (n := 4) C 1 rfl rfl h ?_
  refine i_iload_n (n := 5) C 2 rfl rfl rfl hl 1 rfl ?_
  refine i_callVp (rest := []) (ci := 5) (qc := (R_Ne, T_Ne, 17)) (n := 8) C 3 rfl rfl hl h rfl (wC_get (h := 1) (by decide)) (kV_Pw_77 ⟨by decide, by decide⟩) (m_Ne_has hw) rfl rfl (Nat.le_of_ble_eq_true rfl) ⟨by decide, by decide⟩ (fun r1 hw => ?_)
  refine i_if_ne (tgt := 13) (n := 11) C 4 rfl rfl rfl (fun c2 => ?_) (fun c2 => ?_)
  · replace hw := hw.1 c2
    refine i_aload_n (n := 14) C 7 rfl rfl rfl hl 0 rfl ?_
    refine fgC_Pw_10 (n := 17) C 8 rfl rfl h ?_
    refine fgC_Pw_168 (n := 20) C 9 rfl rfl h ?_
    refine i_iload_n (n := 21) C 10 rfl rfl rfl hl 1 rfl ?_
    obtain ⟨hb, hw⟩ := hw
    refine i_aldq (n := 22) C 11 rfl rfl h (wC_get (h := 5) (by decide)) hb (fun c4 => ?_) (fun q3 c4 => ?_)
    · replace hw := hw.1 c4
      refine i_astore_nN (lv' := [(3, .null), (0, .ref (ad 0)), (1, .int a1)]) (n := 23) C 12 rfl rfl rfl hl (by decide) rfl (fun ls hl => ?_)
      refine i_aload_nN (n := 24) C 13 rfl rfl rfl hl 0 rfl ?_
      refine i_instN (n := 27) C 14 rfl rfl ?_
      refine i_if_eq (tgt := 65) (n := 30) C 15 rfl rfl rfl (fun _ => ?_) (fun c5 => absurd (by decide) c5)
      refine i_bipush (v := (-3 : Int32)) (n := 67) C 35 rfl rfl rfl ?_
      exact hret _ F _ _ _ _ rfl hw h (C.dg (k := 36) rfl)
    · replace hw := hw.2 q3 c4
      refine i_astore_n (lv' := [(3, .ref q3), (0, .ref (ad 0)), (1, .int a1)]) (n := 23) C 12 rfl rfl rfl hl (by decide) rfl (fun ls hl => ?_)
      refine i_aload_n (n := 24) C 13 rfl rfl rfl hl 0 rfl ?_
      obtain ⟨hq6, ht7, hw⟩ := hw
      refine i_instLe (n := 27) C 14 rfl rfl h w_2_239 hq6 ht7 (fun hk8 => ?_) (fun hk8 => ?_)
      · replace hw := hw.1 hk8
        refine i_if_eq (tgt := 65) (n := 30) C 15 rfl rfl rfl (fun c9 => absurd c9 (by decide)) (fun _ => ?_)
        refine i_aload_n (n := 31) C 16 rfl rfl rfl hl 0 rfl ?_
        refine i_castLe (n := 34) C 17 rfl rfl h w_2_239 hq6 hk8 ?_
        refine i_astore_n (lv' := [(2, .ref q3), (3, .ref q3), (0, .ref (ad 0)), (1, .int a1)]) (n := 35) C 18 rfl rfl rfl hl (by decide) rfl (fun ls hl => ?_)
        refine i_aload_n (n := 36) C 19 rfl rfl rfl hl 0 rfl ?_
        refine tg_Pw_205_Le (n := 39) C 20 rfl rfl h hq6 hk8 ?_
        refine i_if_eq (tgt := 65) (n := 42) C 21 rfl rfl rfl (fun c10 => ?_) (fun c10 => ?_)
        · replace hw := hw.1 c10
          refine i_bipush (v := (-3 : Int32)) (n := 67) C 35 rfl rfl rfl ?_
          exact hret _ F _ _ _ _ rfl hw h (C.dg (k := 36) rfl)
        · replace hw := hw.2 c10
          refine i_aload_n (n := 43) C 22 rfl rfl rfl hl 0 rfl ?_
          refine tg_Pw_209_Le (n := 46) C 23 rfl rfl h hq6 hk8 ?_
          refine i_if_ne (tgt := 53) (n := 49) C 24 rfl rfl rfl (fun c11 => ?_) (fun c11 => ?_)
          · replace hw := hw.1 c11
            refine i_iconst (v := (0 : Int32)) (n := 54) C 27 rfl rfl rfl ?_
            exact e_Pw_found_54 C hret  F q3 (0 : Int32) ls _ _ (lv_sub hl [0] rfl) h hw
          · replace hw := hw.2 c11
            refine i_iconst (v := (1 : Int32)) (n := 50) C 25 rfl rfl rfl ?_
            refine i_goto (tgt := 54) C 26 rfl rfl ?_
            exact e_Pw_found_54 C hret  F q3 (1 : Int32) ls _ _ (lv_sub hl [0] rfl) h hw
      · replace hw := hw.2 hk8
        refine i_if_eq (tgt := 65) (n := 30) C 15 rfl rfl rfl (fun _ => ?_) (fun c15 => absurd (by decide) c15)
        refine i_bipush (v := (-3 : Int32)) (n := 67) C 35 rfl rfl rfl ?_
        exact hret _ F _ _ _ _ rfl hw h (C.dg (k := 36) rfl)
  · replace hw := hw.2 c2
    refine i_iconst (v := (-1 : Int32)) (n := 12) C 5 rfl rfl rfl ?_
    exact hret _ F _ _ _ _ rfl hw h (C.dg (k := 6) rfl)
end S76
