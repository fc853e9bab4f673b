section S46
variable {p : Program} {l : Launch} {e : Env} {R : Room} {s : State} {m : MethodId} {args : Array Value} {below : List Frame} {meth : Method} {c : Code} {H : Heap} {locs : List Loc} {cells slots : Nat} {Q : State → Prop}
variable {cc : ByteArray} {pc n nL : Nat} {ls : Array Slot} {rest : List Value} {D : va_G} {cy : Nat → ClassId} {Z : Nat → Prop} {ad : Nat → Nat} {tb : List (Nat × Instr × Nat)} {lv : List (Nat × Value)}
set_option maxHeartbeats 4000000 in
set_option maxRecDepth 100000 in
theorem m_Ho_kind {l : Launch} {D : va_G} {cy : Nat → ClassId}    {b : Nat} {w : va_W} {P : Int32 → Prop} (hw : g_Ho_kind  P) : ∀ sz, Met l y_Ho_kind (WL y_Ho_kind c_Ho_kind 1 (some .int)) { frames := 0, cells := 0, slots := 0, locals := 0 } (va_Pc [.ref b] (PreW D cy (w) sz)) (vp_Si P) 0 0 (fun _ => False) := by
  refine met_p R_Ho .int db_Ho_kind (by decide) rfl rfl (Nat.le_of_ble_eq_true rfl) ?_
  intro p e s m below meth c Z Q ls C h hl hret
  have hl : lv_has ls 1 [(0, .ref b)] := hl
  refine i_iconst (v := (5 : Int32)) (n := 1) C 0 rfl rfl rfl ?_
  exact hret _ _ _ rfl hw (C.dg (k := 1) rfl)
end S46
section S47
variable {p : Program} {l : Launch} {e : Env} {R : Room} {s : State} {m : MethodId} {args : Array Value} {below : List Frame} {meth : Method} {c : Code} {H : Heap} {locs : List Loc} {cells slots : Nat} {Q : State → Prop}
variable {cc : ByteArray} {pc n nL : Nat} {ls : Array Slot} {rest : List Value} {D : va_G} {cy : Nat → ClassId} {Z : Nat → Prop} {ad : Nat → Nat} {tb : List (Nat × Instr × Nat)} {lv : List (Nat × Value)}
set_option maxHeartbeats 4000000 in
set_option maxRecDepth 100000 in
theorem m_Le_kind_Le {l : Launch} {D : va_G} {cy : Nat → ClassId} {ad : Nat → Nat} {I : Nat → Int32} {A : Nat → Nat → Int32} {T : Nat → Option Nat} {L : List Nat} {K : Nat → Nat} {F : Nat → Nat → Int32} {b : Nat} {P : Int32 → Prop} (hbq : b ∈ L) (hbk : K b = 3) (hw : g_Le_kind_Le F b P) : ∀ sz, Met l y_Le_kind (WL y_Le_kind c_Le_kind 1 (some .int)) { frames := 0, cells := 0, slots := 0, locals := 0 } (va_Pc [.ref b] (PreW D cy (wC cy ad I A T L K F) sz)) (vp_Si P) 0 0 (fun _ => False) := by
  refine met_p R_Le .int db_Le_kind (by decide) rfl rfl (Nat.le_of_ble_eq_true rfl) ?_
  intro p e s m below meth c Z Q ls C h hl hret
  have hl : lv_has ls 1 [(0, .ref b)] := hl
  refine i_aload_n (n := 1) C 0 rfl rfl rfl hl 0 rfl ?_
  refine tg_Le_13_Le (n := 4) C 1 rfl rfl h hbq hbk ?_
  refine i_if_eq (tgt := 12) (n := 7) C 2 rfl rfl rfl (fun c1 => ?_) (fun c1 => ?_)
  · replace hw := hw.1 c1
    refine i_bipush (v := (6 : Int32)) (n := 14) C 5 rfl rfl rfl ?_
    exact hret _ _ _ rfl hw (C.dg (k := 6) rfl)
  · replace hw := hw.2 c1
    refine i_bipush (v := (7 : Int32)) (n := 9) C 3 rfl rfl rfl ?_
    refine i_goto (tgt := 14) C 4 rfl rfl ?_
    exact hret _ _ _ rfl hw (C.dg (k := 6) rfl)
end S47
section S48
variable {p : Program} {l : Launch} {e : Env} {R : Room} {s : State} {m : MethodId} {args : Array Value} {below : List Frame} {meth : Method} {c : Code} {H : Heap} {locs : List Loc} {cells slots : Nat} {Q : State → Prop}
variable {cc : ByteArray} {pc n nL : Nat} {ls : Array Slot} {rest : List Value} {D : va_G} {cy : Nat → ClassId} {Z : Nat → Prop} {ad : Nat → Nat} {tb : List (Nat × Instr × Nat)} {lv : List (Nat × Value)}
set_option maxHeartbeats 4000000 in
set_option maxRecDepth 100000 in
theorem m_Li_kind {l : Launch} {D : va_G} {cy : Nat → ClassId}    {b : Nat} {w : va_W} {P : Int32 → Prop} (hw : g_Li_kind  P) : ∀ sz, Met l y_Li_kind (WL y_Li_kind c_Li_kind 1 (some .int)) { frames := 0, cells := 0, slots := 0, locals := 0 } (va_Pc [.ref b] (PreW D cy (w) sz)) (vp_Si P) 0 0 (fun _ => False) := by
  refine met_p R_Li .int db_Li_kind (by decide) rfl rfl (Nat.le_of_ble_eq_true rfl) ?_
  intro p e s m below meth c Z Q ls C h hl hret
  have hl : lv_has ls 1 [(0, .ref b)] := hl
  refine i_iconst (v := (2 : Int32)) (n := 1) C 0 rfl rfl rfl ?_
  exact hret _ _ _ rfl hw (C.dg (k := 1) rfl)
end S48
section S49
variable {p : Program} {l : Launch} {e : Env} {R : Room} {s : State} {m : MethodId} {args : Array Value} {below : List Frame} {meth : Method} {c : Code} {H : Heap} {locs : List Loc} {cells slots : Nat} {Q : State → Prop}
variable {cc : ByteArray} {pc n nL : Nat} {ls : Array Slot} {rest : List Value} {D : va_G} {cy : Nat → ClassId} {Z : Nat → Prop} {ad : Nat → Nat} {tb : List (Nat × Instr × Nat)} {lv : List (Nat × Value)}
set_option maxHeartbeats 4000000 in
set_option maxRecDepth 100000 in
theorem m_To_kind {l : Launch} {D : va_G} {cy : Nat → ClassId}    {b : Nat} {w : va_W} {P : Int32 → Prop} (hw : g_To_kind  P) : ∀ sz, Met l y_To_kind (WL y_To_kind c_To_kind 1 (some .int)) { frames := 0, cells := 0, slots := 0, locals := 0 } (va_Pc [.ref b] (PreW D cy (w) sz)) (vp_Si P) 0 0 (fun _ => False) := by
  refine met_p R_To .int db_To_kind (by decide) rfl rfl (Nat.le_of_ble_eq_true rfl) ?_
  intro p e s m below meth c Z Q ls C h hl hret
  have hl : lv_has ls 1 [(0, .ref b)] := hl
  refine i_iconst (v := (4 : Int32)) (n := 1) C 0 rfl rfl rfl ?_
  exact hret _ _ _ rfl hw (C.dg (k := 1) rfl)
end S49
theorem kU_Ne_60_Br {R : Room} {s : State} {args : Array Value} (hR : 0 + 1 ≤ R.frames ∧ 8 + (1 + 11) + 0 ≤ R.locals) (ht : ∀ w ∈ GW, w.before args s = true) (hN : NX s) : va_CU R s args R_Ne R_Br "PipeWorks$Thing" 60 ⟨"PipeWorks$Thing", "kind", "()I"⟩ y_Br_kind c_Br_kind 1 (some .int) (WL y_Br_kind c_Br_kind 1 (some .int)) { frames := 0, cells := 0, slots := 0, locals := 0 } 0 0 0 := va_cwA (x := ⟨"PipeWorks$Thing", "kind", "()I"⟩) 0 ht (GW_u (x := ⟨"PipeWorks$Thing", "kind", "()I"⟩) w_3_25 w_3_27 w_3_28 w_3_29 w_1_11 (GW_wl w_3_30)) rfl rfl rfl (hN.1 _ (by simp [nxW])) (by decide +kernel) hR
theorem kU_Ne_60_Dr {R : Room} {s : State} {args : Array Value} (hR : 0 + 1 ≤ R.frames ∧ 8 + (1 + 11) + 0 ≤ R.locals) (ht : ∀ w ∈ GW, w.before args s = true) (hN : NX s) : va_CU R s args R_Ne R_Dr "PipeWorks$Thing" 60 ⟨"PipeWorks$Thing", "kind", "()I"⟩ y_Dr_kind c_Dr_kind 1 (some .int) (WL y_Dr_kind c_Dr_kind 1 (some .int)) { frames := 0, cells := 0, slots := 0, locals := 0 } 0 0 0 := va_cwA (x := ⟨"PipeWorks$Thing", "kind", "()I"⟩) 0 ht (GW_u (x := ⟨"PipeWorks$Thing", "kind", "()I"⟩) w_3_25 w_3_27 w_3_31 w_3_32 w_1_9 (GW_wl w_3_33)) rfl rfl rfl (hN.1 _ (by simp [nxW])) (by decide +kernel) hR
theorem kU_Ne_60_Ho {R : Room} {s : State} {args : Array Value} (hR : 0 + 1 ≤ R.frames ∧ 8 + (1 + 11) + 0 ≤ R.locals) (ht : ∀ w ∈ GW, w.before args s = true) (hN : NX s) : va_CU R s args R_Ne R_Ho "PipeWorks$Thing" 60 ⟨"PipeWorks$Thing", "kind", "()I"⟩ y_Ho_kind c_Ho_kind 1 (some .int) (WL y_Ho_kind c_Ho_kind 1 (some .int)) { frames := 0, cells := 0, slots := 0, locals := 0 } 0 0 0 := va_cwA (x := ⟨"PipeWorks$Thing", "kind", "()I"⟩) 0 ht (GW_u (x := ⟨"PipeWorks$Thing", "kind", "()I"⟩) w_3_25 w_3_27 w_3_34 w_3_35 w_1_13 (GW_wl w_3_36)) rfl rfl rfl (hN.1 _ (by simp [nxW])) (by decide +kernel) hR
theorem kU_Ne_60_Le {R : Room} {s : State} {args : Array Value} (hR : 0 + 1 ≤ R.frames ∧ 8 + (1 + 11) + 0 ≤ R.locals) (ht : ∀ w ∈ GW, w.before args s = true) (hN : NX s) : va_CU R s args R_Ne R_Le "PipeWorks$Thing" 60 ⟨"PipeWorks$Thing", "kind", "()I"⟩ y_Le_kind c_Le_kind 1 (some .int) (WL y_Le_kind c_Le_kind 1 (some .int)) { frames := 0, cells := 0, slots := 0, locals := 0 } 0 0 0 := va_cwA (x := ⟨"PipeWorks$Thing", "kind", "()I"⟩) 0 ht (GW_u (x := ⟨"PipeWorks$Thing", "kind", "()I"⟩) w_3_25 w_3_27 w_3_37 w_3_38 w_1_14 (GW_wl w_3_39)) rfl rfl rfl (hN.1 _ (by simp [nxW])) (by decide +kernel) hR
theorem kU_Ne_60_Li {R : Room} {s : State} {args : Array Value} (hR : 0 + 1 ≤ R.frames ∧ 8 + (1 + 11) + 0 ≤ R.locals) (ht : ∀ w ∈ GW, w.before args s = true) (hN : NX s) : va_CU R s args R_Ne R_Li "PipeWorks$Thing" 60 ⟨"PipeWorks$Thing", "kind", "()I"⟩ y_Li_kind c_Li_kind 1 (some .int) (WL y_Li_kind c_Li_kind 1 (some .int)) { frames := 0, cells := 0, slots := 0, locals := 0 } 0 0 0 := va_cwA (x := ⟨"PipeWorks$Thing", "kind", "()I"⟩) 0 ht (GW_u (x := ⟨"PipeWorks$Thing", "kind", "()I"⟩) w_3_25 w_3_27 w_3_40 w_3_41 w_1_10 (GW_wl w_3_42)) rfl rfl rfl (hN.1 _ (by simp [nxW])) (by decide +kernel) hR
theorem kU_Ne_60_To {R : Room} {s : State} {args : Array Value} (hR : 0 + 1 ≤ R.frames ∧ 8 + (1 + 11) + 0 ≤ R.locals) (ht : ∀ w ∈ GW, w.before args s = true) (hN : NX s) : va_CU R s args R_Ne R_To "PipeWorks$Thing" 60 ⟨"PipeWorks$Thing", "kind", "()I"⟩ y_To_kind c_To_kind 1 (some .int) (WL y_To_kind c_To_kind 1 (some .int)) { frames := 0, cells := 0, slots := 0, locals := 0 } 0 0 0 := va_cwA (x := ⟨"PipeWorks$Thing", "kind", "()I"⟩) 0 ht (GW_u (x := ⟨"PipeWorks$Thing", "kind", "()I"⟩) w_3_25 w_3_27 w_3_43 w_3_44 w_1_12 (GW_wl w_3_45)) rfl rfl rfl (hN.1 _ (by simp [nxW])) (by decide +kernel) hR
section S50
variable {p : Program} {l : Launch} {e : Env} {R : Room} {s : State} {m : MethodId} {args : Array Value} {below : List Frame} {meth : Method} {c : Code} {H : Heap} {locs : List Loc} {cells slots : Nat} {Q : State → Prop}
variable {cc : ByteArray} {pc n nL : Nat} {ls : Array Slot} {rest : List Value} {D : va_G} {cy : Nat → ClassId} {Z : Nat → Prop} {ad : Nat → Nat} {tb : List (Nat × Instr × Nat)} {lv : List (Nat × Value)}
section G50
variable {I : Nat → Int32} {A : Nat → Nat → Int32} {T : Nat → Option Nat} {L : List Nat} {K : Nat → Nat} {F : Nat → Nat → Int32}
set_option maxHeartbeats 4000000 in
set_option maxRecDepth 100000 in
theorem gdc_Ne_60 {q : Nat}  {P : Int32 → Prop} (C : CX D cy R_Ne cc tb nL p s m args c Z) (k : Nat) (hk : tb[k]? = some (pc, .invokevirtual 60, 3)) (hn : pc + 3 = n) (hl : lv_has ls nL lv) (h : HXw D Z s.heap H locs (wC cy ad I A T L K F)) (hw : gd_kind L K F q  P) (hfr : 1 ≤ R.frames) (hlo : 20 ≤ R.locals) (hs : (rest.map fun v => v.category).sum ≤ 8) (hc : cells ≤ R.cells ∧ slots ≤ R.slots) (kk : ∀ r : Int32, P r → W p l e R s m args below meth c H locs cells slots Q (F0 m n ls (.int r :: rest))) : W p l e R s m args below meth c H locs cells slots Q (F0 m pc ls (.ref q :: rest)) := by
  obtain ⟨hq, hw⟩ := hw
  rcases hw with ⟨hk0, hw⟩ | ⟨hk0, hw⟩ | ⟨hk0, hw⟩ | ⟨hk0, hw⟩ | ⟨hk0, hw⟩ | ⟨hk0, hw⟩
  · obtain ⟨q0, he, -⟩ := wC_th (cy := cy) (ad := ad) (I := I) (A := A) (T := T) (F := F) hq hk0
    exact i_callUp (rest := rest) (ci := 0) (qc := (R_Br, T_Br, 6)) C k hk hn hl h rfl he (kU_Ne_60_Br ⟨by omega, by omega⟩) (m_Br_kind hw) rfl rfl hs hc kk
  · obtain ⟨q0, he, -⟩ := wC_th (cy := cy) (ad := ad) (I := I) (A := A) (T := T) (F := F) hq hk0
    exact i_callUp (rest := rest) (ci := 1) (qc := (R_Dr, T_Dr, 3)) C k hk hn hl h rfl he (kU_Ne_60_Dr ⟨by omega, by omega⟩) (m_Dr_kind hw) rfl rfl hs hc kk
  · obtain ⟨q0, he, -⟩ := wC_th (cy := cy) (ad := ad) (I := I) (A := A) (T := T) (F := F) hq hk0
    exact i_callUp (rest := rest) (ci := 2) (qc := (R_Ho, T_Ho, 7)) C k hk hn hl h rfl he (kU_Ne_60_Ho ⟨by omega, by omega⟩) (m_Ho_kind hw) rfl rfl hs hc kk
  · obtain ⟨q0, he, -⟩ := wC_th (cy := cy) (ad := ad) (I := I) (A := A) (T := T) (F := F) hq hk0
    exact i_callUp (rest := rest) (ci := 3) (qc := (R_Le, T_Le, 3)) C k hk hn hl h rfl he (kU_Ne_60_Le ⟨by omega, by omega⟩) (m_Le_kind_Le hq hk0 hw) rfl rfl hs hc kk
  · obtain ⟨q0, he, -⟩ := wC_th (cy := cy) (ad := ad) (I := I) (A := A) (T := T) (F := F) hq hk0
    exact i_callUp (rest := rest) (ci := 4) (qc := (R_Li, T_Li, 4)) C k hk hn hl h rfl he (kU_Ne_60_Li ⟨by omega, by omega⟩) (m_Li_kind hw) rfl rfl hs hc kk
  · obtain ⟨q0, he, -⟩ := wC_th (cy := cy) (ad := ad) (I := I) (A := A) (T := T) (F := F) hq hk0
    exact i_callUp (rest := rest) (ci := 9) (qc := (R_To, T_To, 3)) C k hk hn hl h rfl he (kU_Ne_60_To ⟨by omega, by omega⟩) (m_To_kind hw) rfl rfl hs hc kk
end G50
set_option maxHeartbeats 4000000 in
set_option maxRecDepth 100000 in
theorem m_Ne_unhang {l : Launch} {D : va_G} {cy : Nat → ClassId} {ad : Nat → Nat} {I : Nat → Int32} {A : Nat → Nat → Int32} {T : Nat → Option Nat} {L : List Nat} {K : Nat → Nat} {F : Nat → Nat → Int32} {a1 : Int32} {P : Int32 → ((Nat → Option Nat)) → Prop} (hw : g_Ne_unhang T L K F a1 P) : ∀ sz, Met l y_Ne_unhang (WL y_Ne_unhang c_Ne_unhang 3 (some .int)) { frames := 1, cells := 0, slots := 0, locals := 20 } (va_Pc [.ref (ad 1), .int a1] (PreW D cy (wC cy ad I A T L K F) sz)) (va_Qi P (fun u t => PostW D (va_A (wC cy ad I A T L K F) sz) ((fun (u : (Nat → Option Nat)) => wC cy ad I A u L K F) u) t) (va_A (wC cy ad I A T L K F) sz)) 0 0 (va_A (wC cy ad I A T L K F) sz) := by
  refine met_i (wf := fun (u : (Nat → Option Nat)) => wC cy ad I A u L K F) R_Ne .int db_Ne_unhang (by decide) rfl rfl (Nat.le_of_ble_eq_true rfl) ?_
  intro p e s m below meth c Z Q ls C h hl hret
  have hl : lv_has ls 3 [(0, .ref (ad 1)), (1, .int a1)] := hl
  refine i_aload_n (n := 1) C 0 rfl rfl rfl hl 0 rfl ?_
  refine fgC_Ne_30 (n := 4) C 1 rfl rfl h ?_
  refine i_iload_n (n := 5) C 2 rfl rfl rfl hl 1 rfl ?_
  obtain ⟨hb, hw⟩ := hw
  refine i_aldq (n := 6) C 3 rfl rfl h (wC_get (h := 5) (by decide)) hb (fun c2 => ?_) (fun q1 c2 => ?_)
  · replace hw := hw.1 c2
    refine i_astore_nN (lv' := [(2, .null), (0, .ref (ad 1)), (1, .int a1)]) (n := 7) C 4 rfl rfl rfl hl (by decide) rfl (fun ls hl => ?_)
    refine i_aload_nN (n := 8) C 5 rfl rfl rfl hl 0 rfl ?_
    refine i_ifnonnullN (n := 11) C 6 rfl rfl ?_
    refine i_bipush (v := (-5 : Int32)) (n := 13) C 7 rfl rfl rfl ?_
    exact hret _ T _ _ _ _ rfl hw h (C.dg (k := 8) rfl)
  · replace hw := hw.2 q1 c2
    refine i_astore_n (lv' := [(2, .ref q1), (0, .ref (ad 1)), (1, .int a1)]) (n := 7) C 4 rfl rfl rfl hl (by decide) rfl (fun ls hl => ?_)
    refine i_aload_n (n := 8) C 5 rfl rfl rfl hl 0 rfl ?_
    refine i_ifnonnull (tgt := 14) C 6 rfl rfl ?_
    refine i_aload_n (n := 15) C 9 rfl rfl rfl hl 1 rfl ?_
    refine fgC_Ne_30 (n := 18) C 10 rfl rfl h ?_
    refine i_iload_n (n := 19) C 11 rfl rfl rfl hl 2 rfl ?_
    refine i_null (n := 20) C 12 rfl rfl ?_
    obtain ⟨hb, hw⟩ := hw
    refine i_astN (n := 21) C 13 rfl rfl h hb (fun H locs h => ?_)
    refine i_aload_n (n := 22) C 14 rfl rfl rfl hl 0 rfl ?_
    refine gdc_Ne_60 (rest := []) (n := 25) C 15 rfl rfl hl h hw (by decide) (by decide) (Nat.le_of_ble_eq_true rfl) ⟨by decide, by decide⟩ (fun r3 hw => ?_)
    exact hret _ (va_up T a1.toNatClampNeg none) _ _ _ _ rfl hw h (C.dg (k := 16) rfl)
end S50
theorem kV_Pw_165 {R : Room} {s : State} {args : Array Value} (hR : 1 + 1 ≤ R.frames ∧ 8 + (3 + 11) + 20 ≤ R.locals) (ht : ∀ w ∈ GW, w.before args s = true) : CallW R s args R_Pw R_Ne 165 y_Ne_unhang c_Ne_unhang 3 (some .int) (WL y_Ne_unhang c_Ne_unhang 3 (some .int)) { frames := 1, cells := 0, slots := 0, locals := 20 } 0 0 1 := cwV 1 ht (GW_v w_3_21 w_3_22 w_3_23 w_1_2 (GW_wl w_3_24)) rfl rfl rfl (by decide +kernel) hR
section S51
variable {p : Program} {l : Launch} {e : Env} {R : Room} {s : State} {m : MethodId} {args : Array Value} {below : List Frame} {meth : Method} {c : Code} {H : Heap} {locs : List Loc} {cells slots : Nat} {Q : State → Prop}
variable {cc : ByteArray} {pc n nL : Nat} {ls : Array Slot} {rest : List Value} {D : va_G} {cy : Nat → ClassId} {Z : Nat → Prop} {ad : Nat → Nat} {tb : List (Nat × Instr × Nat)} {lv : List (Nat × Value)}
set_option maxHeartbeats 4000000 in
set_option maxRecDepth 100000 in
theorem m_Pw_clear {l : Launch} {D : va_G} {cy : Nat → ClassId} {ad : Nat → Nat} {I : Nat → Int32} {A : Nat → Nat → Int32} {T : Nat → Option Nat} {L : List Nat} {K : Nat → Nat} {F : Nat → Nat → Int32} {a1 : Int32} {P : Int32 → ((Nat → Option Nat)) → Prop} (hw : g_Pw_clear I T L K F a1 P) : ∀ sz, Met l y_Pw_clear (WL y_Pw_clear c_Pw_clear 2 (some .int)) { frames := 2, cells := 0, slots := 0, locals := 42 } (va_Pc [.ref (ad 0), .int a1] (PreW D cy (wC cy ad I A T L K F) sz)) (va_Qi P (fun u t => PostW D (va_A (wC cy ad I A T L K F) sz) ((fun (u : (Nat → Option Nat)) => wC cy ad I A u L K F) u) t) (va_A (wC cy ad I A T L K F) sz)) 0 0 (va_A (wC cy ad I A T L K F) sz) := by
  refine met_i (wf := fun (u : (Nat → Option Nat)) => wC cy ad I A u L K F) R_Pw .int db_Pw_clear (by decide) rfl rfl (Nat.le_of_ble_eq_true rfl) ?_
  intro p e s m below meth c Z Q ls C h hl hret
  have hl : lv_has ls 2 [(0, .ref (ad 0)), (1, .int a1)] := hl
  refine i_aload_n (n := 1) C 0 rfl rfl rfl hl 0 rfl ?_
  refine fgC_Pw_10 (n := 4) C 1 rfl rfl h ?_
  refine i_iload_n (n := 5) C 2 rfl rfl rfl hl 1 rfl ?_
  refine i_callVp (rest := []) (ci := 5) (qc := (R_Ne, T_Ne, 17)) (n := 8) C 3 rfl rfl hl h rfl (wC_get (h := 1) (by decide)) (kV_Pw_77 ⟨by decide, by decide⟩) (m_Ne_has hw) rfl rfl (Nat.le_of_ble_eq_true rfl) ⟨by decide, by decide⟩ (fun r1 hw => ?_)
  refine i_if_eq (tgt := 22) (n := 11) C 4 rfl rfl rfl (fun c2 => ?_) (fun c2 => ?_)
  · replace hw := hw.1 c2
    refine i_iconst (v := (-1 : Int32)) (n := 23) C 10 rfl rfl rfl ?_
    exact hret _ T _ _ _ _ rfl hw h (C.dg (k := 11) rfl)
  · replace hw := hw.2 c2
    refine i_aload_n (n := 12) C 5 rfl rfl rfl hl 0 rfl ?_
    refine fgC_Pw_10 (n := 15) C 6 rfl rfl h ?_
    refine i_iload_n (n := 16) C 7 rfl rfl rfl hl 1 rfl ?_
    refine i_callVi (rest := []) (ci := 5) (qc := (R_Ne, T_Ne, 17)) (n := 19) C 8 rfl rfl hl h rfl (wC_get (h := 1) (by decide)) (kV_Pw_165 ⟨by decide, by decide⟩) (m_Ne_unhang hw) rfl rfl (Nat.le_of_ble_eq_true rfl) ⟨by decide, by decide⟩ (fun r3 u4 H locs hw h => ?_)
    refine i_goto (tgt := 23) C 9 rfl rfl ?_
    exact hret _ u4 _ _ _ _ rfl hw h (C.dg (k := 11) rfl)
end S51
section S52
variable {p : Program} {l : Launch} {e : Env} {R : Room} {s : State} {m : MethodId} {args : Array Value} {below : List Frame} {meth : Method} {c : Code} {H : Heap} {locs : List Loc} {cells slots : Nat} {Q : State → Prop}
variable {cc : ByteArray} {pc n nL : Nat} {ls : Array Slot} {rest : List Value} {D : va_G} {cy : Nat → ClassId} {Z : Nat → Prop} {ad : Nat → Nat} {tb : List (Nat × Instr × Nat)} {lv : List (Nat × Value)}
set_option maxHeartbeats 4000000 in
set_option maxRecDepth 100000 in
theorem m_Ne_pressAt {l : Launch} {D : va_G} {cy : Nat → ClassId} {ad : Nat → Nat} {I : Nat → Int32} {A : Nat → Nat → Int32} {T : Nat → Option Nat} {L : List Nat} {K : Nat → Nat} {F : Nat → Nat → Int32} {a1 : Int32} {P : Int32 → Prop} (hw : g_Ne_pressAt A a1 P) : ∀ sz, Met l y_Ne_pressAt (WL y_Ne_pressAt c_Ne_pressAt 2 (some .int)) { frames := 0, cells := 0, slots := 0, locals := 0 } (va_Pc [.ref (ad 1), .int a1] (PreW D cy (wC cy ad I A T L K F) sz)) (vp_Si P) 0 0 (fun _ => False) := by
  refine met_p R_Ne .int db_Ne_pressAt (by decide) rfl rfl (Nat.le_of_ble_eq_true rfl) ?_
  intro p e s m below meth c Z Q ls C h hl hret
  have hl : lv_has ls 2 [(0, .ref (ad 1)), (1, .int a1)] := hl
  refine i_aload_n (n := 1) C 0 rfl rfl rfl hl 0 rfl ?_
  refine fgC_Ne_25 (n := 4) C 1 rfl rfl h ?_
  refine i_iload_n (n := 5) C 2 rfl rfl rfl hl 1 rfl ?_
  obtain ⟨hb, hw⟩ := hw
  refine i_iald (n := 6) C 3 rfl rfl h (wC_arr 9 (by decide) rfl) hb ?_
  refine i_bipush (v := (10 : Int32)) (n := 8) C 4 rfl rfl rfl ?_
  refine i_aload_n (n := 9) C 5 rfl rfl rfl hl 0 rfl ?_
  refine fgC_Ne_18 (n := 12) C 6 rfl rfl h ?_
  refine i_iload_n (n := 13) C 7 rfl rfl rfl hl 1 rfl ?_
  obtain ⟨hb, hw⟩ := hw
  refine i_iald (n := 14) C 8 rfl rfl h (wC_arr 7 (by decide) rfl) hb ?_
  refine i_imul (n := 15) C 9 rfl rfl ?_
  refine i_isub (n := 16) C 10 rfl rfl ?_
  exact hret _ _ _ rfl hw (C.dg (k := 11) rfl)
end S52
section S53
variable {p : Program} {l : Launch} {e : Env} {R : Room} {s : State} {m : MethodId} {args : Array Value} {below : List Frame} {meth : Method} {c : Code} {H : Heap} {locs : List Loc} {cells slots : Nat} {Q : State → Prop}
variable {cc : ByteArray} {pc n nL : Nat} {ls : Array Slot} {rest : List Value} {D : va_G} {cy : Nat → ClassId} {Z : Nat → Prop} {ad : Nat → Nat} {tb : List (Nat × Instr × Nat)} {lv : List (Nat × Value)}
set_option maxHeartbeats 4000000 in
set_option maxRecDepth 100000 in
theorem m_Br_takesIn_Br {l : Launch} {D : va_G} {cy : Nat → ClassId} {ad : Nat → Nat} {I : Nat → Int32} {A : Nat → Nat → Int32} {T : Nat → Option Nat} {L : List Nat} {K : Nat → Nat} {F : Nat → Nat → Int32} {b : Nat} {a1 : Int32} {P : Int32 → Prop} (hbq : b ∈ L) (hbk : K b = 0) (hw : g_Br_takesIn_Br F b a1 P) : ∀ sz, Met l y_Br_takesIn (WL y_Br_takesIn c_Br_takesIn 2 (some .int)) { frames := 0, cells := 0, slots := 0, locals := 0 } (va_Pc [.ref b, .int a1] (PreW D cy (wC cy ad I A T L K F) sz)) (vp_Si P) 0 0 (fun _ => False) := by
  refine met_p R_Br .int db_Br_takesIn (by decide) rfl rfl (Nat.le_of_ble_eq_true rfl) ?_
  intro p e s m below meth c Z Q ls C h hl hret
  have hl : lv_has ls 2 [(0, .ref b), (1, .int a1)] := hl
  refine i_aload_n (n := 1) C 0 rfl rfl rfl hl 0 rfl ?_
  refine tg_Br_9_Br (n := 4) C 1 rfl rfl h hbq hbk ?_
  refine i_if_le (tgt := 32) (n := 7) C 2 rfl rfl rfl (fun c1 => ?_) (fun c1 => ?_)
  · replace hw := hw.1 c1
    refine i_iconst (v := (0 : Int32)) (n := 33) C 16 rfl rfl rfl ?_
    exact hret _ _ _ rfl hw (C.dg (k := 17) rfl)
  · replace hw := hw.2 c1
    refine i_iload_n (n := 8) C 3 rfl rfl rfl hl 1 rfl ?_
    refine i_aload_n (n := 9) C 4 rfl rfl rfl hl 0 rfl ?_
    refine tg_Br_15_Br (n := 12) C 5 rfl rfl h hbq hbk ?_
    refine i_iadd (n := 13) C 6 rfl rfl ?_
    refine i_aload_n (n := 14) C 7 rfl rfl rfl hl 0 rfl ?_
    refine tg_Br_9_Br (n := 17) C 8 rfl rfl h hbq hbk ?_
    obtain ⟨hd, hw⟩ := hw
    refine i_irem (n := 18) C 9 rfl rfl hd ?_
    refine i_aload_n (n := 19) C 10 rfl rfl rfl hl 0 rfl ?_
    refine tg_Br_18_Br (n := 22) C 11 rfl rfl h hbq hbk ?_
    refine i_icmp_ge (tgt := 32) (n := 25) C 12 rfl rfl rfl (fun c2 => ?_) (fun c2 => ?_)
    · replace hw := hw.1 c2
      refine i_iconst (v := (0 : Int32)) (n := 33) C 16 rfl rfl rfl ?_
      exact hret _ _ _ rfl hw (C.dg (k := 17) rfl)
    · replace hw := hw.2 c2
      refine i_aload_n (n := 26) C 13 rfl rfl rfl hl 0 rfl ?_
      refine tg_Br_21_Br (n := 29) C 14 rfl rfl h hbq hbk ?_
      refine i_goto (tgt := 33) C 15 rfl rfl ?_
      exact hret _ _ _ rfl hw (C.dg (k := 17) rfl)
end S53
theorem kU_Dr_21_Br {R : Room} {s : State} {args : Array Value} (hR : 0 + 1 ≤ R.frames ∧ 8 + (2 + 11) + 0 ≤ R.locals) (ht : ∀ w ∈ GW, w.before args s = true) (hN : NX s) : va_CU R s args R_Dr R_Br "PipeWorks$Draw" 21 ⟨"PipeWorks$Draw", "takesIn", "(I)I"⟩ y_Br_takesIn c_Br_takesIn 2 (some .int) (WL y_Br_takesIn c_Br_takesIn 2 (some .int)) { frames := 0, cells := 0, slots := 0, locals := 0 } 0 0 1 := va_cwO (x := ⟨"PipeWorks$Draw", "takesIn", "(I)I"⟩) 1 ht (GW_o (x := ⟨"PipeWorks$Draw", "takesIn", "(I)I"⟩) w_3_65 w_3_68 w_3_66 w_3_69 w_3_70 w_1_11 (GW_wl w_3_71)) rfl rfl rfl w_3_75 (by decide +kernel) hR
section S54
variable {p : Program} {l : Launch} {e : Env} {R : Room} {s : State} {m : MethodId} {args : Array Value} {below : List Frame} {meth : Method} {c : Code} {H : Heap} {locs : List Loc} {cells slots : Nat} {Q : State → Prop}
variable {cc : ByteArray} {pc n nL : Nat} {ls : Array Slot} {rest : List Value} {D : va_G} {cy : Nat → ClassId} {Z : Nat → Prop} {ad : Nat → Nat} {tb : List (Nat × Instr × Nat)} {lv : List (Nat × Value)}
set_option maxHeartbeats 4000000 in
set_option maxRecDepth 100000 in
theorem m_Dr_takes_Br {l : Launch} {D : va_G} {cy : Nat → ClassId} {ad : Nat → Nat} {I : Nat → Int32} {A : Nat → Nat → Int32} {T : Nat → Option Nat} {L : List Nat} {K : Nat → Nat} {F : Nat → Nat → Int32} {b : Nat} {a1 : Int32} {a2 : Int32} {P : Int32 → Prop} (hbq : b ∈ L) (hbk : K b = 0) (hw : g_Dr_takes_Br F b a1 a2 P) : ∀ sz, Met l y_Dr_takes (WL y_Dr_takes c_Dr_takes 4 (some .int)) { frames := 1, cells := 0, slots := 0, locals := 21 } (va_Pc [.ref b, .int a1, .int a2] (PreW D cy (wC cy ad I A T L K F) sz)) (vp_Si P) 0 0 (fun _ => False) := by
  refine met_p R_Dr .int db_Dr_takes (by decide) rfl rfl (Nat.le_of_ble_eq_true rfl) ?_
  intro p e s m below meth c Z Q ls C h hl hret
  have hl : lv_has ls 4 [(0, .ref b), (1, .int a1), (2, .int a2)] := hl
  refine i_iload_n (n := 1) C 0 rfl rfl rfl hl 1 rfl ?_
  refine i_iconst (v := (4 : Int32)) (n := 2) C 1 rfl rfl rfl ?_
  refine i_idiv (n := 3) C 2 rfl rfl (by decide) ?_
  refine lv_topi (fun y1 ey1 => ?_)
  replace hw := hw y1 ey1
  refine i_istore_n (lv' := [(3, .int y1), (0, .ref b), (1, .int a1), (2, .int a2)]) (n := 4) C 3 rfl rfl rfl hl (by decide) rfl (fun ls hl => ?_)
  refine i_iload_n (n := 5) C 4 rfl rfl rfl hl 0 rfl ?_
  refine i_sipush (v := (1440 : Int32)) (n := 8) C 5 rfl rfl rfl ?_
  refine i_irem (n := 9) C 6 rfl rfl (by decide) ?_
  refine i_aload_n (n := 10) C 7 rfl rfl rfl hl 1 rfl ?_
  refine tg_Dr_15_Br (n := 13) C 8 rfl rfl h hbq hbk ?_
  refine i_icmp_lt (tgt := 36) (n := 16) C 9 rfl rfl rfl (fun c2 => ?_) (fun c2 => ?_)
  · replace hw := hw.1 c2
    refine i_iconst (v := (0 : Int32)) (n := 37) C 20 rfl rfl rfl ?_
    exact hret _ _ _ rfl hw (C.dg (k := 21) rfl)
  · replace hw := hw.2 c2
    refine i_iload_n (n := 17) C 10 rfl rfl rfl hl 0 rfl ?_
    refine i_sipush (v := (1440 : Int32)) (n := 20) C 11 rfl rfl rfl ?_
    refine i_irem (n := 21) C 12 rfl rfl (by decide) ?_
    refine i_aload_n (n := 22) C 13 rfl rfl rfl hl 1 rfl ?_
    refine tg_Dr_18_Br (n := 25) C 14 rfl rfl h hbq hbk ?_
    refine i_icmp_ge (tgt := 36) (n := 28) C 15 rfl rfl rfl (fun c3 => ?_) (fun c3 => ?_)
    · replace hw := hw.1 c3
      refine i_iconst (v := (0 : Int32)) (n := 37) C 20 rfl rfl rfl ?_
      exact hret _ _ _ rfl hw (C.dg (k := 21) rfl)
    · replace hw := hw.2 c3
      refine i_aload_n (n := 29) C 16 rfl rfl rfl hl 1 rfl ?_
      refine i_iload_n (n := 30) C 17 rfl rfl rfl hl 0 rfl ?_
      obtain ⟨q04, he5, -⟩ := wC_th (cy := cy) (ad := ad) (I := I) (A := A) (T := T) (F := F) hbq hbk
      refine i_callUp (rest := []) (ci := 0) (qc := (R_Br, T_Br, 6)) (n := 33) C 18 rfl rfl hl h rfl he5 (kU_Dr_21_Br ⟨by decide, by decide⟩) (m_Br_takesIn_Br hbq hbk hw) rfl rfl (Nat.le_of_ble_eq_true rfl) ⟨by decide, by decide⟩ (fun r6 hw => ?_)
      refine i_goto (tgt := 37) C 19 rfl rfl ?_
      exact hret _ _ _ rfl hw (C.dg (k := 21) rfl)
end S54
section S55
variable {p : Program} {l : Launch} {e : Env} {R : Room} {s : State} {m : MethodId} {args : Array Value} {below : List Frame} {meth : Method} {c : Code} {H : Heap} {locs : List Loc} {cells slots : Nat} {Q : State → Prop}
variable {cc : ByteArray} {pc n nL : Nat} {ls : Array Slot} {rest : List Value} {D : va_G} {cy : Nat → ClassId} {Z : Nat → Prop} {ad : Nat → Nat} {tb : List (Nat × Instr × Nat)} {lv : List (Nat × Value)}
set_option maxHeartbeats 4000000 in
set_option maxRecDepth 100000 in
theorem m_Dr_takesIn_Dr {l : Launch} {D : va_G} {cy : Nat → ClassId} {ad : Nat → Nat} {I : Nat → Int32} {A : Nat → Nat → Int32} {T : Nat → Option Nat} {L : List Nat} {K : Nat → Nat} {F : Nat → Nat → Int32} {b : Nat} {a1 : Int32} {P : Int32 → Prop} (hbq : b ∈ L) (hbk : K b = 1) (hw : g_Dr_takesIn_Dr F b a1 P) : ∀ sz, Met l y_Dr_takesIn (WL y_Dr_takesIn c_Dr_takesIn 2 (some .int)) { frames := 0, cells := 0, slots := 0, locals := 0 } (va_Pc [.ref b, .int a1] (PreW D cy (wC cy ad I A T L K F) sz)) (vp_Si P) 0 0 (fun _ => False) := by
  refine met_p R_Dr .int db_Dr_takesIn (by decide) rfl rfl (Nat.le_of_ble_eq_true rfl) ?_
  intro p e s m below meth c Z Q ls C h hl hret
  have hl : lv_has ls 2 [(0, .ref b), (1, .int a1)] := hl
  refine i_aload_n (n := 1) C 0 rfl rfl rfl hl 0 rfl ?_
  refine tg_Dr_9_Dr (n := 4) C 1 rfl rfl h hbq hbk ?_
  exact hret _ _ _ rfl hw (C.dg (k := 2) rfl)
end S55
theorem kV_Dr_21_Dr {R : Room} {s : State} {args : Array Value} (hR : 0 + 1 ≤ R.frames ∧ 8 + (2 + 11) + 0 ≤ R.locals) (ht : ∀ w ∈ GW, w.before args s = true) : CallW R s args R_Dr R_Dr 21 y_Dr_takesIn c_Dr_takesIn 2 (some .int) (WL y_Dr_takesIn c_Dr_takesIn 2 (some .int)) { frames := 0, cells := 0, slots := 0, locals := 0 } 0 0 1 := cwV 1 ht (GW_v w_3_65 w_3_66 w_3_67 w_1_9 (GW_wl w_3_75)) rfl rfl rfl (by decide +kernel) hR
section S56
variable {p : Program} {l : Launch} {e : Env} {R : Room} {s : State} {m : MethodId} {args : Array Value} {below : List Frame} {meth : Method} {c : Code} {H : Heap} {locs : List Loc} {cells slots : Nat} {Q : State → Prop}
variable {cc : ByteArray} {pc n nL : Nat} {ls : Array Slot} {rest : List Value} {D : va_G} {cy : Nat → ClassId} {Z : Nat → Prop} {ad : Nat → Nat} {tb : List (Nat × Instr × Nat)} {lv : List (Nat × Value)}
set_option maxHeartbeats 4000000 in
set_option maxRecDepth 100000 in
theorem m_Dr_takes_Dr {l : Launch} {D : va_G} {cy : Nat → ClassId} {ad : Nat → Nat} {I : Nat → Int32} {A : Nat → Nat → Int32} {T : Nat → Option Nat} {L : List Nat} {K : Nat → Nat} {F : Nat → Nat → Int32} {b : Nat} {a1 : Int32} {a2 : Int32} {P : Int32 → Prop} (hbq : b ∈ L) (hbk : K b = 1) (hw : g_Dr_takes_Dr F b a1 a2 P) : ∀ sz, Met l y_Dr_takes (WL y_Dr_takes c_Dr_takes 4 (some .int)) { frames := 1, cells := 0, slots := 0, locals := 21 } (va_Pc [.ref b, .int a1, .int a2] (PreW D cy (wC cy ad I A T L K F) sz)) (vp_Si P) 0 0 (fun _ => False) := by
  refine met_p R_Dr .int db_Dr_takes (by decide) rfl rfl (Nat.le_of_ble_eq_true rfl) ?_
  intro p e s m below meth c Z Q ls C h hl hret
  have hl : lv_has ls 4 [(0, .ref b), (1, .int a1), (2, .int a2)] := hl
  refine i_iload_n (n := 1) C 0 rfl rfl rfl hl 1 rfl ?_
  refine i_iconst (v := (4 : Int32)) (n := 2) C 1 rfl rfl rfl ?_
  refine i_idiv (n := 3) C 2 rfl rfl (by decide) ?_
  refine lv_topi (fun y1 ey1 => ?_)
  replace hw := hw y1 ey1
  refine i_istore_n (lv' := [(3, .int y1), (0, .ref b), (1, .int a1), (2, .int a2)]) (n := 4) C 3 rfl rfl rfl hl (by decide) rfl (fun ls hl => ?_)
  refine i_iload_n (n := 5) C 4 rfl rfl rfl hl 0 rfl ?_
  refine i_sipush (v := (1440 : Int32)) (n := 8) C 5 rfl rfl rfl ?_
  refine i_irem (n := 9) C 6 rfl rfl (by decide) ?_
  refine i_aload_n (n := 10) C 7 rfl rfl rfl hl 1 rfl ?_
  refine tg_Dr_15_Dr (n := 13) C 8 rfl rfl h hbq hbk ?_
  refine i_icmp_lt (tgt := 36) (n := 16) C 9 rfl rfl rfl (fun c2 => ?_) (fun c2 => ?_)
  · replace hw := hw.1 c2
    refine i_iconst (v := (0 : Int32)) (n := 37) C 20 rfl rfl rfl ?_
    exact hret _ _ _ rfl hw (C.dg (k := 21) rfl)
  · replace hw := hw.2 c2
    refine i_iload_n (n := 17) C 10 rfl rfl rfl hl 0 rfl ?_
    refine i_sipush (v := (1440 : Int32)) (n := 20) C 11 rfl rfl rfl ?_
    refine i_irem (n := 21) C 12 rfl rfl (by decide) ?_
    refine i_aload_n (n := 22) C 13 rfl rfl rfl hl 1 rfl ?_
    refine tg_Dr_18_Dr (n := 25) C 14 rfl rfl h hbq hbk ?_
    refine i_icmp_ge (tgt := 36) (n := 28) C 15 rfl rfl rfl (fun c3 => ?_) (fun c3 => ?_)
    · replace hw := hw.1 c3
      refine i_iconst (v := (0 : Int32)) (n := 37) C 20 rfl rfl rfl ?_
      exact hret _ _ _ rfl hw (C.dg (k := 21) rfl)
    · replace hw := hw.2 c3
      refine i_aload_n (n := 29) C 16 rfl rfl rfl hl 1 rfl ?_
      refine i_iload_n (n := 30) C 17 rfl rfl rfl hl 0 rfl ?_
      obtain ⟨q04, he5, -⟩ := wC_th (cy := cy) (ad := ad) (I := I) (A := A) (T := T) (F := F) hbq hbk
      refine i_callVp (rest := []) (ci := 1) (qc := (R_Dr, T_Dr, 3)) (n := 33) C 18 rfl rfl hl h rfl he5 (kV_Dr_21_Dr ⟨by decide, by decide⟩) (m_Dr_takesIn_Dr hbq hbk hw) rfl rfl (Nat.le_of_ble_eq_true rfl) ⟨by decide, by decide⟩ (fun r6 hw => ?_)
      refine i_goto (tgt := 37) C 19 rfl rfl ?_
      exact hret _ _ _ rfl hw (C.dg (k := 21) rfl)
end S56
section S57
variable {p : Program} {l : Launch} {e : Env} {R : Room} {s : State} {m : MethodId} {args : Array Value} {below : List Frame} {meth : Method} {c : Code} {H : Heap} {locs : List Loc} {cells slots : Nat} {Q : State → Prop}
variable {cc : ByteArray} {pc n nL : Nat} {ls : Array Slot} {rest : List Value} {D : va_G} {cy : Nat → ClassId} {Z : Nat → Prop} {ad : Nat → Nat} {tb : List (Nat × Instr × Nat)} {lv : List (Nat × Value)}
set_option maxHeartbeats 4000000 in
set_option maxRecDepth 100000 in
theorem m_Ho_takes {l : Launch} {D : va_G} {cy : Nat → ClassId}   {a1 : Int32} {a2 : Int32} {b : Nat} {w : va_W} {P : Int32 → Prop} (hw : g_Ho_takes a1 a2 P) : ∀ sz, Met l y_Ho_takes (WL y_Ho_takes c_Ho_takes 3 (some .int)) { frames := 0, cells := 0, slots := 0, locals := 0 } (va_Pc [.ref b, .int a1, .int a2] (PreW D cy (w) sz)) (vp_Si P) 0 0 (fun _ => False) := by
  refine met_p R_Ho .int db_Ho_takes (by decide) rfl rfl (Nat.le_of_ble_eq_true rfl) ?_
  intro p e s m below meth c Z Q ls C h hl hret
  have hl : lv_has ls 3 [(0, .ref b), (1, .int a1), (2, .int a2)] := hl
  refine i_iconst (v := (0 : Int32)) (n := 1) C 0 rfl rfl rfl ?_
  exact hret _ _ _ rfl hw (C.dg (k := 1) rfl)
end S57
section S58
variable {p : Program} {l : Launch} {e : Env} {R : Room} {s : State} {m : MethodId} {args : Array Value} {below : List Frame} {meth : Method} {c : Code} {H : Heap} {locs : List Loc} {cells slots : Nat} {Q : State → Prop}
variable {cc : ByteArray} {pc n nL : Nat} {ls : Array Slot} {rest : List Value} {D : va_G} {cy : Nat → ClassId} {Z : Nat → Prop} {ad : Nat → Nat} {tb : List (Nat × Instr × Nat)} {lv : List (Nat × Value)}
set_option maxHeartbeats 4000000 in
set_option maxRecDepth 100000 in
theorem e_Le_takes_Le_18 {I : Nat → Int32} {A : Nat → Nat → Int32} {T : Nat → Option Nat} {L : List Nat} {K : Nat → Nat} {F : Nat → Nat → Int32} {b : Nat} {a1 : Int32} {a2 : Int32} {P : Int32 → Prop}  (C : CX D cy R_Le c_Le_takes tb_Le_takes 4 p s m args c Z) (h : HXw D Z s.heap H locs (wC cy ad I A T L K F)) (hbq : b ∈ L) (hbk : K b = 3) (hret : RetP p l e { frames := 0, cells := 0, slots := 0, locals := 0 } s m args below meth c c_Le_takes .int H locs Q P) :
    ∀ (s0 : Int32) (ls : Array Slot), lv_has ls 4 [(0, .ref b)] → g_Le_takes_Le_18 F b a1 a2 P  s0 → W p l e { frames := 0, cells := 0, slots := 0, locals := 0 } s m args below meth c H locs 0 0 Q (F0 m 18 ls [.int s0]) := by
  intro s0 ls hl hw
  refine i_istore_n (lv' := [(3, .int s0), (0, .ref b)]) (n := 19) C 10 rfl rfl rfl hl (by decide) rfl (fun ls hl => ?_)
  refine i_aload_n (n := 20) C 11 rfl rfl rfl hl 1 rfl ?_
  refine tg_Le_13_Le (n := 23) C 12 rfl rfl h hbq hbk ?_
  refine i_if_eq (tgt := 32) (n := 26) C 13 rfl rfl rfl (fun c2 => ?_) (fun c2 => ?_)
  · replace hw := hw.1 c2
    refine i_iload_n (n := 33) C 18 rfl rfl rfl hl 0 rfl ?_
    exact hret _ _ _ rfl hw (C.dg (k := 19) rfl)
  · replace hw := hw.2 c2
    refine i_iconst (v := (2 : Int32)) (n := 27) C 14 rfl rfl rfl ?_
    refine i_iload_n (n := 28) C 15 rfl rfl rfl hl 0 rfl ?_
    refine i_imul (n := 29) C 16 rfl rfl ?_
    refine i_goto (tgt := 33) C 17 rfl rfl ?_
    exact hret _ _ _ rfl hw (C.dg (k := 19) rfl)
set_option maxHeartbeats 4000000 in
set_option maxRecDepth 100000 in
theorem m_Le_takes_Le {l : Launch} {D : va_G} {cy : Nat → ClassId} {ad : Nat → Nat} {I : Nat → Int32} {A : Nat → Nat → Int32} {T : Nat → Option Nat} {L : List Nat} {K : Nat → Nat} {F : Nat → Nat → Int32} {b : Nat} {a1 : Int32} {a2 : Int32} {P : Int32 → Prop} (hbq : b ∈ L) (hbk : K b = 3) (hw : g_Le_takes_Le F b a1 a2 P) : ∀ sz, Met l y_Le_takes (WL y_Le_takes c_Le_takes 4 (some .int)) { frames := 0, cells := 0, slots := 0, locals := 0 } (va_Pc [.ref b, .int a1, .int a2] (PreW D cy (wC cy ad I A T L K F) sz)) (vp_Si P) 0 0 (fun _ => False) := by
  refine met_p R_Le .int db_Le_takes (by decide) rfl rfl (Nat.le_of_ble_eq_true rfl) ?_
  intro p e s m below meth c Z Q ls C h hl hret
  have hl : lv_has ls 4 [(0, .ref b), (1, .int a1), (2, .int a2)] := hl
  refine i_iload_n (n := 1) C 0 rfl rfl rfl hl 2 rfl ?_
  refine i_if_ge (tgt := 8) (n := 4) C 1 rfl rfl rfl (fun c1 => ?_) (fun c1 => ?_)
  · replace hw := hw.1 c1
    refine i_aload_n (n := 9) C 4 rfl rfl rfl hl 0 rfl ?_
    refine tg_Le_7_Le (n := 12) C 5 rfl rfl h hbq hbk ?_
    refine i_iload_n (n := 13) C 6 rfl rfl rfl hl 2 rfl ?_
    refine i_imul (n := 14) C 7 rfl rfl ?_
    refine i_sipush (v := (1000 : Int32)) (n := 17) C 8 rfl rfl rfl ?_
    refine i_idiv (n := 18) C 9 rfl rfl (by decide) ?_
    exact e_Le_takes_Le_18 C h hbq hbk hret  (((F b 0) * a2) / (1000 : Int32)) ls (lv_sub hl [0] rfl) hw
  · replace hw := hw.2 c1
    refine i_iconst (v := (0 : Int32)) (n := 5) C 2 rfl rfl rfl ?_
    refine i_goto (tgt := 18) C 3 rfl rfl ?_
    exact e_Le_takes_Le_18 C h hbq hbk hret  (0 : Int32) ls (lv_sub hl [0] rfl) hw
end S58
section S59
variable {p : Program} {l : Launch} {e : Env} {R : Room} {s : State} {m : MethodId} {args : Array Value} {below : List Frame} {meth : Method} {c : Code} {H : Heap} {locs : List Loc} {cells slots : Nat} {Q : State → Prop}
variable {cc : ByteArray} {pc n nL : Nat} {ls : Array Slot} {rest : List Value} {D : va_G} {cy : Nat → ClassId} {Z : Nat → Prop} {ad : Nat → Nat} {tb : List (Nat × Instr × Nat)} {lv : List (Nat × Value)}
set_option maxHeartbeats 4000000 in
set_option maxRecDepth 100000 in
theorem m_Li_takesIn_Li {l : Launch} {D : va_G} {cy : Nat → ClassId} {ad : Nat → Nat} {I : Nat → Int32} {A : Nat → Nat → Int32} {T : Nat → Option Nat} {L : List Nat} {K : Nat → Nat} {F : Nat → Nat → Int32} {b : Nat} {a1 : Int32} {P : Int32 → Prop} (hbq : b ∈ L) (hbk : K b = 4) (hw : g_Li_takesIn_Li F b a1 P) : ∀ sz, Met l y_Li_takesIn (WL y_Li_takesIn c_Li_takesIn 3 (some .int)) { frames := 0, cells := 0, slots := 0, locals := 0 } (va_Pc [.ref b, .int a1] (PreW D cy (wC cy ad I A T L K F) sz)) (vp_Si P) 0 0 (fun _ => False) := by
  refine met_p R_Li .int db_Li_takesIn (by decide) rfl rfl (Nat.le_of_ble_eq_true rfl) ?_
  intro p e s m below meth c Z Q ls C h hl hret
  have hl : lv_has ls 3 [(0, .ref b), (1, .int a1)] := hl
  refine i_iload_n (n := 1) C 0 rfl rfl rfl hl 1 rfl ?_
  refine i_sipush (v := (1440 : Int32)) (n := 4) C 1 rfl rfl rfl ?_
  refine i_irem (n := 5) C 2 rfl rfl (by decide) ?_
  refine i_bipush (v := (60 : Int32)) (n := 7) C 3 rfl rfl rfl ?_
  refine i_idiv (n := 8) C 4 rfl rfl (by decide) ?_
  refine lv_topi (fun y1 ey1 => ?_)
  replace hw := hw y1 ey1
  refine i_istore_n (lv' := [(2, .int y1), (0, .ref b), (1, .int a1)]) (n := 9) C 5 rfl rfl rfl hl (by decide) rfl (fun ls hl => ?_)
  refine i_aload_n (n := 10) C 6 rfl rfl rfl hl 1 rfl ?_
  refine tg_Li_15_Li (n := 13) C 7 rfl rfl h hbq hbk ?_
  refine i_aload_n (n := 14) C 8 rfl rfl rfl hl 1 rfl ?_
  refine tg_Li_9_Li (n := 17) C 9 rfl rfl h hbq hbk ?_
  refine i_iconst (v := (3 : Int32)) (n := 18) C 10 rfl rfl rfl ?_
  refine i_iload_n (n := 19) C 11 rfl rfl rfl hl 0 rfl ?_
  refine i_imul (n := 20) C 12 rfl rfl ?_
  refine i_iadd (n := 21) C 13 rfl rfl ?_
  refine i_bipush (v := (7 : Int32)) (n := 23) C 14 rfl rfl rfl ?_
  refine i_irem (n := 24) C 15 rfl rfl (by decide) ?_
  refine i_imul (n := 25) C 16 rfl rfl ?_
  exact hret _ _ _ rfl hw (C.dg (k := 17) rfl)
end S59
theorem kU_Dr_21_Li {R : Room} {s : State} {args : Array Value} (hR : 0 + 1 ≤ R.frames ∧ 8 + (3 + 11) + 0 ≤ R.locals) (ht : ∀ w ∈ GW, w.before args s = true) (hN : NX s) : va_CU R s args R_Dr R_Li "PipeWorks$Draw" 21 ⟨"PipeWorks$Draw", "takesIn", "(I)I"⟩ y_Li_takesIn c_Li_takesIn 3 (some .int) (WL y_Li_takesIn c_Li_takesIn 3 (some .int)) { frames := 0, cells := 0, slots := 0, locals := 0 } 0 0 1 := va_cwO (x := ⟨"PipeWorks$Draw", "takesIn", "(I)I"⟩) 1 ht (GW_o (x := ⟨"PipeWorks$Draw", "takesIn", "(I)I"⟩) w_3_65 w_3_68 w_3_66 w_3_72 w_3_73 w_1_10 (GW_wl w_3_74)) rfl rfl rfl w_3_75 (by decide +kernel) hR
section S60
variable {p : Program} {l : Launch} {e : Env} {R : Room} {s : State} {m : MethodId} {args : Array Value} {below : List Frame} {meth : Method} {c : Code} {H : Heap} {locs : List Loc} {cells slots : Nat} {Q : State → Prop}
variable {cc : ByteArray} {pc n nL : Nat} {ls : Array Slot} {rest : List Value} {D : va_G} {cy : Nat → ClassId} {Z : Nat → Prop} {ad : Nat → Nat} {tb : List (Nat × Instr × Nat)} {lv : List (Nat × Value)}
set_option maxHeartbeats 4000000 in
set_option maxRecDepth 100000 in
theorem m_Dr_takes_Li {l : Launch} {D : va_G} {cy : Nat → ClassId} {ad : Nat → Nat} {I : Nat → Int32} {A : Nat → Nat → Int32} {T : Nat → Option Nat} {L : List Nat} {K : Nat → Nat} {F : Nat → Nat → Int32} {b : Nat} {a1 : Int32} {a2 : Int32} {P : Int32 → Prop} (hbq : b ∈ L) (hbk : K b = 4) (hw : g_Dr_takes_Li F b a1 a2 P) : ∀ sz, Met l y_Dr_takes (WL y_Dr_takes c_Dr_takes 4 (some .int)) { frames := 1, cells := 0, slots := 0, locals := 22 } (va_Pc [.ref b, .int a1, .int a2] (PreW D cy (wC cy ad I A T L K F) sz)) (vp_Si P) 0 0 (fun _ => False) := by
  refine met_p R_Dr .int db_Dr_takes (by decide) rfl rfl (Nat.le_of_ble_eq_true rfl) ?_
  intro p e s m below meth c Z Q ls C h hl hret
  have hl : lv_has ls 4 [(0, .ref b), (1, .int a1), (2, .int a2)] := hl
  refine i_iload_n (n := 1) C 0 rfl rfl rfl hl 1 rfl ?_
  refine i_iconst (v := (4 : Int32)) (n := 2) C 1 rfl rfl rfl ?_
  refine i_idiv (n := 3) C 2 rfl rfl (by decide) ?_
  refine lv_topi (fun y1 ey1 => ?_)
  replace hw := hw y1 ey1
  refine i_istore_n (lv' := [(3, .int y1), (0, .ref b), (1, .int a1), (2, .int a2)]) (n := 4) C 3 rfl rfl rfl hl (by decide) rfl (fun ls hl => ?_)
  refine i_iload_n (n := 5) C 4 rfl rfl rfl hl 0 rfl ?_
  refine i_sipush (v := (1440 : Int32)) (n := 8) C 5 rfl rfl rfl ?_
  refine i_irem (n := 9) C 6 rfl rfl (by decide) ?_
  refine i_aload_n (n := 10) C 7 rfl rfl rfl hl 1 rfl ?_
  refine tg_Dr_15_Li (n := 13) C 8 rfl rfl h hbq hbk ?_
  refine i_icmp_lt (tgt := 36) (n := 16) C 9 rfl rfl rfl (fun c2 => ?_) (fun c2 => ?_)
  · replace hw := hw.1 c2
    refine i_iconst (v := (0 : Int32)) (n := 37) C 20 rfl rfl rfl ?_
    exact hret _ _ _ rfl hw (C.dg (k := 21) rfl)
  · replace hw := hw.2 c2
    refine i_iload_n (n := 17) C 10 rfl rfl rfl hl 0 rfl ?_
    refine i_sipush (v := (1440 : Int32)) (n := 20) C 11 rfl rfl rfl ?_
    refine i_irem (n := 21) C 12 rfl rfl (by decide) ?_
    refine i_aload_n (n := 22) C 13 rfl rfl rfl hl 1 rfl ?_
    refine tg_Dr_18_Li (n := 25) C 14 rfl rfl h hbq hbk ?_
    refine i_icmp_ge (tgt := 36) (n := 28) C 15 rfl rfl rfl (fun c3 => ?_) (fun c3 => ?_)
    · replace hw := hw.1 c3
      refine i_iconst (v := (0 : Int32)) (n := 37) C 20 rfl rfl rfl ?_
      exact hret _ _ _ rfl hw (C.dg (k := 21) rfl)
    · replace hw := hw.2 c3
      refine i_aload_n (n := 29) C 16 rfl rfl rfl hl 1 rfl ?_
      refine i_iload_n (n := 30) C 17 rfl rfl rfl hl 0 rfl ?_
      obtain ⟨q04, he5, -⟩ := wC_th (cy := cy) (ad := ad) (I := I) (A := A) (T := T) (F := F) hbq hbk
      refine i_callUp (rest := []) (ci := 4) (qc := (R_Li, T_Li, 4)) (n := 33) C 18 rfl rfl hl h rfl he5 (kU_Dr_21_Li ⟨by decide, by decide⟩) (m_Li_takesIn_Li hbq hbk hw) rfl rfl (Nat.le_of_ble_eq_true rfl) ⟨by decide, by decide⟩ (fun r6 hw => ?_)
      refine i_goto (tgt := 37) C 19 rfl rfl ?_
      exact hret _ _ _ rfl hw (C.dg (k := 21) rfl)
end S60
section S61
variable {p : Program} {l : Launch} {e : Env} {R : Room} {s : State} {m : MethodId} {args : Array Value} {below : List Frame} {meth : Method} {c : Code} {H : Heap} {locs : List Loc} {cells slots : Nat} {Q : State → Prop}
variable {cc : ByteArray} {pc n nL : Nat} {ls : Array Slot} {rest : List Value} {D : va_G} {cy : Nat → ClassId} {Z : Nat → Prop} {ad : Nat → Nat} {tb : List (Nat × Instr × Nat)} {lv : List (Nat × Value)}
set_option maxHeartbeats 4000000 in
set_option maxRecDepth 100000 in
theorem m_To_takes_To {l : Launch} {D : va_G} {cy : Nat → ClassId} {ad : Nat → Nat} {I : Nat → Int32} {A : Nat → Nat → Int32} {T : Nat → Option Nat} {L : List Nat} {K : Nat → Nat} {F : Nat → Nat → Int32} {b : Nat} {a1 : Int32} {a2 : Int32} {P : Int32 → Prop} (hbq : b ∈ L) (hbk : K b = 9) (hw : g_To_takes_To F b a1 a2 P) : ∀ sz, Met l y_To_takes (WL y_To_takes c_To_takes 3 (some .int)) { frames := 0, cells := 0, slots := 0, locals := 0 } (va_Pc [.ref b, .int a1, .int a2] (PreW D cy (wC cy ad I A T L K F) sz)) (vp_Si P) 0 0 (fun _ => False) := by
  refine met_p R_To .int db_To_takes (by decide) rfl rfl (Nat.le_of_ble_eq_true rfl) ?_
  intro p e s m below meth c Z Q ls C h hl hret
  have hl : lv_has ls 3 [(0, .ref b), (1, .int a1), (2, .int a2)] := hl
  refine i_aload_n (n := 1) C 0 rfl rfl rfl hl 0 rfl ?_
  refine tg_To_16_To (n := 4) C 1 rfl rfl h hbq hbk ?_
  refine i_if_ne (tgt := 12) (n := 7) C 2 rfl rfl rfl (fun c1 => ?_) (fun c1 => ?_)
  · replace hw := hw.1 c1
    refine i_iconst (v := (0 : Int32)) (n := 13) C 5 rfl rfl rfl ?_
    exact hret _ _ _ rfl hw (C.dg (k := 6) rfl)
  · replace hw := hw.2 c1
    refine i_bipush (v := (10 : Int32)) (n := 9) C 3 rfl rfl rfl ?_
    refine i_goto (tgt := 13) C 4 rfl rfl ?_
    exact hret _ _ _ rfl hw (C.dg (k := 6) rfl)
end S61
theorem kV_Ne_64 {R : Room} {s : State} {args : Array Value} (hR : 0 + 1 ≤ R.frames ∧ 8 + (2 + 11) + 0 ≤ R.locals) (ht : ∀ w ∈ GW, w.before args s = true) : CallW R s args R_Ne R_Ne 64 y_Ne_pressAt c_Ne_pressAt 2 (some .int) (WL y_Ne_pressAt c_Ne_pressAt 2 (some .int)) { frames := 0, cells := 0, slots := 0, locals := 0 } 0 0 1 := cwV 1 ht (GW_v w_3_55 w_3_56 w_3_57 w_1_2 (GW_wl w_3_58)) rfl rfl rfl (by decide +kernel) hR
theorem kU_Ne_68_Br {R : Room} {s : State} {args : Array Value} (hR : 1 + 1 ≤ R.frames ∧ 8 + (4 + 11) + 21 ≤ R.locals) (ht : ∀ w ∈ GW, w.before args s = true) (hN : NX s) : va_CU R s args R_Ne R_Br "PipeWorks$Thing" 68 ⟨"PipeWorks$Thing", "takes", "(II)I"⟩ y_Dr_takes c_Dr_takes 4 (some .int) (WL y_Dr_takes c_Dr_takes 4 (some .int)) { frames := 1, cells := 0, slots := 0, locals := 21 } 0 0 2 := va_cwO (x := ⟨"PipeWorks$Thing", "takes", "(II)I"⟩) 2 ht (GW_o (x := ⟨"PipeWorks$Thing", "takes", "(II)I"⟩) w_3_59 w_3_61 w_3_60 w_3_62 w_3_63 w_1_9 (GW_wl w_3_64)) rfl rfl rfl w_3_87 (by decide +kernel) hR
theorem kU_Ne_68_Dr {R : Room} {s : State} {args : Array Value} (hR : 1 + 1 ≤ R.frames ∧ 8 + (4 + 11) + 21 ≤ R.locals) (ht : ∀ w ∈ GW, w.before args s = true) (hN : NX s) : va_CU R s args R_Ne R_Dr "PipeWorks$Thing" 68 ⟨"PipeWorks$Thing", "takes", "(II)I"⟩ y_Dr_takes c_Dr_takes 4 (some .int) (WL y_Dr_takes c_Dr_takes 4 (some .int)) { frames := 1, cells := 0, slots := 0, locals := 21 } 0 0 2 := va_cwO (x := ⟨"PipeWorks$Thing", "takes", "(II)I"⟩) 2 ht (GW_o (x := ⟨"PipeWorks$Thing", "takes", "(II)I"⟩) w_3_59 w_3_61 w_3_60 w_3_76 w_3_63 w_1_9 (GW_wl w_3_64)) rfl rfl rfl w_3_87 (by decide +kernel) hR
theorem kU_Ne_68_Ho {R : Room} {s : State} {args : Array Value} (hR : 0 + 1 ≤ R.frames ∧ 8 + (3 + 11) + 0 ≤ R.locals) (ht : ∀ w ∈ GW, w.before args s = true) (hN : NX s) : va_CU R s args R_Ne R_Ho "PipeWorks$Thing" 68 ⟨"PipeWorks$Thing", "takes", "(II)I"⟩ y_Ho_takes c_Ho_takes 3 (some .int) (WL y_Ho_takes c_Ho_takes 3 (some .int)) { frames := 0, cells := 0, slots := 0, locals := 0 } 0 0 2 := va_cwO (x := ⟨"PipeWorks$Thing", "takes", "(II)I"⟩) 2 ht (GW_o (x := ⟨"PipeWorks$Thing", "takes", "(II)I"⟩) w_3_59 w_3_61 w_3_60 w_3_77 w_3_78 w_1_13 (GW_wl w_3_79)) rfl rfl rfl w_3_87 (by decide +kernel) hR
theorem kU_Ne_68_Le {R : Room} {s : State} {args : Array Value} (hR : 0 + 1 ≤ R.frames ∧ 8 + (4 + 11) + 0 ≤ R.locals) (ht : ∀ w ∈ GW, w.before args s = true) (hN : NX s) : va_CU R s args R_Ne R_Le "PipeWorks$Thing" 68 ⟨"PipeWorks$Thing", "takes", "(II)I"⟩ y_Le_takes c_Le_takes 4 (some .int) (WL y_Le_takes c_Le_takes 4 (some .int)) { frames := 0, cells := 0, slots := 0, locals := 0 } 0 0 2 := va_cwO (x := ⟨"PipeWorks$Thing", "takes", "(II)I"⟩) 2 ht (GW_o (x := ⟨"PipeWorks$Thing", "takes", "(II)I"⟩) w_3_59 w_3_61 w_3_60 w_3_80 w_3_81 w_1_14 (GW_wl w_3_82)) rfl rfl rfl w_3_87 (by decide +kernel) hR
theorem kU_Ne_68_Li {R : Room} {s : State} {args : Array Value} (hR : 1 + 1 ≤ R.frames ∧ 8 + (4 + 11) + 22 ≤ R.locals) (ht : ∀ w ∈ GW, w.before args s = true) (hN : NX s) : va_CU R s args R_Ne R_Li "PipeWorks$Thing" 68 ⟨"PipeWorks$Thing", "takes", "(II)I"⟩ y_Dr_takes c_Dr_takes 4 (some .int) (WL y_Dr_takes c_Dr_takes 4 (some .int)) { frames := 1, cells := 0, slots := 0, locals := 22 } 0 0 2 := va_cwO (x := ⟨"PipeWorks$Thing", "takes", "(II)I"⟩) 2 ht (GW_o (x := ⟨"PipeWorks$Thing", "takes", "(II)I"⟩) w_3_59 w_3_61 w_3_60 w_3_83 w_3_63 w_1_9 (GW_wl w_3_64)) rfl rfl rfl w_3_87 (by decide +kernel) hR
theorem kU_Ne_68_To {R : Room} {s : State} {args : Array Value} (hR : 0 + 1 ≤ R.frames ∧ 8 + (3 + 11) + 0 ≤ R.locals) (ht : ∀ w ∈ GW, w.before args s = true) (hN : NX s) : va_CU R s args R_Ne R_To "PipeWorks$Thing" 68 ⟨"PipeWorks$Thing", "takes", "(II)I"⟩ y_To_takes c_To_takes 3 (some .int) (WL y_To_takes c_To_takes 3 (some .int)) { frames := 0, cells := 0, slots := 0, locals := 0 } 0 0 2 := va_cwO (x := ⟨"PipeWorks$Thing", "takes", "(II)I"⟩) 2 ht (GW_o (x := ⟨"PipeWorks$Thing", "takes", "(II)I"⟩) w_3_59 w_3_61 w_3_60 w_3_84 w_3_85 w_1_12 (GW_wl w_3_86)) rfl rfl rfl w_3_87 (by decide +kernel) hR
section S62
variable {p : Program} {l : Launch} {e : Env} {R : Room} {s : State} {m : MethodId} {args : Array Value} {below : List Frame} {meth : Method} {c : Code} {H : Heap} {locs : List Loc} {cells slots : Nat} {Q : State → Prop}
variable {cc : ByteArray} {pc n nL : Nat} {ls : Array Slot} {rest : List Value} {D : va_G} {cy : Nat → ClassId} {Z : Nat → Prop} {ad : Nat → Nat} {tb : List (Nat × Instr × Nat)} {lv : List (Nat × Value)}
section G62
variable {I : Nat → Int32} {A : Nat → Nat → Int32} {T : Nat → Option Nat} {L : List Nat} {K : Nat → Nat} {F : Nat → Nat → Int32}
set_option maxHeartbeats 4000000 in
set_option maxRecDepth 100000 in
theorem gdc_Ne_68 {q : Nat} {a1 : Int32} {a2 : Int32} {P : Int32 → Prop} (C : CX D cy R_Ne cc tb nL p s m args c Z) (k : Nat) (hk : tb[k]? = some (pc, .invokevirtual 68, 3)) (hn : pc + 3 = n) (hl : lv_has ls nL lv) (h : HXw D Z s.heap H locs (wC cy ad I A T L K F)) (hw : gd_takes L K F q a1 a2 P) (hfr : 2 ≤ R.frames) (hlo : 45 ≤ R.locals) (hs : (rest.map fun v => v.category).sum ≤ 8) (hc : cells ≤ R.cells ∧ slots ≤ R.slots) (kk : ∀ r : Int32, P r → W p l e R s m args below meth c H locs cells slots Q (F0 m n ls (.int r :: rest))) : W p l e R s m args below meth c H locs cells slots Q (F0 m pc ls (.int a2 :: .int a1 :: .ref q :: rest)) := by
  obtain ⟨hq, hw⟩ := hw
  rcases hw with ⟨hk0, hw⟩ | ⟨hk0, hw⟩ | ⟨hk0, hw⟩ | ⟨hk0, hw⟩ | ⟨hk0, hw⟩ | ⟨hk0, hw⟩
  · obtain ⟨q0, he, -⟩ := wC_th (cy := cy) (ad := ad) (I := I) (A := A) (T := T) (F := F) hq hk0
    exact i_callUp (rest := rest) (ci := 0) (qc := (R_Br, T_Br, 6)) C k hk hn hl h rfl he (kU_Ne_68_Br ⟨by omega, by omega⟩) (m_Dr_takes_Br hq hk0 hw) rfl rfl hs hc kk
  · obtain ⟨q0, he, -⟩ := wC_th (cy := cy) (ad := ad) (I := I) (A := A) (T := T) (F := F) hq hk0
    exact i_callUp (rest := rest) (ci := 1) (qc := (R_Dr, T_Dr, 3)) C k hk hn hl h rfl he (kU_Ne_68_Dr ⟨by omega, by omega⟩) (m_Dr_takes_Dr hq hk0 hw) rfl rfl hs hc kk
  · obtain ⟨q0, he, -⟩ := wC_th (cy := cy) (ad := ad) (I := I) (A := A) (T := T) (F := F) hq hk0
    exact i_callUp (rest := rest) (ci := 2) (qc := (R_Ho, T_Ho, 7)) C k hk hn hl h rfl he (kU_Ne_68_Ho ⟨by omega, by omega⟩) (m_Ho_takes hw) rfl rfl hs hc kk
  · obtain ⟨q0, he, -⟩ := wC_th (cy := cy) (ad := ad) (I := I) (A := A) (T := T) (F := F) hq hk0
    exact i_callUp (rest := rest) (ci := 3) (qc := (R_Le, T_Le, 3)) C k hk hn hl h rfl he (kU_Ne_68_Le ⟨by omega, by omega⟩) (m_Le_takes_Le hq hk0 hw) rfl rfl hs hc kk
  · obtain ⟨q0, he, -⟩ := wC_th (cy := cy) (ad := ad) (I := I) (A := A) (T := T) (F := F) hq hk0
    exact i_callUp (rest := rest) (ci := 4) (qc := (R_Li, T_Li, 4)) C k hk hn hl h rfl he (kU_Ne_68_Li ⟨by omega, by omega⟩) (m_Dr_takes_Li hq hk0 hw) rfl rfl hs hc kk
  · obtain ⟨q0, he, -⟩ := wC_th (cy := cy) (ad := ad) (I := I) (A := A) (T := T) (F := F) hq hk0
    exact i_callUp (rest := rest) (ci := 9) (qc := (R_To, T_To, 3)) C k hk hn hl h rfl he (kU_Ne_68_To ⟨by omega, by omega⟩) (m_To_takes_To hq hk0 hw) rfl rfl hs hc kk
end G62
set_option maxHeartbeats 4000000 in
set_option maxRecDepth 100000 in
theorem m_Ne_taken {l : Launch} {D : va_G} {cy : Nat → ClassId} {ad : Nat → Nat} {I : Nat → Int32} {A : Nat → Nat → Int32} {T : Nat → Option Nat} {L : List Nat} {K : Nat → Nat} {F : Nat → Nat → Int32} {a1 : Int32} {a2 : Int32} {P : Int32 → Prop} (hw : g_Ne_taken A T L K F a1 a2 P) : ∀ sz, Met l y_Ne_taken (WL y_Ne_taken c_Ne_taken 4 (some .int)) { frames := 2, cells := 0, slots := 0, locals := 45 } (va_Pc [.ref (ad 1), .int a1, .int a2] (PreW D cy (wC cy ad I A T L K F) sz)) (vp_Si P) 0 0 (fun _ => False) := by
  refine met_p R_Ne .int db_Ne_taken (by decide) rfl rfl (Nat.le_of_ble_eq_true rfl) ?_
  intro p e s m below meth c Z Q ls C h hl hret
  have hl : lv_has ls 4 [(0, .ref (ad 1)), (1, .int a1), (2, .int a2)] := hl
  refine i_aload_n (n := 1) C 0 rfl rfl rfl hl 0 rfl ?_
  refine fgC_Ne_30 (n := 4) C 1 rfl rfl h ?_
  refine i_iload_n (n := 5) C 2 rfl rfl rfl hl 1 rfl ?_
  obtain ⟨hb, hw⟩ := hw
  refine i_aldq (n := 6) C 3 rfl rfl h (wC_get (h := 5) (by decide)) hb (fun c2 => ?_) (fun q1 c2 => ?_)
  · replace hw := hw.1 c2
    refine i_astore_nN (lv' := [(3, .null), (0, .ref (ad 1)), (1, .int a1), (2, .int a2)]) (n := 7) C 4 rfl rfl rfl hl (by decide) rfl (fun ls hl => ?_)
    refine i_aload_nN (n := 8) C 5 rfl rfl rfl hl 0 rfl ?_
    refine i_ifnonnullN (n := 11) C 6 rfl rfl ?_
    refine i_iconst (v := (0 : Int32)) (n := 12) C 7 rfl rfl rfl ?_
    refine i_goto (tgt := 25) C 8 rfl rfl ?_
    exact hret _ _ _ rfl hw (C.dg (k := 15) rfl)
  · replace hw := hw.2 q1 c2
    refine i_astore_n (lv' := [(3, .ref q1), (0, .ref (ad 1)), (1, .int a1), (2, .int a2)]) (n := 7) C 4 rfl rfl rfl hl (by decide) rfl (fun ls hl => ?_)
    refine i_aload_n (n := 8) C 5 rfl rfl rfl hl 0 rfl ?_
    refine i_ifnonnull (tgt := 15) C 6 rfl rfl ?_
    refine i_aload_n (n := 16) C 9 rfl rfl rfl hl 0 rfl ?_
    refine i_iload_n (n := 17) C 10 rfl rfl rfl hl 3 rfl ?_
    refine i_aload_n (n := 18) C 11 rfl rfl rfl hl 1 rfl ?_
    refine i_iload_n (n := 19) C 12 rfl rfl rfl hl 2 rfl ?_
    refine i_callVp (rest := [.int a2, .ref q1]) (ci := 5) (qc := (R_Ne, T_Ne, 17)) (n := 22) C 13 rfl rfl hl h rfl (wC_get (h := 1) (by decide)) (kV_Ne_64 ⟨by decide, by decide⟩) (m_Ne_pressAt hw) rfl rfl (Nat.le_of_ble_eq_true rfl) ⟨by decide, by decide⟩ (fun r3 hw => ?_)
    refine gdc_Ne_68 (rest := []) (n := 25) C 14 rfl rfl hl h hw (by decide) (by decide) (Nat.le_of_ble_eq_true rfl) ⟨by decide, by decide⟩ (fun r4 hw => ?_)
    exact hret _ _ _ rfl hw (C.dg (k := 15) rfl)
end S62
section S63
variable {p : Program} {l : Launch} {e : Env} {R : Room} {s : State} {m : MethodId} {args : Array Value} {below : List Frame} {meth : Method} {c : Code} {H : Heap} {locs : List Loc} {cells slots : Nat} {Q : State → Prop}
variable {cc : ByteArray} {pc n nL : Nat} {ls : Array Slot} {rest : List Value} {D : va_G} {cy : Nat → ClassId} {Z : Nat → Prop} {ad : Nat → Nat} {tb : List (Nat × Instr × Nat)} {lv : List (Nat × Value)}
set_option maxHeartbeats 4000000 in
set_option maxRecDepth 100000 in
theorem m_Th_isSource {l : Launch} {D : va_G} {cy : Nat → ClassId}   {a1 : Int32} {b : Nat} {w : va_W} {P : Int32 → Prop} (hw : g_Th_isSource a1 P) : ∀ sz, Met l y_Th_isSource (WL y_Th_isSource c_Th_isSource 2 (some .boolean)) { frames := 0, cells := 0, slots := 0, locals := 0 } (va_Pc [.ref b, .int a1] (PreW D cy (w) sz)) (vp_Si P) 0 0 (fun _ => False) := by
  refine met_p R_Th .boolean db_Th_isSource (by decide) rfl rfl (Nat.le_of_ble_eq_true rfl) ?_
  intro p e s m below meth c Z Q ls C h hl hret
  have hl : lv_has ls 2 [(0, .ref b), (1, .int a1)] := hl
  refine i_iconst (v := (0 : Int32)) (n := 1) C 0 rfl rfl rfl ?_
  exact hret _ _ _ rfl hw (C.dg (k := 1) rfl)
end S63
section S64
variable {p : Program} {l : Launch} {e : Env} {R : Room} {s : State} {m : MethodId} {args : Array Value} {below : List Frame} {meth : Method} {c : Code} {H : Heap} {locs : List Loc} {cells slots : Nat} {Q : State → Prop}
variable {cc : ByteArray} {pc n nL : Nat} {ls : Array Slot} {rest : List Value} {D : va_G} {cy : Nat → ClassId} {Z : Nat → Prop} {ad : Nat → Nat} {tb : List (Nat × Instr × Nat)} {lv : List (Nat × Value)}
set_option maxHeartbeats 4000000 in
set_option maxRecDepth 100000 in
theorem m_Ho_isSource_Ho {l : Launch} {D : va_G} {cy : Nat → ClassId} {ad : Nat → Nat} {I : Nat → Int32} {A : Nat → Nat → Int32} {T : Nat → Option Nat} {L : List Nat} {K : Nat → Nat} {F : Nat → Nat → Int32} {b : Nat} {a1 : Int32} {P : Int32 → Prop} (hbq : b ∈ L) (hbk : K b = 2) (hw : g_Ho_isSource_Ho F b a1 P) : ∀ sz, Met l y_Ho_isSource (WL y_Ho_isSource c_Ho_isSource 2 (some .boolean)) { frames := 0, cells := 0, slots := 0, locals := 0 } (va_Pc [.ref b, .int a1] (PreW D cy (wC cy ad I A T L K F) sz)) (vp_Si P) 0 0 (fun _ => False) := by
  refine met_p R_Ho .boolean db_Ho_isSource (by decide) rfl rfl (Nat.le_of_ble_eq_true rfl) ?_
  intro p e s m below meth c Z Q ls C h hl hret
  have hl : lv_has ls 2 [(0, .ref b), (1, .int a1)] := hl
  refine i_aload_n (n := 1) C 0 rfl rfl rfl hl 0 rfl ?_
  refine tg_Ho_18_Ho (n := 4) C 1 rfl rfl h hbq hbk ?_
  refine i_if_eq (tgt := 26) (n := 7) C 2 rfl rfl rfl (fun c1 => ?_) (fun c1 => ?_)
  · replace hw := hw.1 c1
    refine i_iconst (v := (0 : Int32)) (n := 27) C 14 rfl rfl rfl ?_
    exact hret _ _ _ rfl hw (C.dg (k := 15) rfl)
  · replace hw := hw.2 c1
    refine i_iload_n (n := 8) C 3 rfl rfl rfl hl 1 rfl ?_
    refine i_aload_n (n := 9) C 4 rfl rfl rfl hl 0 rfl ?_
    refine tg_Ho_22_Ho (n := 12) C 5 rfl rfl h hbq hbk ?_
    refine i_isub (n := 13) C 6 rfl rfl ?_
    refine i_aload_n (n := 14) C 7 rfl rfl rfl hl 0 rfl ?_
    refine tg_Ho_9_Ho (n := 17) C 8 rfl rfl h hbq hbk ?_
    refine i_iconst (v := (4 : Int32)) (n := 18) C 9 rfl rfl rfl ?_
    refine i_imul (n := 19) C 10 rfl rfl ?_
    refine i_icmp_lt (tgt := 26) (n := 22) C 11 rfl rfl rfl (fun c2 => ?_) (fun c2 => ?_)
    · replace hw := hw.1 c2
      refine i_iconst (v := (0 : Int32)) (n := 27) C 14 rfl rfl rfl ?_
      exact hret _ _ _ rfl hw (C.dg (k := 15) rfl)
    · replace hw := hw.2 c2
      refine i_iconst (v := (1 : Int32)) (n := 23) C 12 rfl rfl rfl ?_
      refine i_goto (tgt := 27) C 13 rfl rfl ?_
      exact hret _ _ _ rfl hw (C.dg (k := 15) rfl)
end S64
section S65
variable {p : Program} {l : Launch} {e : Env} {R : Room} {s : State} {m : MethodId} {args : Array Value} {below : List Frame} {meth : Method} {c : Code} {H : Heap} {locs : List Loc} {cells slots : Nat} {Q : State → Prop}
variable {cc : ByteArray} {pc n nL : Nat} {ls : Array Slot} {rest : List Value} {D : va_G} {cy : Nat → ClassId} {Z : Nat → Prop} {ad : Nat → Nat} {tb : List (Nat × Instr × Nat)} {lv : List (Nat × Value)}
set_option maxHeartbeats 4000000 in
set_option maxRecDepth 100000 in
theorem m_To_isSource_To {l : Launch} {D : va_G} {cy : Nat → ClassId} {ad : Nat → Nat} {I : Nat → Int32} {A : Nat → Nat → Int32} {T : Nat → Option Nat} {L : List Nat} {K : Nat → Nat} {F : Nat → Nat → Int32} {b : Nat} {a1 : Int32} {P : Int32 → Prop} (hbq : b ∈ L) (hbk : K b = 9) (hw : g_To_isSource_To F b a1 P) : ∀ sz, Met l y_To_isSource (WL y_To_isSource c_To_isSource 2 (some .boolean)) { frames := 0, cells := 0, slots := 0, locals := 0 } (va_Pc [.ref b, .int a1] (PreW D cy (wC cy ad I A T L K F) sz)) (vp_Si P) 0 0 (fun _ => False) := by
  refine met_p R_To .boolean db_To_isSource (by decide) rfl rfl (Nat.le_of_ble_eq_true rfl) ?_
  intro p e s m below meth c Z Q ls C h hl hret
  have hl : lv_has ls 2 [(0, .ref b), (1, .int a1)] := hl
  refine i_aload_n (n := 1) C 0 rfl rfl rfl hl 0 rfl ?_
  refine tg_To_16_To (n := 4) C 1 rfl rfl h hbq hbk ?_
  refine i_if_le (tgt := 11) (n := 7) C 2 rfl rfl rfl (fun c1 => ?_) (fun c1 => ?_)
  · replace hw := hw.1 c1
    refine i_iconst (v := (0 : Int32)) (n := 12) C 5 rfl rfl rfl ?_
    exact hret _ _ _ rfl hw (C.dg (k := 6) rfl)
  · replace hw := hw.2 c1
    refine i_iconst (v := (1 : Int32)) (n := 8) C 3 rfl rfl rfl ?_
    refine i_goto (tgt := 12) C 4 rfl rfl ?_
    exact hret _ _ _ rfl hw (C.dg (k := 6) rfl)
end S65
theorem kU_Ne_72_Br {R : Room} {s : State} {args : Array Value} (hR : 0 + 1 ≤ R.frames ∧ 8 + (2 + 11) + 0 ≤ R.locals) (ht : ∀ w ∈ GW, w.before args s = true) (hN : NX s) : va_CU R s args R_Ne R_Br "PipeWorks$Thing" 72 ⟨"PipeWorks$Thing", "isSource", "(I)Z"⟩ y_Th_isSource c_Th_isSource 2 (some .boolean) (WL y_Th_isSource c_Th_isSource 2 (some .boolean)) { frames := 0, cells := 0, slots := 0, locals := 0 } 0 0 1 := va_cwU (x := ⟨"PipeWorks$Thing", "isSource", "(I)Z"⟩) 1 ht (GW_u (x := ⟨"PipeWorks$Thing", "isSource", "(I)Z"⟩) w_3_92 w_3_94 w_3_95 w_3_93 w_1_8 (GW_wl w_3_105)) rfl rfl rfl rfl (by decide +kernel) hR
theorem kU_Ne_72_Dr {R : Room} {s : State} {args : Array Value} (hR : 0 + 1 ≤ R.frames ∧ 8 + (2 + 11) + 0 ≤ R.locals) (ht : ∀ w ∈ GW, w.before args s = true) (hN : NX s) : va_CU R s args R_Ne R_Dr "PipeWorks$Thing" 72 ⟨"PipeWorks$Thing", "isSource", "(I)Z"⟩ y_Th_isSource c_Th_isSource 2 (some .boolean) (WL y_Th_isSource c_Th_isSource 2 (some .boolean)) { frames := 0, cells := 0, slots := 0, locals := 0 } 0 0 1 := va_cwU (x := ⟨"PipeWorks$Thing", "isSource", "(I)Z"⟩) 1 ht (GW_u (x := ⟨"PipeWorks$Thing", "isSource", "(I)Z"⟩) w_3_92 w_3_94 w_3_96 w_3_93 w_1_8 (GW_wl w_3_105)) rfl rfl rfl rfl (by decide +kernel) hR
theorem kU_Ne_72_Ho {R : Room} {s : State} {args : Array Value} (hR : 0 + 1 ≤ R.frames ∧ 8 + (2 + 11) + 0 ≤ R.locals) (ht : ∀ w ∈ GW, w.before args s = true) (hN : NX s) : va_CU R s args R_Ne R_Ho "PipeWorks$Thing" 72 ⟨"PipeWorks$Thing", "isSource", "(I)Z"⟩ y_Ho_isSource c_Ho_isSource 2 (some .boolean) (WL y_Ho_isSource c_Ho_isSource 2 (some .boolean)) { frames := 0, cells := 0, slots := 0, locals := 0 } 0 0 1 := va_cwO (x := ⟨"PipeWorks$Thing", "isSource", "(I)Z"⟩) 1 ht (GW_o (x := ⟨"PipeWorks$Thing", "isSource", "(I)Z"⟩) w_3_92 w_3_94 w_3_93 w_3_97 w_3_98 w_1_13 (GW_wl w_3_99)) rfl rfl rfl w_3_105 (by decide +kernel) hR
theorem kU_Ne_72_Le {R : Room} {s : State} {args : Array Value} (hR : 0 + 1 ≤ R.frames ∧ 8 + (2 + 11) + 0 ≤ R.locals) (ht : ∀ w ∈ GW, w.before args s = true) (hN : NX s) : va_CU R s args R_Ne R_Le "PipeWorks$Thing" 72 ⟨"PipeWorks$Thing", "isSource", "(I)Z"⟩ y_Th_isSource c_Th_isSource 2 (some .boolean) (WL y_Th_isSource c_Th_isSource 2 (some .boolean)) { frames := 0, cells := 0, slots := 0, locals := 0 } 0 0 1 := va_cwU (x := ⟨"PipeWorks$Thing", "isSource", "(I)Z"⟩) 1 ht (GW_u (x := ⟨"PipeWorks$Thing", "isSource", "(I)Z"⟩) w_3_92 w_3_94 w_3_100 w_3_93 w_1_8 (GW_wl w_3_105)) rfl rfl rfl rfl (by decide +kernel) hR
theorem kU_Ne_72_Li {R : Room} {s : State} {args : Array Value} (hR : 0 + 1 ≤ R.frames ∧ 8 + (2 + 11) + 0 ≤ R.locals) (ht : ∀ w ∈ GW, w.before args s = true) (hN : NX s) : va_CU R s args R_Ne R_Li "PipeWorks$Thing" 72 ⟨"PipeWorks$Thing", "isSource", "(I)Z"⟩ y_Th_isSource c_Th_isSource 2 (some .boolean) (WL y_Th_isSource c_Th_isSource 2 (some .boolean)) { frames := 0, cells := 0, slots := 0, locals := 0 } 0 0 1 := va_cwU (x := ⟨"PipeWorks$Thing", "isSource", "(I)Z"⟩) 1 ht (GW_u (x := ⟨"PipeWorks$Thing", "isSource", "(I)Z"⟩) w_3_92 w_3_94 w_3_101 w_3_93 w_1_8 (GW_wl w_3_105)) rfl rfl rfl rfl (by decide +kernel) hR
theorem kU_Ne_72_To {R : Room} {s : State} {args : Array Value} (hR : 0 + 1 ≤ R.frames ∧ 8 + (2 + 11) + 0 ≤ R.locals) (ht : ∀ w ∈ GW, w.before args s = true) (hN : NX s) : va_CU R s args R_Ne R_To "PipeWorks$Thing" 72 ⟨"PipeWorks$Thing", "isSource", "(I)Z"⟩ y_To_isSource c_To_isSource 2 (some .boolean) (WL y_To_isSource c_To_isSource 2 (some .boolean)) { frames := 0, cells := 0, slots := 0, locals := 0 } 0 0 1 := va_cwO (x := ⟨"PipeWorks$Thing", "isSource", "(I)Z"⟩) 1 ht (GW_o (x := ⟨"PipeWorks$Thing", "isSource", "(I)Z"⟩) w_3_92 w_3_94 w_3_93 w_3_102 w_3_103 w_1_12 (GW_wl w_3_104)) rfl rfl rfl w_3_105 (by decide +kernel) hR
section S66
variable {p : Program} {l : Launch} {e : Env} {R : Room} {s : State} {m : MethodId} {args : Array Value} {below : List Frame} {meth : Method} {c : Code} {H : Heap} {locs : List Loc} {cells slots : Nat} {Q : State → Prop}
variable {cc : ByteArray} {pc n nL : Nat} {ls : Array Slot} {rest : List Value} {D : va_G} {cy : Nat → ClassId} {Z : Nat → Prop} {ad : Nat → Nat} {tb : List (Nat × Instr × Nat)} {lv : List (Nat × Value)}
section G66
variable {I : Nat → Int32} {A : Nat → Nat → Int32} {T : Nat → Option Nat} {L : List Nat} {K : Nat → Nat} {F : Nat → Nat → Int32}
set_option maxHeartbeats 4000000 in
set_option maxRecDepth 100000 in
theorem gdc_Ne_72 {q : Nat} {a1 : Int32} {P : Int32 → Prop} (C : CX D cy R_Ne cc tb nL p s m args c Z) (k : Nat) (hk : tb[k]? = some (pc, .invokevirtual 72, 3)) (hn : pc + 3 = n) (hl : lv_has ls nL lv) (h : HXw D Z s.heap H locs (wC cy ad I A T L K F)) (hw : gd_isSource L K F q a1 P) (hfr : 1 ≤ R.frames) (hlo : 21 ≤ R.locals) (hs : (rest.map fun v => v.category).sum ≤ 8) (hc : cells ≤ R.cells ∧ slots ≤ R.slots) (kk : ∀ r : Int32, P r → W p l e R s m args below meth c H locs cells slots Q (F0 m n ls (.int r :: rest))) : W p l e R s m args below meth c H locs cells slots Q (F0 m pc ls (.int a1 :: .ref q :: rest)) := by
  obtain ⟨hq, hw⟩ := hw
  rcases hw with ⟨hk0, hw⟩ | ⟨hk0, hw⟩ | ⟨hk0, hw⟩ | ⟨hk0, hw⟩ | ⟨hk0, hw⟩ | ⟨hk0, hw⟩
  · obtain ⟨q0, he, -⟩ := wC_th (cy := cy) (ad := ad) (I := I) (A := A) (T := T) (F := F) hq hk0
    exact i_callUp (rest := rest) (ci := 0) (qc := (R_Br, T_Br, 6)) C k hk hn hl h rfl he (kU_Ne_72_Br ⟨by omega, by omega⟩) (m_Th_isSource hw) rfl rfl hs hc kk
  · obtain ⟨q0, he, -⟩ := wC_th (cy := cy) (ad := ad) (I := I) (A := A) (T := T) (F := F) hq hk0
    exact i_callUp (rest := rest) (ci := 1) (qc := (R_Dr, T_Dr, 3)) C k hk hn hl h rfl he (kU_Ne_72_Dr ⟨by omega, by omega⟩) (m_Th_isSource hw) rfl rfl hs hc kk
  · obtain ⟨q0, he, -⟩ := wC_th (cy := cy) (ad := ad) (I := I) (A := A) (T := T) (F := F) hq hk0
    exact i_callUp (rest := rest) (ci := 2) (qc := (R_Ho, T_Ho, 7)) C k hk hn hl h rfl he (kU_Ne_72_Ho ⟨by omega, by omega⟩) (m_Ho_isSource_Ho hq hk0 hw) rfl rfl hs hc kk
  · obtain ⟨q0, he, -⟩ := wC_th (cy := cy) (ad := ad) (I := I) (A := A) (T := T) (F := F) hq hk0
    exact i_callUp (rest := rest) (ci := 3) (qc := (R_Le, T_Le, 3)) C k hk hn hl h rfl he (kU_Ne_72_Le ⟨by omega, by omega⟩) (m_Th_isSource hw) rfl rfl hs hc kk
  · obtain ⟨q0, he, -⟩ := wC_th (cy := cy) (ad := ad) (I := I) (A := A) (T := T) (F := F) hq hk0
    exact i_callUp (rest := rest) (ci := 4) (qc := (R_Li, T_Li, 4)) C k hk hn hl h rfl he (kU_Ne_72_Li ⟨by omega, by omega⟩) (m_Th_isSource hw) rfl rfl hs hc kk
  · obtain ⟨q0, he, -⟩ := wC_th (cy := cy) (ad := ad) (I := I) (A := A) (T := T) (F := F) hq hk0
    exact i_callUp (rest := rest) (ci := 9) (qc := (R_To, T_To, 3)) C k hk hn hl h rfl he (kU_Ne_72_To ⟨by omega, by omega⟩) (m_To_isSource_To hq hk0 hw) rfl rfl hs hc kk
end G66
set_option maxHeartbeats 4000000 in
set_option maxRecDepth 100000 in
theorem m_Ne_isSource {l : Launch} {D : va_G} {cy : Nat → ClassId} {ad : Nat → Nat} {I : Nat → Int32} {A : Nat → Nat → Int32} {T : Nat → Option Nat} {L : List Nat} {K : Nat → Nat} {F : Nat → Nat → Int32} {a1 : Int32} {a2 : Int32} {P : Int32 → Prop} (hw : g_Ne_isSource T L K F a1 a2 P) : ∀ sz, Met l y_Ne_isSource (WL y_Ne_isSource c_Ne_isSource 4 (some .boolean)) { frames := 1, cells := 0, slots := 0, locals := 21 } (va_Pc [.ref (ad 1), .int a1, .int a2] (PreW D cy (wC cy ad I A T L K F) sz)) (vp_Si P) 0 0 (fun _ => False) := by
  refine met_p R_Ne .boolean db_Ne_isSource (by decide) rfl rfl (Nat.le_of_ble_eq_true rfl) ?_
  intro p e s m below meth c Z Q ls C h hl hret
  have hl : lv_has ls 4 [(0, .ref (ad 1)), (1, .int a1), (2, .int a2)] := hl
  refine i_aload_n (n := 1) C 0 rfl rfl rfl hl 0 rfl ?_
  refine fgC_Ne_30 (n := 4) C 1 rfl rfl h ?_
  refine i_iload_n (n := 5) C 2 rfl rfl rfl hl 1 rfl ?_
  obtain ⟨hb, hw⟩ := hw
  refine i_aldq (n := 6) C 3 rfl rfl h (wC_get (h := 5) (by decide)) hb (fun c2 => ?_) (fun q1 c2 => ?_)
  · replace hw := hw.1 c2
    refine i_astore_nN (lv' := [(3, .null), (0, .ref (ad 1)), (1, .int a1), (2, .int a2)]) (n := 7) C 4 rfl rfl rfl hl (by decide) rfl (fun ls hl => ?_)
    refine i_aload_nN (n := 8) C 5 rfl rfl rfl hl 0 rfl ?_
    refine i_ifnullN (tgt := 23) C 6 rfl rfl ?_
    refine i_iconst (v := (0 : Int32)) (n := 24) C 13 rfl rfl rfl ?_
    exact hret _ _ _ rfl hw (C.dg (k := 14) rfl)
  · replace hw := hw.2 q1 c2
    refine i_astore_n (lv' := [(3, .ref q1), (0, .ref (ad 1)), (1, .int a1), (2, .int a2)]) (n := 7) C 4 rfl rfl rfl hl (by decide) rfl (fun ls hl => ?_)
    refine i_aload_n (n := 8) C 5 rfl rfl rfl hl 0 rfl ?_
    refine i_ifnull (n := 11) C 6 rfl rfl ?_
    refine i_aload_n (n := 12) C 7 rfl rfl rfl hl 0 rfl ?_
    refine i_iload_n (n := 13) C 8 rfl rfl rfl hl 3 rfl ?_
    refine gdc_Ne_72 (rest := []) (n := 16) C 9 rfl rfl hl h hw (by decide) (by decide) (Nat.le_of_ble_eq_true rfl) ⟨by decide, by decide⟩ (fun r3 hw => ?_)
    refine i_if_eq (tgt := 23) (n := 19) C 10 rfl rfl rfl (fun c4 => ?_) (fun c4 => ?_)
    · replace hw := hw.1 c4
      refine i_iconst (v := (0 : Int32)) (n := 24) C 13 rfl rfl rfl ?_
      exact hret _ _ _ rfl hw (C.dg (k := 14) rfl)
    · replace hw := hw.2 c4
      refine i_iconst (v := (1 : Int32)) (n := 20) C 11 rfl rfl rfl ?_
      refine i_goto (tgt := 24) C 12 rfl rfl ?_
      exact hret _ _ _ rfl hw (C.dg (k := 14) rfl)
end S66
