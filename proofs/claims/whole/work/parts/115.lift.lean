theorem kV_Pw_347 {R : Room} {s : State} {args : Array Value} (hR : 3 + 1 ≤ R.frames ∧ 8 + (4 + 11) + 65 ≤ R.locals) (ht : ∀ w ∈ GW, w.before args s = true) : CallW R s args R_Pw R_Pl 347 y_Pl_firstFailure c_Pl_firstFailure 4 (some .int) (WL y_Pl_firstFailure c_Pl_firstFailure 4 (some .int)) { frames := 3, cells := 0, slots := 0, locals := 65 } 0 0 1 := cwV 1 ht (GW_v w_5_83 w_5_84 w_5_85 w_1_5 (GW_wl w_5_86)) rfl rfl rfl (by decide +kernel) hR
section S170
variable {p : Program} {l : Launch} {e : Env} {R : Room} {s : State} {m : MethodId} {args : Array Value} {below : List Frame} {meth : Method} {c : Code} {H : Heap} {locs : List Loc} {cells slots : Nat} {Q : State → Prop}
variable {cc : ByteArray} {pc n nL : Nat} {ls : Array Slot} {rest : List Value} {D : va_G} {cy : Nat → ClassId} {Z : Nat → Prop} {ad : Nat → Nat} {tb : List (Nat × Instr × Nat)} {lv : List (Nat × Value)}
def g_Pw_fails (I : Nat → Int32) (A : Nat → Nat → Int32) (a1 : Int32) (P : Int32 → ((Nat → Int32) × (Nat → Nat → Int32)) → Prop) : Prop := g_Pw_isWithin a1 (0 : Int32) (200 : Int32) (fun r1 => ((r1 = 0 → (P (-2 : Int32) (I, A))) ∧ (¬ r1 = 0 → (g_Pl_firstFailure I A a1 (fun r3 u4 => (P r3 (u4.1, u4.2)))))))
set_option maxHeartbeats 4000000 in
set_option maxRecDepth 100000 in
theorem m_Pw_fails {l : Launch} {D : va_G} {cy : Nat → ClassId} {ad : Nat → Nat} {I : Nat → Int32} {A : Nat → Nat → Int32} {T : Nat → Option Nat} {L : List Nat} {K : Nat → Nat} {F : Nat → Nat → Int32} {a1 : Int32} {P : Int32 → ((Nat → Int32) × (Nat → Nat → Int32)) → Prop} (hw : g_Pw_fails I A a1 P) : ∀ sz, Met l y_Pw_fails (WL y_Pw_fails c_Pw_fails 2 (some .int)) { frames := 4, cells := 0, slots := 0, locals := 88 } (va_Pc [.ref (ad 0), .int a1] (PreW D cy (wC cy ad I A T L K F) sz)) (va_Qi P (fun u t => PostW D (va_A (wC cy ad I A T L K F) sz) ((fun (u : (Nat → Int32) × (Nat → Nat → Int32)) => wC cy ad u.1 u.2 T L K F) u) t) (va_A (wC cy ad I A T L K F) sz)) 0 0 (va_A (wC cy ad I A T L K F) sz) := by
  refine met_i (wf := fun (u : (Nat → Int32) × (Nat → Nat → Int32)) => wC cy ad u.1 u.2 T L K F) R_Pw .int db_Pw_fails (by decide) rfl rfl (Nat.le_of_ble_eq_true rfl) ?_
  intro p e s m below meth c Z Q ls C h hl hret
  have hl : lv_has ls 2 [(0, .ref (ad 0)), (1, .int a1)] := hl
  refine i_iload_n (n := 1) C 0 rfl rfl rfl hl 1 rfl ?_
  refine i_iconst (v := (0 : Int32)) (n := 2) C 1 rfl rfl rfl ?_
  refine i_sipush (v := (200 : Int32)) (n := 5) C 2 rfl rfl rfl ?_
  refine i_callSp (rest := []) (n := 8) C 3 rfl rfl hl h (kS_Pw_69 ⟨by decide, by decide⟩) (m_Pw_isWithin hw) rfl rfl (Nat.le_of_ble_eq_true rfl) ⟨by decide, by decide⟩ (fun r1 hw => ?_)
  refine i_if_eq (tgt := 22) (n := 11) C 4 rfl rfl rfl (fun c2 => ?_) (fun c2 => ?_)
  · replace hw := hw.1 c2
    refine i_bipush (v := (-2 : Int32)) (n := 24) C 10 rfl rfl rfl ?_
    exact hret _ (I, A) _ _ _ _ rfl hw h (C.dg (k := 11) rfl)
  · replace hw := hw.2 c2
    refine i_aload_n (n := 12) C 5 rfl rfl rfl hl 0 rfl ?_
    refine fgC_Pw_31 (n := 15) C 6 rfl rfl h ?_
    refine i_iload_n (n := 16) C 7 rfl rfl rfl hl 1 rfl ?_
    refine i_callVi (rest := []) (ci := 8) (qc := (R_Pl, T_Pl, 8)) (n := 19) C 8 rfl rfl hl h rfl (wC_get (h := 4) (by decide)) (kV_Pw_347 ⟨by decide, by decide⟩) (m_Pl_firstFailure hw) rfl rfl (Nat.le_of_ble_eq_true rfl) ⟨by decide, by decide⟩ (fun r3 u4 H locs hw h => ?_)
    refine i_goto (tgt := 24) C 9 rfl rfl ?_
    exact hret _ (u4.1, u4.2) _ _ _ _ rfl hw h (C.dg (k := 11) rfl)
end S170
section S171
variable {p : Program} {l : Launch} {e : Env} {R : Room} {s : State} {m : MethodId} {args : Array Value} {below : List Frame} {meth : Method} {c : Code} {H : Heap} {locs : List Loc} {cells slots : Nat} {Q : State → Prop}
variable {cc : ByteArray} {pc n nL : Nat} {ls : Array Slot} {rest : List Value} {D : va_G} {cy : Nat → ClassId} {Z : Nat → Prop} {ad : Nat → Nat} {tb : List (Nat × Instr × Nat)} {lv : List (Nat × Value)}
def g_Pw_term (A : Nat → Nat → Int32) (a1 : Int32) (a2 : Int32) (P : Int32 → ((Nat → Nat → Int32)) → Prop) : Prop := g_Pw_isWithin a1 (0 : Int32) (3 : Int32) (fun r1 => ((¬ r1 = 0 → (g_Pw_isWithin a2 (0 : Int32) (100 : Int32) (fun r3 => ((¬ r3 = 0 → (vp_in a1 4 ∧ (∀ y5 : Int32, y5 = (A 2 a1.toNatClampNeg) → (vp_in a1 4 ∧ (P y5 (sA A 2 a1 a2)))))) ∧ (r3 = 0 → (P (-2 : Int32) A)))))) ∧ (r1 = 0 → (P (-1 : Int32) A))))
set_option maxHeartbeats 4000000 in
set_option maxRecDepth 100000 in
theorem m_Pw_term {l : Launch} {D : va_G} {cy : Nat → ClassId} {ad : Nat → Nat} {I : Nat → Int32} {A : Nat → Nat → Int32} {T : Nat → Option Nat} {L : List Nat} {K : Nat → Nat} {F : Nat → Nat → Int32} {a1 : Int32} {a2 : Int32} {P : Int32 → ((Nat → Nat → Int32)) → Prop} (hw : g_Pw_term A a1 a2 P) : ∀ sz, Met l y_Pw_term (WL y_Pw_term c_Pw_term 4 (some .int)) { frames := 1, cells := 0, slots := 0, locals := 22 } (va_Pc [.ref (ad 0), .int a1, .int a2] (PreW D cy (wC cy ad I A T L K F) sz)) (va_Qi P (fun u t => PostW D (va_A (wC cy ad I A T L K F) sz) ((fun (u : (Nat → Nat → Int32)) => wC cy ad I u T L K F) u) t) (va_A (wC cy ad I A T L K F) sz)) 0 0 (va_A (wC cy ad I A T L K F) sz) := by
  refine met_i (wf := fun (u : (Nat → Nat → Int32)) => wC cy ad I u T L K F) R_Pw .int db_Pw_term (by decide) rfl rfl (Nat.le_of_ble_eq_true rfl) ?_
  intro p e s m below meth c Z Q ls C h hl hret
  have hl : lv_has ls 4 [(0, .ref (ad 0)), (1, .int a1), (2, .int a2)] := hl
  refine i_iload_n (n := 1) C 0 rfl rfl rfl hl 1 rfl ?_
  refine i_iconst (v := (0 : Int32)) (n := 2) C 1 rfl rfl rfl ?_
  refine i_iconst (v := (3 : Int32)) (n := 3) C 2 rfl rfl rfl ?_
  refine i_callSp (rest := []) (n := 6) C 3 rfl rfl hl h (kS_Pw_69 ⟨by decide, by decide⟩) (m_Pw_isWithin hw) rfl rfl (Nat.le_of_ble_eq_true rfl) ⟨by decide, by decide⟩ (fun r1 hw => ?_)
  refine i_if_ne (tgt := 11) (n := 9) C 4 rfl rfl rfl (fun c2 => ?_) (fun c2 => ?_)
  · replace hw := hw.1 c2
    refine i_iload_n (n := 12) C 7 rfl rfl rfl hl 2 rfl ?_
    refine i_iconst (v := (0 : Int32)) (n := 13) C 8 rfl rfl rfl ?_
    refine i_bipush (v := (100 : Int32)) (n := 15) C 9 rfl rfl rfl ?_
    refine i_callSp (rest := []) (n := 18) C 10 rfl rfl hl h (kS_Pw_69 ⟨by decide, by decide⟩) (m_Pw_isWithin hw) rfl rfl (Nat.le_of_ble_eq_true rfl) ⟨by decide, by decide⟩ (fun r3 hw => ?_)
    refine i_if_ne (tgt := 24) (n := 21) C 11 rfl rfl rfl (fun c4 => ?_) (fun c4 => ?_)
    · replace hw := hw.1 c4
      refine i_aload_n (n := 25) C 14 rfl rfl rfl hl 0 rfl ?_
      refine fgC_Pw_43 (n := 28) C 15 rfl rfl h ?_
      refine i_iload_n (n := 29) C 16 rfl rfl rfl hl 1 rfl ?_
      obtain ⟨hb, hw⟩ := hw
      refine i_iald (n := 30) C 17 rfl rfl h (wC_arr 2 (by decide) rfl) hb ?_
      refine lv_topi (fun y5 ey5 => ?_)
      replace hw := hw y5 ey5
      refine i_istore_n (lv' := [(3, .int y5), (0, .ref (ad 0)), (1, .int a1), (2, .int a2)]) (n := 31) C 18 rfl rfl rfl hl (by decide) rfl (fun ls hl => ?_)
      refine i_aload_n (n := 32) C 19 rfl rfl rfl hl 1 rfl ?_
      refine fgC_Pw_43 (n := 35) C 20 rfl rfl h ?_
      refine i_iload_n (n := 36) C 21 rfl rfl rfl hl 2 rfl ?_
      refine i_iload_n (n := 37) C 22 rfl rfl rfl hl 3 rfl ?_
      obtain ⟨hb, hw⟩ := hw
      refine i_iast (n := 38) C 23 rfl rfl h (wC_arr 2 (by decide) rfl) hb (wC_sA 2 (by decide) rfl _ _) (fun H locs h => ?_)
      refine i_iload_n (n := 39) C 24 rfl rfl rfl hl 0 rfl ?_
      exact hret _ (sA A 2 a1 a2) _ _ _ _ rfl hw h (C.dg (k := 25) rfl)
    · replace hw := hw.2 c4
      refine i_bipush (v := (-2 : Int32)) (n := 23) C 12 rfl rfl rfl ?_
      exact hret _ A _ _ _ _ rfl hw h (C.dg (k := 13) rfl)
  · replace hw := hw.2 c2
    refine i_iconst (v := (-1 : Int32)) (n := 10) C 5 rfl rfl rfl ?_
    exact hret _ A _ _ _ _ rfl hw h (C.dg (k := 6) rfl)
end S171
section S172
variable {p : Program} {l : Launch} {e : Env} {R : Room} {s : State} {m : MethodId} {args : Array Value} {below : List Frame} {meth : Method} {c : Code} {H : Heap} {locs : List Loc} {cells slots : Nat} {Q : State → Prop}
variable {cc : ByteArray} {pc n nL : Nat} {ls : Array Slot} {rest : List Value} {D : va_G} {cy : Nat → ClassId} {Z : Nat → Prop} {ad : Nat → Nat} {tb : List (Nat × Instr × Nat)} {lv : List (Nat × Value)}
def g_Pw_meter (I : Nat → Int32) (A : Nat → Nat → Int32) (a1 : Int32) (a2 : Int32) (P : Int32 → ((Nat → Nat → Int32)) → Prop) : Prop := g_Ne_has I a1 (fun r1 => ((¬ r1 = 0 → (vp_in a1 12 ∧ (g_Pw_bit (A 1 a1.toNatClampNeg) (fun r3 => (vp_in a1 12 ∧ (P r3 (sA A 1 a1 (vp_nar .boolean a2)))))))) ∧ (r1 = 0 → (P (-1 : Int32) A))))
set_option maxHeartbeats 4000000 in
set_option maxRecDepth 100000 in
theorem m_Pw_meter {l : Launch} {D : va_G} {cy : Nat → ClassId} {ad : Nat → Nat} {I : Nat → Int32} {A : Nat → Nat → Int32} {T : Nat → Option Nat} {L : List Nat} {K : Nat → Nat} {F : Nat → Nat → Int32} {a1 : Int32} {a2 : Int32} {P : Int32 → ((Nat → Nat → Int32)) → Prop} (hw : g_Pw_meter I A a1 a2 P) : ∀ sz, Met l y_Pw_meter (WL y_Pw_meter c_Pw_meter 4 (some .int)) { frames := 1, cells := 0, slots := 0, locals := 21 } (va_Pc [.ref (ad 0), .int a1, .int a2] (PreW D cy (wC cy ad I A T L K F) sz)) (va_Qi P (fun u t => PostW D (va_A (wC cy ad I A T L K F) sz) ((fun (u : (Nat → Nat → Int32)) => wC cy ad I u T L K F) u) t) (va_A (wC cy ad I A T L K F) sz)) 0 0 (va_A (wC cy ad I A T L K F) sz) := by
  refine met_i (wf := fun (u : (Nat → Nat → Int32)) => wC cy ad I u T L K F) R_Pw .int db_Pw_meter (by decide) rfl rfl (Nat.le_of_ble_eq_true rfl) ?_
  intro p e s m below meth c Z Q ls C h hl hret
  have hl : lv_has ls 4 [(0, .ref (ad 0)), (1, .int a1), (2, .int a2)] := hl
  refine i_aload_n (n := 1) C 0 rfl rfl rfl hl 0 rfl ?_
  refine fgC_Pw_10 (n := 4) C 1 rfl rfl h ?_
  refine i_iload_n (n := 5) C 2 rfl rfl rfl hl 1 rfl ?_
  refine i_callVp (rest := []) (ci := 5) (qc := (R_Ne, T_Ne, 17)) (n := 8) C 3 rfl rfl hl h rfl (wC_get (h := 1) (by decide)) (kV_Pw_77 ⟨by decide, by decide⟩) (m_Ne_has hw) rfl rfl (Nat.le_of_ble_eq_true rfl) ⟨by decide, by decide⟩ (fun r1 hw => ?_)
  refine i_if_ne (tgt := 13) (n := 11) C 4 rfl rfl rfl (fun c2 => ?_) (fun c2 => ?_)
  · replace hw := hw.1 c2
    refine i_aload_n (n := 14) C 7 rfl rfl rfl hl 0 rfl ?_
    refine fgC_Pw_39 (n := 17) C 8 rfl rfl h ?_
    refine i_iload_n (n := 18) C 9 rfl rfl rfl hl 1 rfl ?_
    obtain ⟨hb, hw⟩ := hw
    refine i_zald (n := 19) C 10 rfl rfl h (wC_arr 1 (by decide) rfl) hb ?_
    refine i_callSp (rest := []) (n := 22) C 11 rfl rfl hl h (kS_Pw_103 ⟨by decide, by decide⟩) (m_Pw_bit hw) rfl rfl (Nat.le_of_ble_eq_true rfl) ⟨by decide, by decide⟩ (fun r3 hw => ?_)
    refine i_istore_n (lv' := [(3, .int r3), (0, .ref (ad 0)), (1, .int a1), (2, .int a2)]) (n := 23) C 12 rfl rfl rfl hl (by decide) rfl (fun ls hl => ?_)
    refine i_aload_n (n := 24) C 13 rfl rfl rfl hl 1 rfl ?_
    refine fgC_Pw_39 (n := 27) C 14 rfl rfl h ?_
    refine i_iload_n (n := 28) C 15 rfl rfl rfl hl 2 rfl ?_
    refine i_iload_n (n := 29) C 16 rfl rfl rfl hl 3 rfl ?_
    obtain ⟨hb, hw⟩ := hw
    refine i_zast (n := 30) C 17 rfl rfl h (wC_arr 1 (by decide) rfl) hb (wC_sA 1 (by decide) rfl _ _) (fun H locs h => ?_)
    refine i_iload_n (n := 31) C 18 rfl rfl rfl hl 0 rfl ?_
    exact hret _ (sA A 1 a1 (vp_nar .boolean a2)) _ _ _ _ rfl hw h (C.dg (k := 19) rfl)
  · replace hw := hw.2 c2
    refine i_iconst (v := (-1 : Int32)) (n := 12) C 5 rfl rfl rfl ?_
    exact hret _ A _ _ _ _ rfl hw h (C.dg (k := 6) rfl)
end S172
section S173
variable {p : Program} {l : Launch} {e : Env} {R : Room} {s : State} {m : MethodId} {args : Array Value} {below : List Frame} {meth : Method} {c : Code} {H : Heap} {locs : List Loc} {cells slots : Nat} {Q : State → Prop}
variable {cc : ByteArray} {pc n nL : Nat} {ls : Array Slot} {rest : List Value} {D : va_G} {cy : Nat → ClassId} {Z : Nat → Prop} {ad : Nat → Nat} {tb : List (Nat × Instr × Nat)} {lv : List (Nat × Value)}
def g_Pw_pay (I : Nat → Int32) (A : Nat → Nat → Int32) (a1 : Int32) (P : Int32 → Prop) : Prop := g_Ne_has I a1 (fun r1 => ((r1 = 0 → (P (-1 : Int32))) ∧ (¬ r1 = 0 → (vp_in a1 12 ∧ (vp_in a1 12 ∧ (vp_in (A 8 a1.toNatClampNeg) 4 ∧ (P (((A 0 a1.toNatClampNeg) / (100 : Int32)) * (A 2 (A 8 a1.toNatClampNeg).toNatClampNeg)))))))))
set_option maxHeartbeats 4000000 in
set_option maxRecDepth 100000 in
theorem m_Pw_pay {l : Launch} {D : va_G} {cy : Nat → ClassId} {ad : Nat → Nat} {I : Nat → Int32} {A : Nat → Nat → Int32} {T : Nat → Option Nat} {L : List Nat} {K : Nat → Nat} {F : Nat → Nat → Int32} {a1 : Int32} {P : Int32 → Prop} (hw : g_Pw_pay I A a1 P) : ∀ sz, Met l y_Pw_pay (WL y_Pw_pay c_Pw_pay 2 (some .int)) { frames := 1, cells := 0, slots := 0, locals := 21 } (va_Pc [.ref (ad 0), .int a1] (PreW D cy (wC cy ad I A T L K F) sz)) (vp_Si P) 0 0 (fun _ => False) := by
  refine met_p R_Pw .int db_Pw_pay (by decide) rfl rfl (Nat.le_of_ble_eq_true rfl) ?_
  intro p e s m below meth c Z Q ls C h hl hret
  have hl : lv_has ls 2 [(0, .ref (ad 0)), (1, .int a1)] := hl
  refine i_aload_n (n := 1) C 0 rfl rfl rfl hl 0 rfl ?_
  refine fgC_Pw_10 (n := 4) C 1 rfl rfl h ?_
  refine i_iload_n (n := 5) C 2 rfl rfl rfl hl 1 rfl ?_
  refine i_callVp (rest := []) (ci := 5) (qc := (R_Ne, T_Ne, 17)) (n := 8) C 3 rfl rfl hl h rfl (wC_get (h := 1) (by decide)) (kV_Pw_77 ⟨by decide, by decide⟩) (m_Ne_has hw) rfl rfl (Nat.le_of_ble_eq_true rfl) ⟨by decide, by decide⟩ (fun r1 hw => ?_)
  refine i_if_eq (tgt := 38) (n := 11) C 4 rfl rfl rfl (fun c2 => ?_) (fun c2 => ?_)
  · replace hw := hw.1 c2
    refine i_iconst (v := (-1 : Int32)) (n := 39) C 21 rfl rfl rfl ?_
    exact hret _ _ _ rfl hw (C.dg (k := 22) rfl)
  · replace hw := hw.2 c2
    refine i_aload_n (n := 12) C 5 rfl rfl rfl hl 0 rfl ?_
    refine fgC_Pw_35 (n := 15) C 6 rfl rfl h ?_
    refine i_iload_n (n := 16) C 7 rfl rfl rfl hl 1 rfl ?_
    obtain ⟨hb, hw⟩ := hw
    refine i_iald (n := 17) C 8 rfl rfl h (wC_arr 0 (by decide) rfl) hb ?_
    refine i_bipush (v := (100 : Int32)) (n := 19) C 9 rfl rfl rfl ?_
    refine i_idiv (n := 20) C 10 rfl rfl (by decide) ?_
    refine i_aload_n (n := 21) C 11 rfl rfl rfl hl 0 rfl ?_
    refine fgC_Pw_43 (n := 24) C 12 rfl rfl h ?_
    refine i_aload_n (n := 25) C 13 rfl rfl rfl hl 0 rfl ?_
    refine fgC_Pw_10 (n := 28) C 14 rfl rfl h ?_
    refine fgC_Pw_181 (n := 31) C 15 rfl rfl h ?_
    refine i_iload_n (n := 32) C 16 rfl rfl rfl hl 1 rfl ?_
    obtain ⟨hb, hw⟩ := hw
    refine i_iald (n := 33) C 17 rfl rfl h (wC_arr 8 (by decide) rfl) hb ?_
    obtain ⟨hb, hw⟩ := hw
    refine i_iald (n := 34) C 18 rfl rfl h (wC_arr 2 (by decide) rfl) hb ?_
    refine i_imul (n := 35) C 19 rfl rfl ?_
    refine i_goto (tgt := 39) C 20 rfl rfl ?_
    exact hret _ _ _ rfl hw (C.dg (k := 22) rfl)
end S173
section S174
variable {p : Program} {l : Launch} {e : Env} {R : Room} {s : State} {m : MethodId} {args : Array Value} {below : List Frame} {meth : Method} {c : Code} {H : Heap} {locs : List Loc} {cells slots : Nat} {Q : State → Prop}
variable {cc : ByteArray} {pc n nL : Nat} {ls : Array Slot} {rest : List Value} {D : va_G} {cy : Nat → ClassId} {Z : Nat → Prop} {ad : Nat → Nat} {tb : List (Nat × Instr × Nat)} {lv : List (Nat × Value)}
def g_Mo_in (a1 : Int32) (a2 : Int32) (a3 : Int32) (P : Int32 → Prop) : Prop := (a1 < a2 → (P (0 : Int32))) ∧ (¬ a1 < a2 → ((a3 < a1 → (P (0 : Int32))) ∧ (¬ a3 < a1 → (P (1 : Int32)))))
set_option maxHeartbeats 4000000 in
set_option maxRecDepth 100000 in
theorem m_Mo_in {l : Launch} {D : va_G} {cy : Nat → ClassId}   {a1 : Int32} {a2 : Int32} {a3 : Int32} {w : va_W} {P : Int32 → Prop} (hw : g_Mo_in a1 a2 a3 P) : ∀ sz, Met l y_Mo_in (WL y_Mo_in c_Mo_in 3 (some .boolean)) { frames := 0, cells := 0, slots := 0, locals := 0 } (va_Pc [.int a1, .int a2, .int a3] (PreW D cy (w) sz)) (vp_Si P) 0 0 (fun _ => False) := by
  refine met_p R_Mo .boolean db_Mo_in (by decide) rfl rfl (Nat.le_of_ble_eq_true rfl) ?_
  intro p e s m below meth c Z Q ls C h hl hret
  have hl : lv_has ls 3 [(0, .int a1), (1, .int a2), (2, .int a3)] := hl
  refine i_iload_n (n := 1) C 0 rfl rfl rfl hl 0 rfl ?_
  refine i_iload_n (n := 2) C 1 rfl rfl rfl hl 1 rfl ?_
  refine i_icmp_lt (tgt := 14) (n := 5) C 2 rfl rfl rfl (fun c1 => ?_) (fun c1 => ?_)
  · replace hw := hw.1 c1
    refine i_iconst (v := (0 : Int32)) (n := 15) C 8 rfl rfl rfl ?_
    exact hret _ _ _ rfl hw (C.dg (k := 9) rfl)
  · replace hw := hw.2 c1
    refine i_iload_n (n := 6) C 3 rfl rfl rfl hl 0 rfl ?_
    refine i_iload_n (n := 7) C 4 rfl rfl rfl hl 2 rfl ?_
    refine i_icmp_gt (tgt := 14) (n := 10) C 5 rfl rfl rfl (fun c2 => ?_) (fun c2 => ?_)
    · replace hw := hw.1 c2
      refine i_iconst (v := (0 : Int32)) (n := 15) C 8 rfl rfl rfl ?_
      exact hret _ _ _ rfl hw (C.dg (k := 9) rfl)
    · replace hw := hw.2 c2
      refine i_iconst (v := (1 : Int32)) (n := 11) C 6 rfl rfl rfl ?_
      refine i_goto (tgt := 15) C 7 rfl rfl ?_
      exact hret _ _ _ rfl hw (C.dg (k := 9) rfl)
end S174
theorem kS_Mo_126 {R : Room} {s : State} {args : Array Value} (hR : 0 + 1 ≤ R.frames ∧ 8 + (3 + 11) + 0 ≤ R.locals) (ht : ∀ w ∈ GW, w.before args s = true) : CallB R s args R_Mo 126 y_Mo_in c_Mo_in 3 (some .boolean) (WL y_Mo_in c_Mo_in 3 (some .boolean)) { frames := 0, cells := 0, slots := 0, locals := 0 } 0 0 3 ∧ (Cond.static y_Mo_in).before args s = true := cwS 3 ht (GW_s w_6_20 w_6_21 w_1_7 (GW_wl w_6_22)) rfl rfl rfl (by decide +kernel) hR
section S175
variable {p : Program} {l : Launch} {e : Env} {R : Room} {s : State} {m : MethodId} {args : Array Value} {below : List Frame} {meth : Method} {c : Code} {H : Heap} {locs : List Loc} {cells slots : Nat} {Q : State → Prop}
variable {cc : ByteArray} {pc n nL : Nat} {ls : Array Slot} {rest : List Value} {D : va_G} {cy : Nat → ClassId} {Z : Nat → Prop} {ad : Nat → Nat} {tb : List (Nat × Instr × Nat)} {lv : List (Nat × Value)}
def g_Mo_isNode (I : Nat → Int32) (a1 : Int32) (P : Int32 → Prop) : Prop := g_Mo_in a1 (0 : Int32) ((I 0) - (1 : Int32)) (fun r1 => (isB r1 ∧ P r1))
set_option maxHeartbeats 4000000 in
set_option maxRecDepth 100000 in
theorem m_Mo_isNode {l : Launch} {D : va_G} {cy : Nat → ClassId} {ad : Nat → Nat} {I : Nat → Int32} {A : Nat → Nat → Int32} {a1 : Int32} {P : Int32 → Prop} (hw : g_Mo_isNode I a1 P) : ∀ sz, Met l y_Mo_isNode (WL y_Mo_isNode c_Mo_isNode 2 (some .boolean)) { frames := 1, cells := 0, slots := 0, locals := 22 } (va_Pc [.ref (ad 0), .int a1] (PreW D cy (wM cy ad I A) sz)) (vp_Si P) 0 0 (fun _ => False) := by
  refine met_p R_Mo .boolean db_Mo_isNode (by decide) rfl rfl (Nat.le_of_ble_eq_true rfl) ?_
  intro p e s m below meth c Z Q ls C h hl hret
  have hl : lv_has ls 2 [(0, .ref (ad 0)), (1, .int a1)] := hl
  refine i_iload_n (n := 1) C 0 rfl rfl rfl hl 1 rfl ?_
  refine i_iconst (v := (0 : Int32)) (n := 2) C 1 rfl rfl rfl ?_
  refine i_aload_n (n := 3) C 2 rfl rfl rfl hl 0 rfl ?_
  refine fgM_Mo_122 (n := 6) C 3 rfl rfl h ?_
  refine i_iconst (v := (1 : Int32)) (n := 7) C 4 rfl rfl rfl ?_
  refine i_isub (n := 8) C 5 rfl rfl ?_
  refine i_callSp (rest := []) (n := 11) C 6 rfl rfl hl h (kS_Mo_126 ⟨by decide, by decide⟩) (m_Mo_in hw) rfl rfl (Nat.le_of_ble_eq_true rfl) ⟨by decide, by decide⟩ (fun r1 hw => ?_)
  obtain ⟨hB, hw⟩ := hw
  exact hret _ _ _ hB.nar hw (C.dg (k := 7) rfl)
end S175
section S176
variable {p : Program} {l : Launch} {e : Env} {R : Room} {s : State} {m : MethodId} {args : Array Value} {below : List Frame} {meth : Method} {c : Code} {H : Heap} {locs : List Loc} {cells slots : Nat} {Q : State → Prop}
variable {cc : ByteArray} {pc n nL : Nat} {ls : Array Slot} {rest : List Value} {D : va_G} {cy : Nat → ClassId} {Z : Nat → Prop} {ad : Nat → Nat} {tb : List (Nat × Instr × Nat)} {lv : List (Nat × Value)}
def g_Mo_isMain (I : Nat → Int32) (a1 : Int32) (P : Int32 → Prop) : Prop := g_Mo_in a1 (0 : Int32) ((I 1) - (1 : Int32)) (fun r1 => (isB r1 ∧ P r1))
set_option maxHeartbeats 4000000 in
set_option maxRecDepth 100000 in
theorem m_Mo_isMain {l : Launch} {D : va_G} {cy : Nat → ClassId} {ad : Nat → Nat} {I : Nat → Int32} {A : Nat → Nat → Int32} {a1 : Int32} {P : Int32 → Prop} (hw : g_Mo_isMain I a1 P) : ∀ sz, Met l y_Mo_isMain (WL y_Mo_isMain c_Mo_isMain 2 (some .boolean)) { frames := 1, cells := 0, slots := 0, locals := 22 } (va_Pc [.ref (ad 0), .int a1] (PreW D cy (wM cy ad I A) sz)) (vp_Si P) 0 0 (fun _ => False) := by
  refine met_p R_Mo .boolean db_Mo_isMain (by decide) rfl rfl (Nat.le_of_ble_eq_true rfl) ?_
  intro p e s m below meth c Z Q ls C h hl hret
  have hl : lv_has ls 2 [(0, .ref (ad 0)), (1, .int a1)] := hl
  refine i_iload_n (n := 1) C 0 rfl rfl rfl hl 1 rfl ?_
  refine i_iconst (v := (0 : Int32)) (n := 2) C 1 rfl rfl rfl ?_
  refine i_aload_n (n := 3) C 2 rfl rfl rfl hl 0 rfl ?_
  refine fgM_Mo_130 (n := 6) C 3 rfl rfl h ?_
  refine i_iconst (v := (1 : Int32)) (n := 7) C 4 rfl rfl rfl ?_
  refine i_isub (n := 8) C 5 rfl rfl ?_
  refine i_callSp (rest := []) (n := 11) C 6 rfl rfl hl h (kS_Mo_126 ⟨by decide, by decide⟩) (m_Mo_in hw) rfl rfl (Nat.le_of_ble_eq_true rfl) ⟨by decide, by decide⟩ (fun r1 hw => ?_)
  obtain ⟨hB, hw⟩ := hw
  exact hret _ _ _ hB.nar hw (C.dg (k := 7) rfl)
end S176
section S177
variable {p : Program} {l : Launch} {e : Env} {R : Room} {s : State} {m : MethodId} {args : Array Value} {below : List Frame} {meth : Method} {c : Code} {H : Heap} {locs : List Loc} {cells slots : Nat} {Q : State → Prop}
variable {cc : ByteArray} {pc n nL : Nat} {ls : Array Slot} {rest : List Value} {D : va_G} {cy : Nat → ClassId} {Z : Nat → Prop} {ad : Nat → Nat} {tb : List (Nat × Instr × Nat)} {lv : List (Nat × Value)}
def g_Mo_isValve (I : Nat → Int32) (a1 : Int32) (P : Int32 → Prop) : Prop := g_Mo_in a1 (0 : Int32) ((I 2) - (1 : Int32)) (fun r1 => (isB r1 ∧ P r1))
set_option maxHeartbeats 4000000 in
set_option maxRecDepth 100000 in
theorem m_Mo_isValve {l : Launch} {D : va_G} {cy : Nat → ClassId} {ad : Nat → Nat} {I : Nat → Int32} {A : Nat → Nat → Int32} {a1 : Int32} {P : Int32 → Prop} (hw : g_Mo_isValve I a1 P) : ∀ sz, Met l y_Mo_isValve (WL y_Mo_isValve c_Mo_isValve 2 (some .boolean)) { frames := 1, cells := 0, slots := 0, locals := 22 } (va_Pc [.ref (ad 0), .int a1] (PreW D cy (wM cy ad I A) sz)) (vp_Si P) 0 0 (fun _ => False) := by
  refine met_p R_Mo .boolean db_Mo_isValve (by decide) rfl rfl (Nat.le_of_ble_eq_true rfl) ?_
  intro p e s m below meth c Z Q ls C h hl hret
  have hl : lv_has ls 2 [(0, .ref (ad 0)), (1, .int a1)] := hl
  refine i_iload_n (n := 1) C 0 rfl rfl rfl hl 1 rfl ?_
  refine i_iconst (v := (0 : Int32)) (n := 2) C 1 rfl rfl rfl ?_
  refine i_aload_n (n := 3) C 2 rfl rfl rfl hl 0 rfl ?_
  refine fgM_Mo_133 (n := 6) C 3 rfl rfl h ?_
  refine i_iconst (v := (1 : Int32)) (n := 7) C 4 rfl rfl rfl ?_
  refine i_isub (n := 8) C 5 rfl rfl ?_
  refine i_callSp (rest := []) (n := 11) C 6 rfl rfl hl h (kS_Mo_126 ⟨by decide, by decide⟩) (m_Mo_in hw) rfl rfl (Nat.le_of_ble_eq_true rfl) ⟨by decide, by decide⟩ (fun r1 hw => ?_)
  obtain ⟨hB, hw⟩ := hw
  exact hret _ _ _ hB.nar hw (C.dg (k := 7) rfl)
end S177
section S178
variable {p : Program} {l : Launch} {e : Env} {R : Room} {s : State} {m : MethodId} {args : Array Value} {below : List Frame} {meth : Method} {c : Code} {H : Heap} {locs : List Loc} {cells slots : Nat} {Q : State → Prop}
variable {cc : ByteArray} {pc n nL : Nat} {ls : Array Slot} {rest : List Value} {D : va_G} {cy : Nat → ClassId} {Z : Nat → Prop} {ad : Nat → Nat} {tb : List (Nat × Instr × Nat)} {lv : List (Nat × Value)}
def g_Mo_node (I : Nat → Int32) (A : Nat → Nat → Int32) (a1 : Int32) (a2 : Int32) (P : Int32 → ((Nat → Int32) × (Nat → Nat → Int32)) → Prop) : Prop := g_Mo_in a1 (0 : Int32) (200 : Int32) (fun r1 => ((r1 = 0 → (P (-2 : Int32) (I, A))) ∧ (¬ r1 = 0 → (g_Mo_in a2 (0 : Int32) (3 : Int32) (fun r3 => ((¬ r3 = 0 → ((¬ (I 0) = (12 : Int32) → (vp_in (I 0) 12 ∧ (vp_in (I 0) 12 ∧ (vp_in (I 0) 12 ∧ (P (((va_up I 0 ((I 0) + (1 : Int32))) 0) - (1 : Int32)) (va_up I 0 ((I 0) + (1 : Int32)), sA (sA (sA A 0 (I 0) a1) 1 (I 0) a2) 13 (I 0) ((10 : Int32) * a1))))))) ∧ ((I 0) = (12 : Int32) → (P (-4 : Int32) (I, A))))) ∧ (r3 = 0 → (P (-2 : Int32) (I, A)))))))))
set_option maxHeartbeats 4000000 in
set_option maxRecDepth 100000 in
theorem m_Mo_node {l : Launch} {D : va_G} {cy : Nat → ClassId} {ad : Nat → Nat} {I : Nat → Int32} {A : Nat → Nat → Int32} {a1 : Int32} {a2 : Int32} {P : Int32 → ((Nat → Int32) × (Nat → Nat → Int32)) → Prop} (hw : g_Mo_node I A a1 a2 P) : ∀ sz, Met l y_Mo_node (WL y_Mo_node c_Mo_node 3 (some .int)) { frames := 1, cells := 0, slots := 0, locals := 22 } (va_Pc [.ref (ad 0), .int a1, .int a2] (PreW D cy (wM cy ad I A) sz)) (va_Qi P (fun u t => PostW D (va_A (wM cy ad I A) sz) ((fun (u : (Nat → Int32) × (Nat → Nat → Int32)) => wM cy ad u.1 u.2) u) t) (va_A (wM cy ad I A) sz)) 0 0 (va_A (wM cy ad I A) sz) := by
  refine met_i (wf := fun (u : (Nat → Int32) × (Nat → Nat → Int32)) => wM cy ad u.1 u.2) R_Mo .int db_Mo_node (by decide) rfl rfl (Nat.le_of_ble_eq_true rfl) ?_
  intro p e s m below meth c Z Q ls C h hl hret
  have hl : lv_has ls 3 [(0, .ref (ad 0)), (1, .int a1), (2, .int a2)] := hl
  refine i_iload_n (n := 1) C 0 rfl rfl rfl hl 1 rfl ?_
  refine i_iconst (v := (0 : Int32)) (n := 2) C 1 rfl rfl rfl ?_
  refine i_sipush (v := (200 : Int32)) (n := 5) C 2 rfl rfl rfl ?_
  refine i_callSp (rest := []) (n := 8) C 3 rfl rfl hl h (kS_Mo_126 ⟨by decide, by decide⟩) (m_Mo_in hw) rfl rfl (Nat.le_of_ble_eq_true rfl) ⟨by decide, by decide⟩ (fun r1 hw => ?_)
  refine i_if_eq (tgt := 20) (n := 11) C 4 rfl rfl rfl (fun c2 => ?_) (fun c2 => ?_)
  · replace hw := hw.1 c2
    refine i_bipush (v := (-2 : Int32)) (n := 22) C 10 rfl rfl rfl ?_
    exact hret _ (I, A) _ _ _ _ rfl hw h (C.dg (k := 11) rfl)
  · replace hw := hw.2 c2
    refine i_iload_n (n := 12) C 5 rfl rfl rfl hl 2 rfl ?_
    refine i_iconst (v := (0 : Int32)) (n := 13) C 6 rfl rfl rfl ?_
    refine i_iconst (v := (3 : Int32)) (n := 14) C 7 rfl rfl rfl ?_
    refine i_callSp (rest := []) (n := 17) C 8 rfl rfl hl h (kS_Mo_126 ⟨by decide, by decide⟩) (m_Mo_in hw) rfl rfl (Nat.le_of_ble_eq_true rfl) ⟨by decide, by decide⟩ (fun r3 hw => ?_)
    refine i_if_ne (tgt := 23) (n := 20) C 9 rfl rfl rfl (fun c4 => ?_) (fun c4 => ?_)
    · replace hw := hw.1 c4
      refine i_aload_n (n := 24) C 12 rfl rfl rfl hl 0 rfl ?_
      refine fgM_Mo_122 (n := 27) C 13 rfl rfl h ?_
      refine i_bipush (v := (12 : Int32)) (n := 29) C 14 rfl rfl rfl ?_
      refine i_icmp_ne (tgt := 35) (n := 32) C 15 rfl rfl rfl (fun c5 => ?_) (fun c5 => ?_)
      · replace hw := hw.1 c5
        refine i_aload_n (n := 36) C 18 rfl rfl rfl hl 0 rfl ?_
        refine fgM_Mo_7 (n := 39) C 19 rfl rfl h ?_
        refine i_aload_n (n := 40) C 20 rfl rfl rfl hl 0 rfl ?_
        refine fgM_Mo_122 (n := 43) C 21 rfl rfl h ?_
        refine i_iload_n (n := 44) C 22 rfl rfl rfl hl 1 rfl ?_
        obtain ⟨hb, hw⟩ := hw
        refine i_iast (n := 45) C 23 rfl rfl h (wM_arr 0 (by decide) rfl) hb (wM_sA 0 (by decide) rfl _ _) (fun H locs h => ?_)
        refine i_aload_n (n := 46) C 24 rfl rfl rfl hl 0 rfl ?_
        refine fgM_Mo_13 (n := 49) C 25 rfl rfl h ?_
        refine i_aload_n (n := 50) C 26 rfl rfl rfl hl 0 rfl ?_
        refine fgM_Mo_122 (n := 53) C 27 rfl rfl h ?_
        refine i_iload_n (n := 54) C 28 rfl rfl rfl hl 2 rfl ?_
        obtain ⟨hb, hw⟩ := hw
        refine i_iast (n := 55) C 29 rfl rfl h (wM_arr 1 (by decide) rfl) hb (wM_sA 1 (by decide) rfl _ _) (fun H locs h => ?_)
        refine i_aload_n (n := 56) C 30 rfl rfl rfl hl 0 rfl ?_
        refine fgM_Mo_50 (n := 59) C 31 rfl rfl h ?_
        refine i_aload_n (n := 60) C 32 rfl rfl rfl hl 0 rfl ?_
        refine fgM_Mo_122 (n := 63) C 33 rfl rfl h ?_
        refine i_bipush (v := (10 : Int32)) (n := 65) C 34 rfl rfl rfl ?_
        refine i_iload_n (n := 66) C 35 rfl rfl rfl hl 1 rfl ?_
        refine i_imul (n := 67) C 36 rfl rfl ?_
        obtain ⟨hb, hw⟩ := hw
        refine i_iast (n := 68) C 37 rfl rfl h (wM_arr 13 (by decide) rfl) hb (wM_sA 13 (by decide) rfl _ _) (fun H locs h => ?_)
        refine i_aload_n (n := 69) C 38 rfl rfl rfl hl 0 rfl ?_
        refine i_dup (n := 70) C 39 rfl rfl rfl ?_
        refine fgM_Mo_122 (n := 73) C 40 rfl rfl h ?_
        refine i_iconst (v := (1 : Int32)) (n := 74) C 41 rfl rfl rfl ?_
        refine i_iadd (n := 75) C 42 rfl rfl ?_
        refine fpM_Mo_122 (n := 78) C 43 rfl rfl h (fun H locs h => ?_)
        refine i_aload_n (n := 79) C 44 rfl rfl rfl hl 0 rfl ?_
        refine fgM_Mo_122 (n := 82) C 45 rfl rfl h ?_
        refine i_iconst (v := (1 : Int32)) (n := 83) C 46 rfl rfl rfl ?_
        refine i_isub (n := 84) C 47 rfl rfl ?_
        exact hret _ (va_up I 0 ((I 0) + (1 : Int32)), sA (sA (sA A 0 (I 0) a1) 1 (I 0) a2) 13 (I 0) ((10 : Int32) * a1)) _ _ _ _ rfl hw h (C.dg (k := 48) rfl)
      · replace hw := hw.2 c5
        refine i_bipush (v := (-4 : Int32)) (n := 34) C 16 rfl rfl rfl ?_
        exact hret _ (I, A) _ _ _ _ rfl hw h (C.dg (k := 17) rfl)
    · replace hw := hw.2 c4
      refine i_bipush (v := (-2 : Int32)) (n := 22) C 10 rfl rfl rfl ?_
      exact hret _ (I, A) _ _ _ _ rfl hw h (C.dg (k := 11) rfl)
end S178
theorem kV_Mo_136 {R : Room} {s : State} {args : Array Value} (hR : 1 + 1 ≤ R.frames ∧ 8 + (2 + 11) + 22 ≤ R.locals) (ht : ∀ w ∈ GW, w.before args s = true) : CallW R s args R_Mo R_Mo 136 y_Mo_isNode c_Mo_isNode 2 (some .boolean) (WL y_Mo_isNode c_Mo_isNode 2 (some .boolean)) { frames := 1, cells := 0, slots := 0, locals := 22 } 0 0 1 := cwV 1 ht (GW_v w_6_27 w_6_29 w_0_28 w_1_7 (GW_wl w_6_30)) rfl rfl rfl (by decide +kernel) hR
section S179
variable {p : Program} {l : Launch} {e : Env} {R : Room} {s : State} {m : MethodId} {args : Array Value} {below : List Frame} {meth : Method} {c : Code} {H : Heap} {locs : List Loc} {cells slots : Nat} {Q : State → Prop}
variable {cc : ByteArray} {pc n nL : Nat} {ls : Array Slot} {rest : List Value} {D : va_G} {cy : Nat → ClassId} {Z : Nat → Prop} {ad : Nat → Nat} {tb : List (Nat × Instr × Nat)} {lv : List (Nat × Value)}
def g_Mo_main_108 (a1 : Int32) (a2 : Int32) (a3 : Int32) (P : Int32 → ((Nat → Int32) × (Nat → Nat → Int32)) → Prop) (kb52 : (Nat → Int32) → (Nat → Nat → Int32) → Int32 → Prop) (I : Nat → Int32) (A : Nat → Nat → Int32) (x4 : Int32) : Prop := kb52 I A (x4 + (1 : Int32))
set_option maxHeartbeats 4000000 in
set_option maxRecDepth 100000 in
theorem e_Mo_main_108  {a1 : Int32} {a2 : Int32} {a3 : Int32} {P : Int32 → ((Nat → Int32) × (Nat → Nat → Int32)) → Prop} {kb52 : (Nat → Int32) → (Nat → Nat → Int32) → Int32 → Prop} (C : CX D cy R_Mo c_Mo_main tb_Mo_main 5 p s m args c Z) (hret : RetI p l e { frames := 2, cells := 0, slots := 0, locals := 43 } s m args below meth c c_Mo_main .int D Z Q (fun (u : (Nat → Int32) × (Nat → Nat → Int32)) => wM cy ad u.1 u.2) P 0 0)
    (hb52 : ∀ (I : Nat → Int32) (A : Nat → Nat → Int32) (x4 : Int32) (ls : Array Slot) (H : Heap) (locs : List Loc), lv_has ls 5 [(0, .ref (ad 0)), (1, .int a1), (2, .int a2), (3, .int a3), (4, .int x4)] → HXw D Z s.heap H locs (wM cy ad I A) → kb52 I A x4 → W p l e { frames := 2, cells := 0, slots := 0, locals := 43 } s m args below meth c H locs 0 0 Q (F0 m 52 ls [])) :
    ∀ (I : Nat → Int32) (A : Nat → Nat → Int32) (x4 : Int32) (ls : Array Slot) (H : Heap) (locs : List Loc), lv_has ls 5 [(0, .ref (ad 0)), (1, .int a1), (2, .int a2), (3, .int a3), (4, .int x4)] → HXw D Z s.heap H locs (wM cy ad I A) → g_Mo_main_108 a1 a2 a3 P kb52 I A x4 → W p l e { frames := 2, cells := 0, slots := 0, locals := 43 } s m args below meth c H locs 0 0 Q (F0 m 108 ls []) := by
  intro I A x4 ls H locs hl h hw
  refine i_iinc (v := x4 + (1 : Int32)) (lv' := [(4, .int (x4 + (1 : Int32))), (0, .ref (ad 0)), (1, .int a1), (2, .int a2), (3, .int a3)]) (n := 111) C 58 rfl rfl hl 4 rfl rfl (by decide) rfl (fun ls hl => ?_)
  refine i_goto (tgt := 52) C 59 rfl rfl ?_
  exact hb52 I A (x4 + (1 : Int32)) ls _ _ (lv_sub hl [1, 2, 3, 4, 0] rfl) h hw
def g_Mo_main_83 (a1 : Int32) (a2 : Int32) (a3 : Int32) (P : Int32 → ((Nat → Int32) × (Nat → Nat → Int32)) → Prop) (kb52 : (Nat → Int32) → (Nat → Nat → Int32) → Int32 → Prop) (I : Nat → Int32) (A : Nat → Nat → Int32) (x4 : Int32) : Prop := vp_in x4 18 ∧ ((¬ (A 14 x4.toNatClampNeg) = a2 → (g_Mo_main_108 a1 a2 a3 P kb52 I A x4)) ∧ ((A 14 x4.toNatClampNeg) = a2 → (vp_in x4 18 ∧ ((¬ (A 15 x4.toNatClampNeg) = a1 → (g_Mo_main_108 a1 a2 a3 P kb52 I A x4)) ∧ ((A 15 x4.toNatClampNeg) = a1 → (P (-5 : Int32) (I, A)))))))
set_option maxHeartbeats 4000000 in
set_option maxRecDepth 100000 in
theorem e_Mo_main_83  {a1 : Int32} {a2 : Int32} {a3 : Int32} {P : Int32 → ((Nat → Int32) × (Nat → Nat → Int32)) → Prop} {kb52 : (Nat → Int32) → (Nat → Nat → Int32) → Int32 → Prop} (C : CX D cy R_Mo c_Mo_main tb_Mo_main 5 p s m args c Z) (hret : RetI p l e { frames := 2, cells := 0, slots := 0, locals := 43 } s m args below meth c c_Mo_main .int D Z Q (fun (u : (Nat → Int32) × (Nat → Nat → Int32)) => wM cy ad u.1 u.2) P 0 0)
    (hb52 : ∀ (I : Nat → Int32) (A : Nat → Nat → Int32) (x4 : Int32) (ls : Array Slot) (H : Heap) (locs : List Loc), lv_has ls 5 [(0, .ref (ad 0)), (1, .int a1), (2, .int a2), (3, .int a3), (4, .int x4)] → HXw D Z s.heap H locs (wM cy ad I A) → kb52 I A x4 → W p l e { frames := 2, cells := 0, slots := 0, locals := 43 } s m args below meth c H locs 0 0 Q (F0 m 52 ls [])) :
    ∀ (I : Nat → Int32) (A : Nat → Nat → Int32) (x4 : Int32) (ls : Array Slot) (H : Heap) (locs : List Loc), lv_has ls 5 [(0, .ref (ad 0)), (1, .int a1), (2, .int a2), (3, .int a3), (4, .int x4)] → HXw D Z s.heap H locs (wM cy ad I A) → g_Mo_main_83 a1 a2 a3 P kb52 I A x4 → W p l e { frames := 2, cells := 0, slots := 0, locals := 43 } s m args below meth c H locs 0 0 Q (F0 m 83 ls []) := by
  intro I A x4 ls H locs hl h hw
  refine i_aload_n (n := 84) C 44 rfl rfl rfl hl 0 rfl ?_
  refine fgM_Mo_53 (n := 87) C 45 rfl rfl h ?_
  refine i_iload (n := 89) C 46 rfl rfl hl 4 rfl ?_
  obtain ⟨hb, hw⟩ := hw
  refine i_iald (n := 90) C 47 rfl rfl h (wM_arr 14 (by decide) rfl) hb ?_
  refine i_iload_n (n := 91) C 48 rfl rfl rfl hl 2 rfl ?_
  refine i_icmp_ne (tgt := 108) (n := 94) C 49 rfl rfl rfl (fun c11 => ?_) (fun c11 => ?_)
  · replace hw := hw.1 c11
    exact e_Mo_main_108 C hret hb52 I A x4 ls _ _ hl h hw
  · replace hw := hw.2 c11
    refine i_aload_n (n := 95) C 50 rfl rfl rfl hl 0 rfl ?_
    refine fgM_Mo_56 (n := 98) C 51 rfl rfl h ?_
    refine i_iload (n := 100) C 52 rfl rfl hl 4 rfl ?_
    obtain ⟨hb, hw⟩ := hw
    refine i_iald (n := 101) C 53 rfl rfl h (wM_arr 15 (by decide) rfl) hb ?_
    refine i_iload_n (n := 102) C 54 rfl rfl rfl hl 1 rfl ?_
    refine i_icmp_ne (tgt := 108) (n := 105) C 55 rfl rfl rfl (fun c12 => ?_) (fun c12 => ?_)
    · replace hw := hw.1 c12
      exact e_Mo_main_108 C hret hb52 I A x4 ls _ _ hl h hw
    · replace hw := hw.2 c12
      refine i_bipush (v := (-5 : Int32)) (n := 107) C 56 rfl rfl rfl ?_
      exact hret _ (I, A) _ _ _ _ rfl hw h (C.dg (k := 57) rfl)
def g_Mo_main_52 (a1 : Int32) (a2 : Int32) (a3 : Int32) (P : Int32 → ((Nat → Int32) × (Nat → Nat → Int32)) → Prop) (kx52 : (Nat → Int32) → (Nat → Nat → Int32) → Prop) : Nat → (Nat → Int32) → (Nat → Nat → Int32) → Int32 → Prop
  | 0, _, _, _ => False
  | n52 + 1, I, A, x4 => ((I 1) ≤ x4 → (kx52 I A)) ∧ (¬ (I 1) ≤ x4 → (vp_in x4 18 ∧ ((¬ (A 14 x4.toNatClampNeg) = a1 → (g_Mo_main_83 a1 a2 a3 P (g_Mo_main_52 a1 a2 a3 P kx52 n52) I A x4)) ∧ ((A 14 x4.toNatClampNeg) = a1 → (vp_in x4 18 ∧ (((A 15 x4.toNatClampNeg) = a2 → (P (-5 : Int32) (I, A))) ∧ (¬ (A 15 x4.toNatClampNeg) = a2 → (g_Mo_main_83 a1 a2 a3 P (g_Mo_main_52 a1 a2 a3 P kx52 n52) I A x4))))))))
set_option maxHeartbeats 4000000 in
set_option maxRecDepth 100000 in
theorem e_Mo_main_52  {a1 : Int32} {a2 : Int32} {a3 : Int32} {P : Int32 → ((Nat → Int32) × (Nat → Nat → Int32)) → Prop} {kx52 : (Nat → Int32) → (Nat → Nat → Int32) → Prop} (C : CX D cy R_Mo c_Mo_main tb_Mo_main 5 p s m args c Z) (hret : RetI p l e { frames := 2, cells := 0, slots := 0, locals := 43 } s m args below meth c c_Mo_main .int D Z Q (fun (u : (Nat → Int32) × (Nat → Nat → Int32)) => wM cy ad u.1 u.2) P 0 0)
    (hx52 : ∀ (I : Nat → Int32) (A : Nat → Nat → Int32) (ls : Array Slot) (H : Heap) (locs : List Loc), lv_has ls 5 [(0, .ref (ad 0)), (1, .int a1), (2, .int a2), (3, .int a3)] → HXw D Z s.heap H locs (wM cy ad I A) → kx52 I A → W p l e { frames := 2, cells := 0, slots := 0, locals := 43 } s m args below meth c H locs 0 0 Q (F0 m 114 ls [])) :
    ∀ (n : Nat) (I : Nat → Int32) (A : Nat → Nat → Int32) (x4 : Int32) (ls : Array Slot) (H : Heap) (locs : List Loc), lv_has ls 5 [(0, .ref (ad 0)), (1, .int a1), (2, .int a2), (3, .int a3), (4, .int x4)] → HXw D Z s.heap H locs (wM cy ad I A) → g_Mo_main_52 a1 a2 a3 P kx52 n I A x4 → W p l e { frames := 2, cells := 0, slots := 0, locals := 43 } s m args below meth c H locs 0 0 Q (F0 m 52 ls []) := by
  intro n
  induction n with
  | zero => intro I A x4 ls H locs hl h hw; exact hw.elim
  | succ n ih =>
    intro I A x4 ls H locs hl h hw
    refine i_iload (n := 54) C 28 rfl rfl hl 4 rfl ?_
    refine i_aload_n (n := 55) C 29 rfl rfl rfl hl 0 rfl ?_
    refine fgM_Mo_130 (n := 58) C 30 rfl rfl h ?_
    refine i_icmp_ge (tgt := 114) (n := 61) C 31 rfl rfl rfl (fun c9 => ?_) (fun c9 => ?_)
    · replace hw := hw.1 c9
      exact hx52 I A ls _ _ (lv_sub hl [0, 1, 2, 3] rfl) h hw
    · replace hw := hw.2 c9
      refine i_aload_n (n := 62) C 32 rfl rfl rfl hl 0 rfl ?_
      refine fgM_Mo_53 (n := 65) C 33 rfl rfl h ?_
      refine i_iload (n := 67) C 34 rfl rfl hl 4 rfl ?_
      obtain ⟨hb, hw⟩ := hw
      refine i_iald (n := 68) C 35 rfl rfl h (wM_arr 14 (by decide) rfl) hb ?_
      refine i_iload_n (n := 69) C 36 rfl rfl rfl hl 1 rfl ?_
      refine i_icmp_ne (tgt := 83) (n := 72) C 37 rfl rfl rfl (fun c10 => ?_) (fun c10 => ?_)
      · replace hw := hw.1 c10
        exact e_Mo_main_83 C hret ih I A x4 ls _ _ hl h hw
      · replace hw := hw.2 c10
        refine i_aload_n (n := 73) C 38 rfl rfl rfl hl 0 rfl ?_
        refine fgM_Mo_56 (n := 76) C 39 rfl rfl h ?_
        refine i_iload (n := 78) C 40 rfl rfl hl 4 rfl ?_
        obtain ⟨hb, hw⟩ := hw
        refine i_iald (n := 79) C 41 rfl rfl h (wM_arr 15 (by decide) rfl) hb ?_
        refine i_iload_n (n := 80) C 42 rfl rfl rfl hl 2 rfl ?_
        refine i_icmp_eq (tgt := 105) (n := 83) C 43 rfl rfl rfl (fun c13 => ?_) (fun c13 => ?_)
        · replace hw := hw.1 c13
          refine i_bipush (v := (-5 : Int32)) (n := 107) C 56 rfl rfl rfl ?_
          exact hret _ (I, A) _ _ _ _ rfl hw h (C.dg (k := 57) rfl)
        · replace hw := hw.2 c13
          exact e_Mo_main_83 C hret ih I A x4 ls _ _ hl h hw
def g_Mo_main (I : Nat → Int32) (A : Nat → Nat → Int32) (a1 : Int32) (a2 : Int32) (a3 : Int32) (P : Int32 → ((Nat → Int32) × (Nat → Nat → Int32)) → Prop) : Prop := g_Mo_isNode I a1 (fun r1 => ((r1 = 0 → (P (-1 : Int32) (I, A))) ∧ (¬ r1 = 0 → (g_Mo_isNode I a2 (fun r3 => ((r3 = 0 → (P (-1 : Int32) (I, A))) ∧ (¬ r3 = 0 → ((¬ a1 = a2 → (g_Mo_in a3 (1 : Int32) (1000 : Int32) (fun r6 => ((¬ r6 = 0 → ((¬ (I 1) = (18 : Int32) → (∃ N : Nat, g_Mo_main_52 a1 a2 a3 P (fun (I_14 : Nat → Int32) (A_14 : Nat → Nat → Int32) => vp_in (I_14 1) 18 ∧ (vp_in (I_14 1) 18 ∧ (vp_in (I_14 1) 18 ∧ (P (((va_up I_14 1 ((I_14 1) + (1 : Int32))) 1) - (1 : Int32)) (va_up I_14 1 ((I_14 1) + (1 : Int32)), sA (sA (sA A_14 14 (I_14 1) a1) 15 (I_14 1) a2) 16 (I_14 1) a3))))) N I A (0 : Int32))) ∧ ((I 1) = (18 : Int32) → (P (-4 : Int32) (I, A))))) ∧ (r6 = 0 → (P (-2 : Int32) (I, A))))))) ∧ (a1 = a2 → (P (-1 : Int32) (I, A)))))))))))
set_option maxHeartbeats 4000000 in
set_option maxRecDepth 100000 in
theorem m_Mo_main {l : Launch} {D : va_G} {cy : Nat → ClassId} {ad : Nat → Nat} {I : Nat → Int32} {A : Nat → Nat → Int32} {a1 : Int32} {a2 : Int32} {a3 : Int32} {P : Int32 → ((Nat → Int32) × (Nat → Nat → Int32)) → Prop} (hw : g_Mo_main I A a1 a2 a3 P) : ∀ sz, Met l y_Mo_main (WL y_Mo_main c_Mo_main 5 (some .int)) { frames := 2, cells := 0, slots := 0, locals := 43 } (va_Pc [.ref (ad 0), .int a1, .int a2, .int a3] (PreW D cy (wM cy ad I A) sz)) (va_Qi P (fun u t => PostW D (va_A (wM cy ad I A) sz) ((fun (u : (Nat → Int32) × (Nat → Nat → Int32)) => wM cy ad u.1 u.2) u) t) (va_A (wM cy ad I A) sz)) 0 0 (va_A (wM cy ad I A) sz) := by
  refine met_i (wf := fun (u : (Nat → Int32) × (Nat → Nat → Int32)) => wM cy ad u.1 u.2) R_Mo .int db_Mo_main (by decide) rfl rfl (Nat.le_of_ble_eq_true rfl) ?_
  intro p e s m below meth c Z Q ls C h hl hret
  have hl : lv_has ls 5 [(0, .ref (ad 0)), (1, .int a1), (2, .int a2), (3, .int a3)] := hl
  refine i_aload_n (n := 1) C 0 rfl rfl rfl hl 0 rfl ?_
  refine i_iload_n (n := 2) C 1 rfl rfl rfl hl 1 rfl ?_
  refine i_callVp (rest := []) (ci := 11) (qc := (R_Mo, T_Mo, 50)) (n := 5) C 2 rfl rfl hl h rfl (wM_get (h := 0) (by decide)) (kV_Mo_136 ⟨by decide, by decide⟩) (m_Mo_isNode hw) rfl rfl (Nat.le_of_ble_eq_true rfl) ⟨by decide, by decide⟩ (fun r1 hw => ?_)
  refine i_if_eq (tgt := 21) (n := 8) C 3 rfl rfl rfl (fun c2 => ?_) (fun c2 => ?_)
  · replace hw := hw.1 c2
    refine i_iconst (v := (-1 : Int32)) (n := 22) C 11 rfl rfl rfl ?_
    exact hret _ (I, A) _ _ _ _ rfl hw h (C.dg (k := 12) rfl)
  · replace hw := hw.2 c2
    refine i_aload_n (n := 9) C 4 rfl rfl rfl hl 0 rfl ?_
    refine i_iload_n (n := 10) C 5 rfl rfl rfl hl 2 rfl ?_
    refine i_callVp (rest := []) (ci := 11) (qc := (R_Mo, T_Mo, 50)) (n := 13) C 6 rfl rfl hl h rfl (wM_get (h := 0) (by decide)) (kV_Mo_136 ⟨by decide, by decide⟩) (m_Mo_isNode hw) rfl rfl (Nat.le_of_ble_eq_true rfl) ⟨by decide, by decide⟩ (fun r3 hw => ?_)
    refine i_if_eq (tgt := 21) (n := 16) C 7 rfl rfl rfl (fun c4 => ?_) (fun c4 => ?_)
    · replace hw := hw.1 c4
      refine i_iconst (v := (-1 : Int32)) (n := 22) C 11 rfl rfl rfl ?_
      exact hret _ (I, A) _ _ _ _ rfl hw h (C.dg (k := 12) rfl)
    · replace hw := hw.2 c4
      refine i_iload_n (n := 17) C 8 rfl rfl rfl hl 1 rfl ?_
      refine i_iload_n (n := 18) C 9 rfl rfl rfl hl 2 rfl ?_
      refine i_icmp_ne (tgt := 23) (n := 21) C 10 rfl rfl rfl (fun c5 => ?_) (fun c5 => ?_)
      · replace hw := hw.1 c5
        refine i_iload_n (n := 24) C 13 rfl rfl rfl hl 3 rfl ?_
        refine i_iconst (v := (1 : Int32)) (n := 25) C 14 rfl rfl rfl ?_
        refine i_sipush (v := (1000 : Int32)) (n := 28) C 15 rfl rfl rfl ?_
        refine i_callSp (rest := []) (n := 31) C 16 rfl rfl hl h (kS_Mo_126 ⟨by decide, by decide⟩) (m_Mo_in hw) rfl rfl (Nat.le_of_ble_eq_true rfl) ⟨by decide, by decide⟩ (fun r6 hw => ?_)
        refine i_if_ne (tgt := 37) (n := 34) C 17 rfl rfl rfl (fun c7 => ?_) (fun c7 => ?_)
        · replace hw := hw.1 c7
          refine i_aload_n (n := 38) C 20 rfl rfl rfl hl 0 rfl ?_
          refine fgM_Mo_130 (n := 41) C 21 rfl rfl h ?_
          refine i_bipush (v := (18 : Int32)) (n := 43) C 22 rfl rfl rfl ?_
          refine i_icmp_ne (tgt := 49) (n := 46) C 23 rfl rfl rfl (fun c8 => ?_) (fun c8 => ?_)
          · replace hw := hw.1 c8
            refine i_iconst (v := (0 : Int32)) (n := 50) C 26 rfl rfl rfl ?_
            refine i_istore (lv' := [(4, .int (0 : Int32)), (0, .ref (ad 0)), (1, .int a1), (2, .int a2), (3, .int a3)]) (n := 52) C 27 rfl rfl hl (by decide) rfl (fun ls hl => ?_)
            obtain ⟨n14, hw⟩ := hw
            refine e_Mo_main_52 C hret (fun I_14 A_14 ls H locs hl h hw => ?_) n14 I A (0 : Int32) ls _ _ (lv_sub hl [1, 2, 3, 4, 0] rfl) h hw
            have hl : lv_has ls 5 [(0, .ref (ad 0)), (1, .int a1), (2, .int a2), (3, .int a3)] := hl
            refine i_aload_n (n := 115) C 60 rfl rfl rfl hl 0 rfl ?_
            refine fgM_Mo_53 (n := 118) C 61 rfl rfl h ?_
            refine i_aload_n (n := 119) C 62 rfl rfl rfl hl 0 rfl ?_
            refine fgM_Mo_130 (n := 122) C 63 rfl rfl h ?_
            refine i_iload_n (n := 123) C 64 rfl rfl rfl hl 1 rfl ?_
            obtain ⟨hb, hw⟩ := hw
            refine i_iast (n := 124) C 65 rfl rfl h (wM_arr 14 (by decide) rfl) hb (wM_sA 14 (by decide) rfl _ _) (fun H locs h => ?_)
            refine i_aload_n (n := 125) C 66 rfl rfl rfl hl 0 rfl ?_
            refine fgM_Mo_56 (n := 128) C 67 rfl rfl h ?_
            refine i_aload_n (n := 129) C 68 rfl rfl rfl hl 0 rfl ?_
            refine fgM_Mo_130 (n := 132) C 69 rfl rfl h ?_
            refine i_iload_n (n := 133) C 70 rfl rfl rfl hl 2 rfl ?_
            obtain ⟨hb, hw⟩ := hw
            refine i_iast (n := 134) C 71 rfl rfl h (wM_arr 15 (by decide) rfl) hb (wM_sA 15 (by decide) rfl _ _) (fun H locs h => ?_)
            refine i_aload_n (n := 135) C 72 rfl rfl rfl hl 0 rfl ?_
            refine fgM_Mo_59 (n := 138) C 73 rfl rfl h ?_
            refine i_aload_n (n := 139) C 74 rfl rfl rfl hl 0 rfl ?_
            refine fgM_Mo_130 (n := 142) C 75 rfl rfl h ?_
            refine i_iload_n (n := 143) C 76 rfl rfl rfl hl 3 rfl ?_
            obtain ⟨hb, hw⟩ := hw
            refine i_iast (n := 144) C 77 rfl rfl h (wM_arr 16 (by decide) rfl) hb (wM_sA 16 (by decide) rfl _ _) (fun H locs h => ?_)
            refine i_aload_n (n := 145) C 78 rfl rfl rfl hl 0 rfl ?_
            refine i_dup (n := 146) C 79 rfl rfl rfl ?_
            refine fgM_Mo_130 (n := 149) C 80 rfl rfl h ?_
            refine i_iconst (v := (1 : Int32)) (n := 150) C 81 rfl rfl rfl ?_
            refine i_iadd (n := 151) C 82 rfl rfl ?_
            refine fpM_Mo_130 (n := 154) C 83 rfl rfl h (fun H locs h => ?_)
            refine i_aload_n (n := 155) C 84 rfl rfl rfl hl 0 rfl ?_
            refine fgM_Mo_130 (n := 158) C 85 rfl rfl h ?_
            refine i_iconst (v := (1 : Int32)) (n := 159) C 86 rfl rfl rfl ?_
            refine i_isub (n := 160) C 87 rfl rfl ?_
            exact hret _ (va_up I_14 1 ((I_14 1) + (1 : Int32)), sA (sA (sA A_14 14 (I_14 1) a1) 15 (I_14 1) a2) 16 (I_14 1) a3) _ _ _ _ rfl hw h (C.dg (k := 88) rfl)
          · replace hw := hw.2 c8
            refine i_bipush (v := (-4 : Int32)) (n := 48) C 24 rfl rfl rfl ?_
            exact hret _ (I, A) _ _ _ _ rfl hw h (C.dg (k := 25) rfl)
        · replace hw := hw.2 c7
          refine i_bipush (v := (-2 : Int32)) (n := 36) C 18 rfl rfl rfl ?_
          exact hret _ (I, A) _ _ _ _ rfl hw h (C.dg (k := 19) rfl)
      · replace hw := hw.2 c5
        refine i_iconst (v := (-1 : Int32)) (n := 22) C 11 rfl rfl rfl ?_
        exact hret _ (I, A) _ _ _ _ rfl hw h (C.dg (k := 12) rfl)
end S179
section S180
variable {p : Program} {l : Launch} {e : Env} {R : Room} {s : State} {m : MethodId} {args : Array Value} {below : List Frame} {meth : Method} {c : Code} {H : Heap} {locs : List Loc} {cells slots : Nat} {Q : State → Prop}
variable {cc : ByteArray} {pc n nL : Nat} {ls : Array Slot} {rest : List Value} {D : va_G} {cy : Nat → ClassId} {Z : Nat → Prop} {ad : Nat → Nat} {tb : List (Nat × Instr × Nat)} {lv : List (Nat × Value)}
def g_Mo_valveOn_2 (I : Nat → Int32) (A : Nat → Nat → Int32) (a1 : Int32) (P : Int32 → Prop) (kx2 : Prop) : Nat → Int32 → Prop
  | 0, _ => False
  | n2 + 1, x2 => ((I 2) ≤ x2 → (kx2 )) ∧ (¬ (I 2) ≤ x2 → (vp_in x2 12 ∧ ((¬ (A 17 x2.toNatClampNeg) = a1 → (g_Mo_valveOn_2 I A a1 P kx2 n2 (x2 + (1 : Int32)))) ∧ ((A 17 x2.toNatClampNeg) = a1 → (P x2)))))
set_option maxHeartbeats 4000000 in
set_option maxRecDepth 100000 in
theorem e_Mo_valveOn_2 {I : Nat → Int32} {A : Nat → Nat → Int32} {a1 : Int32} {P : Int32 → Prop} {kx2 : Prop} (C : CX D cy R_Mo c_Mo_valveOn tb_Mo_valveOn 3 p s m args c Z) (h : HXw D Z s.heap H locs (wM cy ad I A)) (hret : RetP p l e { frames := 0, cells := 0, slots := 0, locals := 0 } s m args below meth c c_Mo_valveOn .int H locs Q P)
    (hx2 : ∀ (ls : Array Slot), lv_has ls 3 [] → kx2  → W p l e { frames := 0, cells := 0, slots := 0, locals := 0 } s m args below meth c H locs 0 0 Q (F0 m 28 ls [])) :
    ∀ (n : Nat) (x2 : Int32) (ls : Array Slot), lv_has ls 3 [(0, .ref (ad 0)), (1, .int a1), (2, .int x2)] → g_Mo_valveOn_2 I A a1 P kx2 n x2 → W p l e { frames := 0, cells := 0, slots := 0, locals := 0 } s m args below meth c H locs 0 0 Q (F0 m 2 ls []) := by
  intro n
  induction n with
  | zero => intro x2 ls hl hw; exact hw.elim
  | succ n ih =>
    intro x2 ls hl hw
    refine i_iload_n (n := 3) C 2 rfl rfl rfl hl 2 rfl ?_
    refine i_aload_n (n := 4) C 3 rfl rfl rfl hl 0 rfl ?_
    refine fgM_Mo_133 (n := 7) C 4 rfl rfl h ?_
    refine i_icmp_ge (tgt := 28) (n := 10) C 5 rfl rfl rfl (fun c1 => ?_) (fun c1 => ?_)
    · replace hw := hw.1 c1
      exact hx2  ls (lv_sub hl [] rfl) hw
    · replace hw := hw.2 c1
      refine i_aload_n (n := 11) C 6 rfl rfl rfl hl 0 rfl ?_
      refine fgM_Mo_62 (n := 14) C 7 rfl rfl h ?_
      refine i_iload_n (n := 15) C 8 rfl rfl rfl hl 2 rfl ?_
      obtain ⟨hb, hw⟩ := hw
      refine i_iald (n := 16) C 9 rfl rfl h (wM_arr 17 (by decide) rfl) hb ?_
      refine i_iload_n (n := 17) C 10 rfl rfl rfl hl 1 rfl ?_
      refine i_icmp_ne (tgt := 22) (n := 20) C 11 rfl rfl rfl (fun c2 => ?_) (fun c2 => ?_)
      · replace hw := hw.1 c2
        refine i_iinc (v := x2 + (1 : Int32)) (lv' := [(2, .int (x2 + (1 : Int32))), (0, .ref (ad 0)), (1, .int a1)]) (n := 25) C 14 rfl rfl hl 2 rfl rfl (by decide) rfl (fun ls hl => ?_)
        refine i_goto (tgt := 2) C 15 rfl rfl ?_
        exact ih (x2 + (1 : Int32)) ls (lv_sub hl [1, 2, 0] rfl) hw
      · replace hw := hw.2 c2
        refine i_iload_n (n := 21) C 12 rfl rfl rfl hl 2 rfl ?_
        exact hret _ _ _ rfl hw (C.dg (k := 13) rfl)
def g_Mo_valveOn (I : Nat → Int32) (A : Nat → Nat → Int32) (a1 : Int32) (P : Int32 → Prop) : Prop := ∃ N : Nat, g_Mo_valveOn_2 I A a1 P (P (-6 : Int32)) N (0 : Int32)
set_option maxHeartbeats 4000000 in
set_option maxRecDepth 100000 in
theorem m_Mo_valveOn {l : Launch} {D : va_G} {cy : Nat → ClassId} {ad : Nat → Nat} {I : Nat → Int32} {A : Nat → Nat → Int32} {a1 : Int32} {P : Int32 → Prop} (hw : g_Mo_valveOn I A a1 P) : ∀ sz, Met l y_Mo_valveOn (WL y_Mo_valveOn c_Mo_valveOn 3 (some .int)) { frames := 0, cells := 0, slots := 0, locals := 0 } (va_Pc [.ref (ad 0), .int a1] (PreW D cy (wM cy ad I A) sz)) (vp_Si P) 0 0 (fun _ => False) := by
  refine met_p R_Mo .int db_Mo_valveOn (by decide) rfl rfl (Nat.le_of_ble_eq_true rfl) ?_
  intro p e s m below meth c Z Q ls C h hl hret
  have hl : lv_has ls 3 [(0, .ref (ad 0)), (1, .int a1)] := hl
  refine i_iconst (v := (0 : Int32)) (n := 1) C 0 rfl rfl rfl ?_
  refine i_istore_n (lv' := [(2, .int (0 : Int32)), (0, .ref (ad 0)), (1, .int a1)]) (n := 2) C 1 rfl rfl rfl hl (by decide) rfl (fun ls hl => ?_)
  obtain ⟨n3, hw⟩ := hw
  refine e_Mo_valveOn_2 C h hret (fun  ls hl hw => ?_) n3 (0 : Int32) ls (lv_sub hl [1, 2, 0] rfl) hw
  have hl : lv_has ls 3 [] := hl
  refine i_bipush (v := (-6 : Int32)) (n := 30) C 16 rfl rfl rfl ?_
  exact hret _ _ _ rfl hw (C.dg (k := 17) rfl)
end S180
section S181
variable {p : Program} {l : Launch} {e : Env} {R : Room} {s : State} {m : MethodId} {args : Array Value} {below : List Frame} {meth : Method} {c : Code} {H : Heap} {locs : List Loc} {cells slots : Nat} {Q : State → Prop}
variable {cc : ByteArray} {pc n nL : Nat} {ls : Array Slot} {rest : List Value} {D : va_G} {cy : Nat → ClassId} {Z : Nat → Prop} {ad : Nat → Nat} {tb : List (Nat × Instr × Nat)} {lv : List (Nat × Value)}
def g_Mo_valveByMap_2 (I : Nat → Int32) (A : Nat → Nat → Int32) (a1 : Int32) (P : Int32 → Prop) (kx2 : Prop) : Nat → Int32 → Prop
  | 0, _ => False
  | n2 + 1, x2 => ((I 2) ≤ x2 → (kx2 )) ∧ (¬ (I 2) ≤ x2 → (vp_in x2 12 ∧ ((¬ (A 18 x2.toNatClampNeg) = a1 → (g_Mo_valveByMap_2 I A a1 P kx2 n2 (x2 + (1 : Int32)))) ∧ ((A 18 x2.toNatClampNeg) = a1 → (P x2)))))
set_option maxHeartbeats 4000000 in
set_option maxRecDepth 100000 in
theorem e_Mo_valveByMap_2 {I : Nat → Int32} {A : Nat → Nat → Int32} {a1 : Int32} {P : Int32 → Prop} {kx2 : Prop} (C : CX D cy R_Mo c_Mo_valveByMap tb_Mo_valveByMap 3 p s m args c Z) (h : HXw D Z s.heap H locs (wM cy ad I A)) (hret : RetP p l e { frames := 0, cells := 0, slots := 0, locals := 0 } s m args below meth c c_Mo_valveByMap .int H locs Q P)
    (hx2 : ∀ (ls : Array Slot), lv_has ls 3 [] → kx2  → W p l e { frames := 0, cells := 0, slots := 0, locals := 0 } s m args below meth c H locs 0 0 Q (F0 m 28 ls [])) :
    ∀ (n : Nat) (x2 : Int32) (ls : Array Slot), lv_has ls 3 [(0, .ref (ad 0)), (1, .int a1), (2, .int x2)] → g_Mo_valveByMap_2 I A a1 P kx2 n x2 → W p l e { frames := 0, cells := 0, slots := 0, locals := 0 } s m args below meth c H locs 0 0 Q (F0 m 2 ls []) := by
  intro n
  induction n with
  | zero => intro x2 ls hl hw; exact hw.elim
  | succ n ih =>
    intro x2 ls hl hw
    refine i_iload_n (n := 3) C 2 rfl rfl rfl hl 2 rfl ?_
    refine i_aload_n (n := 4) C 3 rfl rfl rfl hl 0 rfl ?_
    refine fgM_Mo_133 (n := 7) C 4 rfl rfl h ?_
    refine i_icmp_ge (tgt := 28) (n := 10) C 5 rfl rfl rfl (fun c1 => ?_) (fun c1 => ?_)
    · replace hw := hw.1 c1
      exact hx2  ls (lv_sub hl [] rfl) hw
    · replace hw := hw.2 c1
      refine i_aload_n (n := 11) C 6 rfl rfl rfl hl 0 rfl ?_
      refine fgM_Mo_65 (n := 14) C 7 rfl rfl h ?_
      refine i_iload_n (n := 15) C 8 rfl rfl rfl hl 2 rfl ?_
      obtain ⟨hb, hw⟩ := hw
      refine i_iald (n := 16) C 9 rfl rfl h (wM_arr 18 (by decide) rfl) hb ?_
      refine i_iload_n (n := 17) C 10 rfl rfl rfl hl 1 rfl ?_
      refine i_icmp_ne (tgt := 22) (n := 20) C 11 rfl rfl rfl (fun c2 => ?_) (fun c2 => ?_)
      · replace hw := hw.1 c2
        refine i_iinc (v := x2 + (1 : Int32)) (lv' := [(2, .int (x2 + (1 : Int32))), (0, .ref (ad 0)), (1, .int a1)]) (n := 25) C 14 rfl rfl hl 2 rfl rfl (by decide) rfl (fun ls hl => ?_)
        refine i_goto (tgt := 2) C 15 rfl rfl ?_
        exact ih (x2 + (1 : Int32)) ls (lv_sub hl [1, 2, 0] rfl) hw
      · replace hw := hw.2 c2
        refine i_iload_n (n := 21) C 12 rfl rfl rfl hl 2 rfl ?_
        exact hret _ _ _ rfl hw (C.dg (k := 13) rfl)
def g_Mo_valveByMap (I : Nat → Int32) (A : Nat → Nat → Int32) (a1 : Int32) (P : Int32 → Prop) : Prop := ∃ N : Nat, g_Mo_valveByMap_2 I A a1 P (P (-6 : Int32)) N (0 : Int32)
set_option maxHeartbeats 4000000 in
set_option maxRecDepth 100000 in
theorem m_Mo_valveByMap {l : Launch} {D : va_G} {cy : Nat → ClassId} {ad : Nat → Nat} {I : Nat → Int32} {A : Nat → Nat → Int32} {a1 : Int32} {P : Int32 → Prop} (hw : g_Mo_valveByMap I A a1 P) : ∀ sz, Met l y_Mo_valveByMap (WL y_Mo_valveByMap c_Mo_valveByMap 3 (some .int)) { frames := 0, cells := 0, slots := 0, locals := 0 } (va_Pc [.ref (ad 0), .int a1] (PreW D cy (wM cy ad I A) sz)) (vp_Si P) 0 0 (fun _ => False) := by
  refine met_p R_Mo .int db_Mo_valveByMap (by decide) rfl rfl (Nat.le_of_ble_eq_true rfl) ?_
  intro p e s m below meth c Z Q ls C h hl hret
  have hl : lv_has ls 3 [(0, .ref (ad 0)), (1, .int a1)] := hl
  refine i_iconst (v := (0 : Int32)) (n := 1) C 0 rfl rfl rfl ?_
  refine i_istore_n (lv' := [(2, .int (0 : Int32)), (0, .ref (ad 0)), (1, .int a1)]) (n := 2) C 1 rfl rfl rfl hl (by decide) rfl (fun ls hl => ?_)
  obtain ⟨n3, hw⟩ := hw
  refine e_Mo_valveByMap_2 C h hret (fun  ls hl hw => ?_) n3 (0 : Int32) ls (lv_sub hl [1, 2, 0] rfl) hw
  have hl : lv_has ls 3 [] := hl
  refine i_bipush (v := (-6 : Int32)) (n := 30) C 16 rfl rfl rfl ?_
  exact hret _ _ _ rfl hw (C.dg (k := 17) rfl)
end S181
theorem kV_Mo_140 {R : Room} {s : State} {args : Array Value} (hR : 1 + 1 ≤ R.frames ∧ 8 + (2 + 11) + 22 ≤ R.locals) (ht : ∀ w ∈ GW, w.before args s = true) : CallW R s args R_Mo R_Mo 140 y_Mo_isMain c_Mo_isMain 2 (some .boolean) (WL y_Mo_isMain c_Mo_isMain 2 (some .boolean)) { frames := 1, cells := 0, slots := 0, locals := 22 } 0 0 1 := cwV 1 ht (GW_v w_6_35 w_6_37 w_0_29 w_1_7 (GW_wl w_6_38)) rfl rfl rfl (by decide +kernel) hR
theorem kV_Mo_143 {R : Room} {s : State} {args : Array Value} (hR : 0 + 1 ≤ R.frames ∧ 8 + (3 + 11) + 0 ≤ R.locals) (ht : ∀ w ∈ GW, w.before args s = true) : CallW R s args R_Mo R_Mo 143 y_Mo_valveOn c_Mo_valveOn 3 (some .int) (WL y_Mo_valveOn c_Mo_valveOn 3 (some .int)) { frames := 0, cells := 0, slots := 0, locals := 0 } 0 0 1 := cwV 1 ht (GW_v w_6_39 w_6_41 w_0_30 w_1_7 (GW_wl w_6_42)) rfl rfl rfl (by decide +kernel) hR
theorem kV_Mo_147 {R : Room} {s : State} {args : Array Value} (hR : 0 + 1 ≤ R.frames ∧ 8 + (3 + 11) + 0 ≤ R.locals) (ht : ∀ w ∈ GW, w.before args s = true) : CallW R s args R_Mo R_Mo 147 y_Mo_valveByMap c_Mo_valveByMap 3 (some .int) (WL y_Mo_valveByMap c_Mo_valveByMap 3 (some .int)) { frames := 0, cells := 0, slots := 0, locals := 0 } 0 0 1 := cwV 1 ht (GW_v w_6_43 w_6_45 w_0_31 w_1_7 (GW_wl w_6_46)) rfl rfl rfl (by decide +kernel) hR
section S182
variable {p : Program} {l : Launch} {e : Env} {R : Room} {s : State} {m : MethodId} {args : Array Value} {below : List Frame} {meth : Method} {c : Code} {H : Heap} {locs : List Loc} {cells slots : Nat} {Q : State → Prop}
variable {cc : ByteArray} {pc n nL : Nat} {ls : Array Slot} {rest : List Value} {D : va_G} {cy : Nat → ClassId} {Z : Nat → Prop} {ad : Nat → Nat} {tb : List (Nat × Instr × Nat)} {lv : List (Nat × Value)}
def g_Mo_valve (I : Nat → Int32) (A : Nat → Nat → Int32) (a1 : Int32) (a2 : Int32) (P : Int32 → ((Nat → Int32) × (Nat → Nat → Int32)) → Prop) : Prop := g_Mo_isMain I a1 (fun r1 => ((r1 = 0 → (P (-1 : Int32) (I, A))) ∧ (¬ r1 = 0 → (g_Mo_isMain I a2 (fun r3 => ((¬ r3 = 0 → ((¬ (I 2) = (12 : Int32) → (g_Mo_valveOn I A a1 (fun r6 => ((0 ≤ r6 → (P (-5 : Int32) (I, A))) ∧ (¬ 0 ≤ r6 → (g_Mo_valveByMap I A a2 (fun r8 => ((r8 < 0 → (vp_in (I 2) 12 ∧ (vp_in (I 2) 12 ∧ (vp_in (I 2) 12 ∧ (P (((va_up I 2 ((I 2) + (1 : Int32))) 2) - (1 : Int32)) (va_up I 2 ((I 2) + (1 : Int32)), sA (sA (sA A 17 (I 2) a1) 18 (I 2) a2) 19 (I 2) (vp_nar .boolean (0 : Int32)))))))) ∧ (¬ r8 < 0 → (P (-5 : Int32) (I, A))))))))))) ∧ ((I 2) = (12 : Int32) → (P (-4 : Int32) (I, A))))) ∧ (r3 = 0 → (P (-1 : Int32) (I, A)))))))))
set_option maxHeartbeats 4000000 in
set_option maxRecDepth 100000 in
theorem m_Mo_valve {l : Launch} {D : va_G} {cy : Nat → ClassId} {ad : Nat → Nat} {I : Nat → Int32} {A : Nat → Nat → Int32} {a1 : Int32} {a2 : Int32} {P : Int32 → ((Nat → Int32) × (Nat → Nat → Int32)) → Prop} (hw : g_Mo_valve I A a1 a2 P) : ∀ sz, Met l y_Mo_valve (WL y_Mo_valve c_Mo_valve 3 (some .int)) { frames := 2, cells := 0, slots := 0, locals := 43 } (va_Pc [.ref (ad 0), .int a1, .int a2] (PreW D cy (wM cy ad I A) sz)) (va_Qi P (fun u t => PostW D (va_A (wM cy ad I A) sz) ((fun (u : (Nat → Int32) × (Nat → Nat → Int32)) => wM cy ad u.1 u.2) u) t) (va_A (wM cy ad I A) sz)) 0 0 (va_A (wM cy ad I A) sz) := by
  refine met_i (wf := fun (u : (Nat → Int32) × (Nat → Nat → Int32)) => wM cy ad u.1 u.2) R_Mo .int db_Mo_valve (by decide) rfl rfl (Nat.le_of_ble_eq_true rfl) ?_
  intro p e s m below meth c Z Q ls C h hl hret
  have hl : lv_has ls 3 [(0, .ref (ad 0)), (1, .int a1), (2, .int a2)] := hl
  refine i_aload_n (n := 1) C 0 rfl rfl rfl hl 0 rfl ?_
  refine i_iload_n (n := 2) C 1 rfl rfl rfl hl 1 rfl ?_
  refine i_callVp (rest := []) (ci := 11) (qc := (R_Mo, T_Mo, 50)) (n := 5) C 2 rfl rfl hl h rfl (wM_get (h := 0) (by decide)) (kV_Mo_140 ⟨by decide, by decide⟩) (m_Mo_isMain hw) rfl rfl (Nat.le_of_ble_eq_true rfl) ⟨by decide, by decide⟩ (fun r1 hw => ?_)
  refine i_if_eq (tgt := 16) (n := 8) C 3 rfl rfl rfl (fun c2 => ?_) (fun c2 => ?_)
  · replace hw := hw.1 c2
    refine i_iconst (v := (-1 : Int32)) (n := 17) C 8 rfl rfl rfl ?_
    exact hret _ (I, A) _ _ _ _ rfl hw h (C.dg (k := 9) rfl)
  · replace hw := hw.2 c2
    refine i_aload_n (n := 9) C 4 rfl rfl rfl hl 0 rfl ?_
    refine i_iload_n (n := 10) C 5 rfl rfl rfl hl 2 rfl ?_
    refine i_callVp (rest := []) (ci := 11) (qc := (R_Mo, T_Mo, 50)) (n := 13) C 6 rfl rfl hl h rfl (wM_get (h := 0) (by decide)) (kV_Mo_140 ⟨by decide, by decide⟩) (m_Mo_isMain hw) rfl rfl (Nat.le_of_ble_eq_true rfl) ⟨by decide, by decide⟩ (fun r3 hw => ?_)
    refine i_if_ne (tgt := 18) (n := 16) C 7 rfl rfl rfl (fun c4 => ?_) (fun c4 => ?_)
    · replace hw := hw.1 c4
      refine i_aload_n (n := 19) C 10 rfl rfl rfl hl 0 rfl ?_
      refine fgM_Mo_133 (n := 22) C 11 rfl rfl h ?_
      refine i_bipush (v := (12 : Int32)) (n := 24) C 12 rfl rfl rfl ?_
      refine i_icmp_ne (tgt := 30) (n := 27) C 13 rfl rfl rfl (fun c5 => ?_) (fun c5 => ?_)
      · replace hw := hw.1 c5
        refine i_aload_n (n := 31) C 16 rfl rfl rfl hl 0 rfl ?_
        refine i_iload_n (n := 32) C 17 rfl rfl rfl hl 1 rfl ?_
        refine i_callVp (rest := []) (ci := 11) (qc := (R_Mo, T_Mo, 50)) (n := 35) C 18 rfl rfl hl h rfl (wM_get (h := 0) (by decide)) (kV_Mo_143 ⟨by decide, by decide⟩) (m_Mo_valveOn hw) rfl rfl (Nat.le_of_ble_eq_true rfl) ⟨by decide, by decide⟩ (fun r6 hw => ?_)
        refine i_if_ge (tgt := 46) (n := 38) C 19 rfl rfl rfl (fun c7 => ?_) (fun c7 => ?_)
        · replace hw := hw.1 c7
          refine i_bipush (v := (-5 : Int32)) (n := 48) C 24 rfl rfl rfl ?_
          exact hret _ (I, A) _ _ _ _ rfl hw h (C.dg (k := 25) rfl)
        · replace hw := hw.2 c7
          refine i_aload_n (n := 39) C 20 rfl rfl rfl hl 0 rfl ?_
          refine i_iload_n (n := 40) C 21 rfl rfl rfl hl 2 rfl ?_
          refine i_callVp (rest := []) (ci := 11) (qc := (R_Mo, T_Mo, 50)) (n := 43) C 22 rfl rfl hl h rfl (wM_get (h := 0) (by decide)) (kV_Mo_147 ⟨by decide, by decide⟩) (m_Mo_valveByMap hw) rfl rfl (Nat.le_of_ble_eq_true rfl) ⟨by decide, by decide⟩ (fun r8 hw => ?_)
          refine i_if_lt (tgt := 49) (n := 46) C 23 rfl rfl rfl (fun c9 => ?_) (fun c9 => ?_)
          · replace hw := hw.1 c9
            refine i_aload_n (n := 50) C 26 rfl rfl rfl hl 0 rfl ?_
            refine fgM_Mo_62 (n := 53) C 27 rfl rfl h ?_
            refine i_aload_n (n := 54) C 28 rfl rfl rfl hl 0 rfl ?_
            refine fgM_Mo_133 (n := 57) C 29 rfl rfl h ?_
            refine i_iload_n (n := 58) C 30 rfl rfl rfl hl 1 rfl ?_
            obtain ⟨hb, hw⟩ := hw
            refine i_iast (n := 59) C 31 rfl rfl h (wM_arr 17 (by decide) rfl) hb (wM_sA 17 (by decide) rfl _ _) (fun H locs h => ?_)
            refine i_aload_n (n := 60) C 32 rfl rfl rfl hl 0 rfl ?_
            refine fgM_Mo_65 (n := 63) C 33 rfl rfl h ?_
            refine i_aload_n (n := 64) C 34 rfl rfl rfl hl 0 rfl ?_
            refine fgM_Mo_133 (n := 67) C 35 rfl rfl h ?_
            refine i_iload_n (n := 68) C 36 rfl rfl rfl hl 2 rfl ?_
            obtain ⟨hb, hw⟩ := hw
            refine i_iast (n := 69) C 37 rfl rfl h (wM_arr 18 (by decide) rfl) hb (wM_sA 18 (by decide) rfl _ _) (fun H locs h => ?_)
            refine i_aload_n (n := 70) C 38 rfl rfl rfl hl 0 rfl ?_
            refine fgM_Mo_68 (n := 73) C 39 rfl rfl h ?_
            refine i_aload_n (n := 74) C 40 rfl rfl rfl hl 0 rfl ?_
            refine fgM_Mo_133 (n := 77) C 41 rfl rfl h ?_
            refine i_iconst (v := (0 : Int32)) (n := 78) C 42 rfl rfl rfl ?_
            obtain ⟨hb, hw⟩ := hw
            refine i_zast (n := 79) C 43 rfl rfl h (wM_arr 19 (by decide) rfl) hb (wM_sA 19 (by decide) rfl _ _) (fun H locs h => ?_)
            refine i_aload_n (n := 80) C 44 rfl rfl rfl hl 0 rfl ?_
            refine i_dup (n := 81) C 45 rfl rfl rfl ?_
            refine fgM_Mo_133 (n := 84) C 46 rfl rfl h ?_
            refine i_iconst (v := (1 : Int32)) (n := 85) C 47 rfl rfl rfl ?_
            refine i_iadd (n := 86) C 48 rfl rfl ?_
            refine fpM_Mo_133 (n := 89) C 49 rfl rfl h (fun H locs h => ?_)
            refine i_aload_n (n := 90) C 50 rfl rfl rfl hl 0 rfl ?_
            refine fgM_Mo_133 (n := 93) C 51 rfl rfl h ?_
            refine i_iconst (v := (1 : Int32)) (n := 94) C 52 rfl rfl rfl ?_
            refine i_isub (n := 95) C 53 rfl rfl ?_
            exact hret _ (va_up I 2 ((I 2) + (1 : Int32)), sA (sA (sA A 17 (I 2) a1) 18 (I 2) a2) 19 (I 2) (vp_nar .boolean (0 : Int32))) _ _ _ _ rfl hw h (C.dg (k := 54) rfl)
          · replace hw := hw.2 c9
            refine i_bipush (v := (-5 : Int32)) (n := 48) C 24 rfl rfl rfl ?_
            exact hret _ (I, A) _ _ _ _ rfl hw h (C.dg (k := 25) rfl)
      · replace hw := hw.2 c5
        refine i_bipush (v := (-4 : Int32)) (n := 29) C 14 rfl rfl rfl ?_
        exact hret _ (I, A) _ _ _ _ rfl hw h (C.dg (k := 15) rfl)
    · replace hw := hw.2 c4
      refine i_iconst (v := (-1 : Int32)) (n := 17) C 8 rfl rfl rfl ?_
      exact hret _ (I, A) _ _ _ _ rfl hw h (C.dg (k := 9) rfl)
end S182
