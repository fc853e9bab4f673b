theorem kV_Pw_319 {R : Room} {s : State} {args : Array Value} (hR : 1 + 1 ≤ R.frames ∧ 8 + (1 + 11) + 40 ≤ R.locals) (ht : ∀ w ∈ GW, w.before args s = true) : CallW R s args R_Pw R_Ne 319 y_Ne_keepHeads c_Ne_keepHeads 1 none (WL y_Ne_keepHeads c_Ne_keepHeads 1 none) { frames := 1, cells := 0, slots := 0, locals := 40 } 0 0 0 := cwV 0 ht (GW_v w_4_230 w_4_231 w_4_232 w_1_2 (GW_wl w_4_233)) rfl rfl rfl (by decide +kernel) hR
theorem kV_Pw_322 {R : Room} {s : State} {args : Array Value} (hR : 5 + 1 ≤ R.frames ∧ 8 + (3 + 11) + 116 ≤ R.locals) (ht : ∀ w ∈ GW, w.before args s = true) : CallW R s args R_Pw R_Pw 322 y_Pw_tryBursts c_Pw_tryBursts 3 none (WL y_Pw_tryBursts c_Pw_tryBursts 3 none) { frames := 5, cells := 0, slots := 0, locals := 116 } 0 0 1 := cwV 1 ht (GW_v w_4_234 w_4_236 w_0_19 w_1_1 (GW_wl w_4_237)) rfl rfl rfl (by decide +kernel) hR
theorem kV_Pw_326 {R : Room} {s : State} {args : Array Value} (hR : 1 + 1 ≤ R.frames ∧ 8 + (1 + 11) + 40 ≤ R.locals) (ht : ∀ w ∈ GW, w.before args s = true) : CallW R s args R_Pw R_Ne 326 y_Ne_takeBackHeads c_Ne_takeBackHeads 1 none (WL y_Ne_takeBackHeads c_Ne_takeBackHeads 1 none) { frames := 1, cells := 0, slots := 0, locals := 40 } 0 0 0 := cwV 0 ht (GW_v w_5_4 w_5_5 w_5_6 w_1_2 (GW_wl w_5_7)) rfl rfl rfl (by decide +kernel) hR
theorem kV_Pw_329 {R : Room} {s : State} {args : Array Value} (hR : 1 + 1 ≤ R.frames ∧ 8 + (3 + 11) + 24 ≤ R.locals) (ht : ∀ w ∈ GW, w.before args s = true) : CallW R s args R_Pw R_Pw 329 y_Pw_rivalAt c_Pw_rivalAt 3 (some .int) (WL y_Pw_rivalAt c_Pw_rivalAt 3 (some .int)) { frames := 1, cells := 0, slots := 0, locals := 24 } 0 0 1 := cwV 1 ht (GW_v w_5_8 w_5_10 w_0_21 w_1_1 (GW_wl w_5_11)) rfl rfl rfl (by decide +kernel) hR
section S153
variable {p : Program} {l : Launch} {e : Env} {R : Room} {s : State} {m : MethodId} {args : Array Value} {below : List Frame} {meth : Method} {c : Code} {H : Heap} {locs : List Loc} {cells slots : Nat} {Q : State → Prop}
variable {cc : ByteArray} {pc n nL : Nat} {ls : Array Slot} {rest : List Value} {D : va_G} {cy : Nat → ClassId} {Z : Nat → Prop} {ad : Nat → Nat} {tb : List (Nat × Instr × Nat)} {lv : List (Nat × Value)}
set_option maxHeartbeats 4000000 in
set_option maxRecDepth 100000 in
theorem m_Pw_seek {l : Launch} {D : va_G} {cy : Nat → ClassId} {ad : Nat → Nat} {I : Nat → Int32} {A : Nat → Nat → Int32} {T : Nat → Option Nat} {L : List Nat} {K : Nat → Nat} {F : Nat → Nat → Int32} {a1 : Int32} {a2 : Int32} {a3 : Int32} {P : Int32 → ((Nat → Nat → Int32) × (Nat → Option Nat) × (List Nat) × (Nat → Nat) × (Nat → Nat → Int32)) → Prop} (hw : g_Pw_seek I A T L K F a1 a2 a3 P) : ∀ sz, Met l y_Pw_seek (WL y_Pw_seek c_Pw_seek 5 (some .int)) { frames := 6, cells := 1, slots := 3, locals := 138 } (va_Pc [.ref (ad 0), .int a1, .int a2, .int a3] (PreW D cy (wC cy ad I A T L K F) sz)) (va_Qi P (fun u t => PostW D (va_A (wC cy ad I A T L K F) sz) ((fun (u : (Nat → Nat → Int32) × (Nat → Option Nat) × (List Nat) × (Nat → Nat) × (Nat → Nat → Int32)) => wC cy ad I u.1 u.2.1 u.2.2.1 u.2.2.2.1 u.2.2.2.2) u) t) (va_A (wC cy ad I A T L K F) sz)) 1 3 (va_A (wC cy ad I A T L K F) sz) := by
  refine met_i (wf := fun (u : (Nat → Nat → Int32) × (Nat → Option Nat) × (List Nat) × (Nat → Nat) × (Nat → Nat → Int32)) => wC cy ad I u.1 u.2.1 u.2.2.1 u.2.2.2.1 u.2.2.2.2) R_Pw .int db_Pw_seek (by decide) rfl rfl (Nat.le_of_ble_eq_true rfl) ?_
  intro p e s m below meth c Z Q ls C h hl hret
  have hl : lv_has ls 5 [(0, .ref (ad 0)), (1, .int a1), (2, .int a2), (3, .int a3)] := hl
  refine i_iload_n (n := 1) C 0 rfl rfl rfl hl 1 rfl ?_
  refine i_iconst (v := (1 : Int32)) (n := 2) C 1 rfl rfl rfl ?_
  refine i_sipush (v := (1000 : Int32)) (n := 5) C 2 rfl rfl rfl ?_
  refine i_callSp (rest := []) (n := 8) C 3 rfl rfl hl h (kS_Pw_69 ⟨by decide, by decide⟩) (m_Pw_isWithin hw) rfl rfl (Nat.le_of_ble_eq_true rfl) ⟨by decide, by decide⟩ (fun r1 hw => ?_)
  refine i_if_eq (tgt := 20) (n := 11) C 4 rfl rfl rfl (fun c2 => ?_) (fun c2 => ?_)
  · replace hw := hw.1 c2
    refine i_bipush (v := (-2 : Int32)) (n := 22) C 10 rfl rfl rfl ?_
    refine W.widen (k := 1) (n := 3) (by decide) (by decide) ?_
    exact hret _ (A, T, L, K, F) _ _ _ _ rfl hw h (C.dg (k := 11) rfl)
  · replace hw := hw.2 c2
    refine i_iload_n (n := 12) C 5 rfl rfl rfl hl 3 rfl ?_
    refine i_iconst (v := (0 : Int32)) (n := 13) C 6 rfl rfl rfl ?_
    refine i_iconst (v := (1 : Int32)) (n := 14) C 7 rfl rfl rfl ?_
    refine i_callSp (rest := []) (n := 17) C 8 rfl rfl hl h (kS_Pw_69 ⟨by decide, by decide⟩) (m_Pw_isWithin hw) rfl rfl (Nat.le_of_ble_eq_true rfl) ⟨by decide, by decide⟩ (fun r3 hw => ?_)
    refine i_if_ne (tgt := 23) (n := 20) C 9 rfl rfl rfl (fun c4 => ?_) (fun c4 => ?_)
    · replace hw := hw.1 c4
      refine i_aload_n (n := 24) C 12 rfl rfl rfl hl 0 rfl ?_
      refine fgC_Pw_10 (n := 27) C 13 rfl rfl h ?_
      refine i_callVv (rest := []) (ci := 5) (qc := (R_Ne, T_Ne, 17)) (n := 30) C 14 rfl rfl hl h rfl (wC_get (h := 1) (by decide)) (kV_Pw_319 ⟨by decide, by decide⟩) (m_Ne_keepHeads hw) rfl rfl (Nat.le_of_ble_eq_true rfl) ⟨by decide, by decide⟩ (fun u5 H locs hw h => ?_)
      refine i_aload_n (n := 31) C 15 rfl rfl rfl hl 0 rfl ?_
      refine nw_Pw_160 (n := 34) C 16 rfl rfl h (by decide) (by decide) (fun q6 hfr9 H h => ?_)
      replace hw := hw q6 hfr9
      have hq7 : q6 ∈ L ++ [q6] := List.mem_append_right _ List.mem_cons_self
      have hk8 : (va_up K q6 3) q6 = 3 := if_pos rfl
      refine i_dup (n := 35) C 17 rfl rfl rfl ?_
      refine i_iload_n (n := 36) C 18 rfl rfl rfl hl 1 rfl ?_
      refine i_iconst (v := (1 : Int32)) (n := 37) C 19 rfl rfl rfl ?_
      refine i_callIv (rest := [.ref q6, .ref (ad 0)]) (n := 40) C 20 rfl rfl hl h (kI_Pw_162 ⟨by decide, by decide⟩) (m_Le_init_Le hq7 hk8 hw) rfl rfl (Nat.le_of_ble_eq_true rfl) ⟨by decide, by decide⟩ (fun u10 H locs hw h => ?_)
      refine i_callVv (rest := []) (ci := 10) (qc := (R_Pw, T_Pw, 16)) (n := 43) C 21 rfl rfl hl h rfl (wC_get (h := 0) (by decide)) (kV_Pw_322 ⟨by decide, by decide⟩) (m_Pw_tryBursts hw) rfl rfl (Nat.le_of_ble_eq_true rfl) ⟨by decide, by decide⟩ (fun u11 H locs hw h => ?_)
      refine i_aload_n (n := 44) C 22 rfl rfl rfl hl 0 rfl ?_
      refine fgC_Pw_10 (n := 47) C 23 rfl rfl h ?_
      refine i_callVv (rest := []) (ci := 5) (qc := (R_Ne, T_Ne, 17)) (n := 50) C 24 rfl rfl hl h rfl (wC_get (h := 1) (by decide)) (kV_Pw_326 ⟨by decide, by decide⟩) (m_Ne_takeBackHeads hw) rfl rfl (Nat.le_of_ble_eq_true rfl) ⟨by decide, by decide⟩ (fun u12 H locs hw h => ?_)
      refine i_aload_n (n := 51) C 25 rfl rfl rfl hl 0 rfl ?_
      refine i_iload_n (n := 52) C 26 rfl rfl rfl hl 2 rfl ?_
      refine i_callVp (rest := []) (ci := 10) (qc := (R_Pw, T_Pw, 16)) (n := 55) C 27 rfl rfl hl h rfl (wC_get (h := 0) (by decide)) (kV_Pw_329 ⟨by decide, by decide⟩) (m_Pw_rivalAt hw) rfl rfl (Nat.le_of_ble_eq_true rfl) ⟨by decide, by decide⟩ (fun r13 hw => ?_)
      refine i_istore (lv' := [(4, .int r13), (0, .ref (ad 0)), (1, .int a1), (2, .int a2), (3, .int a3)]) (n := 57) C 28 rfl rfl hl (by decide) rfl (fun ls hl => ?_)
      refine i_iload (n := 59) C 29 rfl rfl hl 0 rfl ?_
      refine i_bipush (v := (-6 : Int32)) (n := 61) C 30 rfl rfl rfl ?_
      refine i_icmp_ne (tgt := 67) (n := 64) C 31 rfl rfl rfl (fun c14 => ?_) (fun c14 => ?_)
      · replace hw := hw.1 c14
        refine i_iload_n (n := 68) C 34 rfl rfl rfl hl 4 rfl ?_
        refine i_if_ne (tgt := 76) (n := 71) C 35 rfl rfl rfl (fun c15 => ?_) (fun c15 => ?_)
        · replace hw := hw.1 c15
          refine i_aload_n (n := 77) C 38 rfl rfl rfl hl 1 rfl ?_
          refine fgC_Pw_60 (n := 80) C 39 rfl rfl h ?_
          refine i_iload (n := 82) C 40 rfl rfl hl 0 rfl ?_
          obtain ⟨hb, hw⟩ := hw
          refine i_iald (n := 83) C 41 rfl rfl h (wC_arr 6 (by decide) rfl) hb ?_
          exact hret _ (u12, u11.2, L ++ [q6], va_up K q6 3, u10) _ _ _ _ rfl hw h (C.dg (k := 42) rfl)
        · replace hw := hw.2 c15
          refine i_iload (n := 73) C 36 rfl rfl hl 0 rfl ?_
          refine i_goto (tgt := 83) C 37 rfl rfl ?_
          exact hret _ (u12, u11.2, L ++ [q6], va_up K q6 3, u10) _ _ _ _ rfl hw h (C.dg (k := 42) rfl)
      · replace hw := hw.2 c14
        refine i_bipush (v := (-6 : Int32)) (n := 66) C 32 rfl rfl rfl ?_
        exact hret _ (u12, u11.2, L ++ [q6], va_up K q6 3, u10) _ _ _ _ rfl hw h (C.dg (k := 33) rfl)
    · replace hw := hw.2 c4
      refine i_bipush (v := (-2 : Int32)) (n := 22) C 10 rfl rfl rfl ?_
      refine W.widen (k := 1) (n := 3) (by decide) (by decide) ?_
      exact hret _ (A, T, L, K, F) _ _ _ _ rfl hw h (C.dg (k := 11) rfl)
end S153
section S154
variable {p : Program} {l : Launch} {e : Env} {R : Room} {s : State} {m : MethodId} {args : Array Value} {below : List Frame} {meth : Method} {c : Code} {H : Heap} {locs : List Loc} {cells slots : Nat} {Q : State → Prop}
variable {cc : ByteArray} {pc n nL : Nat} {ls : Array Slot} {rest : List Value} {D : va_G} {cy : Nat → ClassId} {Z : Nat → Prop} {ad : Nat → Nat} {tb : List (Nat × Instr × Nat)} {lv : List (Nat × Value)}
set_option maxHeartbeats 4000000 in
set_option maxRecDepth 100000 in
theorem m_Pl_addBlock {l : Launch} {D : va_G} {cy : Nat → ClassId} {ad : Nat → Nat} {I : Nat → Int32} {A : Nat → Nat → Int32} {T : Nat → Option Nat} {L : List Nat} {K : Nat → Nat} {F : Nat → Nat → Int32} {a1 : Int32} {P : Int32 → ((Nat → Int32) × (Nat → Nat → Int32)) → Prop} (hw : g_Pl_addBlock I A a1 P) : ∀ sz, Met l y_Pl_addBlock (WL y_Pl_addBlock c_Pl_addBlock 2 (some .int)) { frames := 0, cells := 0, slots := 0, locals := 0 } (va_Pc [.ref (ad 4), .int a1] (PreW D cy (wC cy ad I A T L K F) sz)) (va_Qi P (fun u t => PostW D (va_A (wC cy ad I A T L K F) sz) ((fun (u : (Nat → Int32) × (Nat → Nat → Int32)) => wC cy ad u.1 u.2 T L K F) u) t) (va_A (wC cy ad I A T L K F) sz)) 0 0 (va_A (wC cy ad I A T L K F) sz) := by
  refine met_i (wf := fun (u : (Nat → Int32) × (Nat → Nat → Int32)) => wC cy ad u.1 u.2 T L K F) R_Pl .int db_Pl_addBlock (by decide) rfl rfl (Nat.le_of_ble_eq_true rfl) ?_
  intro p e s m below meth c Z Q ls C h hl hret
  have hl : lv_has ls 2 [(0, .ref (ad 4)), (1, .int a1)] := hl
  refine i_aload_n (n := 1) C 0 rfl rfl rfl hl 0 rfl ?_
  refine fgC_Pl_30 (n := 4) C 1 rfl rfl h ?_
  refine i_bipush (v := (8 : Int32)) (n := 6) C 2 rfl rfl rfl ?_
  refine i_icmp_lt (tgt := 12) (n := 9) C 3 rfl rfl rfl (fun c1 => ?_) (fun c1 => ?_)
  · replace hw := hw.1 c1
    refine i_aload_n (n := 13) C 6 rfl rfl rfl hl 0 rfl ?_
    refine fgC_Pl_11 (n := 16) C 7 rfl rfl h ?_
    refine i_aload_n (n := 17) C 8 rfl rfl rfl hl 0 rfl ?_
    refine fgC_Pl_30 (n := 20) C 9 rfl rfl h ?_
    refine i_iload_n (n := 21) C 10 rfl rfl rfl hl 1 rfl ?_
    obtain ⟨hb, hw⟩ := hw
    refine i_iast (n := 22) C 11 rfl rfl h (wC_arr 25 (by decide) rfl) hb (wC_sA 25 (by decide) rfl _ _) (fun H locs h => ?_)
    refine i_aload_n (n := 23) C 12 rfl rfl rfl hl 0 rfl ?_
    refine i_dup (n := 24) C 13 rfl rfl rfl ?_
    refine fgC_Pl_30 (n := 27) C 14 rfl rfl h ?_
    refine i_iconst (v := (1 : Int32)) (n := 28) C 15 rfl rfl rfl ?_
    refine i_iadd (n := 29) C 16 rfl rfl ?_
    refine fpC_Pl_30 (n := 32) C 17 rfl rfl h (fun H locs h => ?_)
    refine i_aload_n (n := 33) C 18 rfl rfl rfl hl 0 rfl ?_
    refine i_iconst (v := (0 : Int32)) (n := 34) C 19 rfl rfl rfl ?_
    refine fpC_Pl_34 (n := 37) C 20 rfl rfl h (by first | exact Or.inl rfl | exact Or.inr rfl) (fun H locs h => ?_)
    refine i_aload_n (n := 38) C 21 rfl rfl rfl hl 0 rfl ?_
    refine fgC_Pl_30 (n := 41) C 22 rfl rfl h ?_
    exact hret _ (va_up (va_up I 14 ((I 14) + (1 : Int32))) 15 (0 : Int32), sA A 25 (I 14) a1) _ _ _ _ rfl hw h (C.dg (k := 23) rfl)
  · replace hw := hw.2 c1
    refine i_bipush (v := (-4 : Int32)) (n := 11) C 4 rfl rfl rfl ?_
    exact hret _ (I, A) _ _ _ _ rfl hw h (C.dg (k := 5) rfl)
end S154
theorem kV_Pw_332 {R : Room} {s : State} {args : Array Value} (hR : 0 + 1 ≤ R.frames ∧ 8 + (2 + 11) + 0 ≤ R.locals) (ht : ∀ w ∈ GW, w.before args s = true) : CallW R s args R_Pw R_Pl 332 y_Pl_addBlock c_Pl_addBlock 2 (some .int) (WL y_Pl_addBlock c_Pl_addBlock 2 (some .int)) { frames := 0, cells := 0, slots := 0, locals := 0 } 0 0 1 := cwV 1 ht (GW_v w_5_20 w_5_21 w_5_22 w_1_5 (GW_wl w_5_23)) rfl rfl rfl (by decide +kernel) hR
section S155
variable {p : Program} {l : Launch} {e : Env} {R : Room} {s : State} {m : MethodId} {args : Array Value} {below : List Frame} {meth : Method} {c : Code} {H : Heap} {locs : List Loc} {cells slots : Nat} {Q : State → Prop}
variable {cc : ByteArray} {pc n nL : Nat} {ls : Array Slot} {rest : List Value} {D : va_G} {cy : Nat → ClassId} {Z : Nat → Prop} {ad : Nat → Nat} {tb : List (Nat × Instr × Nat)} {lv : List (Nat × Value)}
set_option maxHeartbeats 4000000 in
set_option maxRecDepth 100000 in
theorem m_Pw_block {l : Launch} {D : va_G} {cy : Nat → ClassId} {ad : Nat → Nat} {I : Nat → Int32} {A : Nat → Nat → Int32} {T : Nat → Option Nat} {L : List Nat} {K : Nat → Nat} {F : Nat → Nat → Int32} {a1 : Int32} {P : Int32 → ((Nat → Int32) × (Nat → Nat → Int32)) → Prop} (hw : g_Pw_block I A a1 P) : ∀ sz, Met l y_Pw_block (WL y_Pw_block c_Pw_block 2 (some .int)) { frames := 1, cells := 0, slots := 0, locals := 22 } (va_Pc [.ref (ad 0), .int a1] (PreW D cy (wC cy ad I A T L K F) sz)) (va_Qi P (fun u t => PostW D (va_A (wC cy ad I A T L K F) sz) ((fun (u : (Nat → Int32) × (Nat → Nat → Int32)) => wC cy ad u.1 u.2 T L K F) u) t) (va_A (wC cy ad I A T L K F) sz)) 0 0 (va_A (wC cy ad I A T L K F) sz) := by
  refine met_i (wf := fun (u : (Nat → Int32) × (Nat → Nat → Int32)) => wC cy ad u.1 u.2 T L K F) R_Pw .int db_Pw_block (by decide) rfl rfl (Nat.le_of_ble_eq_true rfl) ?_
  intro p e s m below meth c Z Q ls C h hl hret
  have hl : lv_has ls 2 [(0, .ref (ad 0)), (1, .int a1)] := hl
  refine i_iload_n (n := 1) C 0 rfl rfl rfl hl 1 rfl ?_
  refine i_iconst (v := (0 : Int32)) (n := 2) C 1 rfl rfl rfl ?_
  refine i_bipush (v := (100 : Int32)) (n := 4) C 2 rfl rfl rfl ?_
  refine i_callSp (rest := []) (n := 7) C 3 rfl rfl hl h (kS_Pw_69 ⟨by decide, by decide⟩) (m_Pw_isWithin hw) rfl rfl (Nat.le_of_ble_eq_true rfl) ⟨by decide, by decide⟩ (fun r1 hw => ?_)
  refine i_if_eq (tgt := 21) (n := 10) C 4 rfl rfl rfl (fun c2 => ?_) (fun c2 => ?_)
  · replace hw := hw.1 c2
    refine i_bipush (v := (-2 : Int32)) (n := 23) C 10 rfl rfl rfl ?_
    exact hret _ (I, A) _ _ _ _ rfl hw h (C.dg (k := 11) rfl)
  · replace hw := hw.2 c2
    refine i_aload_n (n := 11) C 5 rfl rfl rfl hl 0 rfl ?_
    refine fgC_Pw_31 (n := 14) C 6 rfl rfl h ?_
    refine i_iload_n (n := 15) C 7 rfl rfl rfl hl 1 rfl ?_
    refine i_callVi (rest := []) (ci := 8) (qc := (R_Pl, T_Pl, 8)) (n := 18) C 8 rfl rfl hl h rfl (wC_get (h := 4) (by decide)) (kV_Pw_332 ⟨by decide, by decide⟩) (m_Pl_addBlock hw) rfl rfl (Nat.le_of_ble_eq_true rfl) ⟨by decide, by decide⟩ (fun r3 u4 H locs hw h => ?_)
    refine i_goto (tgt := 23) C 9 rfl rfl ?_
    exact hret _ (u4.1, u4.2) _ _ _ _ rfl hw h (C.dg (k := 11) rfl)
end S155
section S156
variable {p : Program} {l : Launch} {e : Env} {R : Room} {s : State} {m : MethodId} {args : Array Value} {below : List Frame} {meth : Method} {c : Code} {H : Heap} {locs : List Loc} {cells slots : Nat} {Q : State → Prop}
variable {cc : ByteArray} {pc n nL : Nat} {ls : Array Slot} {rest : List Value} {D : va_G} {cy : Nat → ClassId} {Z : Nat → Prop} {ad : Nat → Nat} {tb : List (Nat × Instr × Nat)} {lv : List (Nat × Value)}
set_option maxHeartbeats 4000000 in
set_option maxRecDepth 100000 in
theorem m_Pl_dropBlocks {l : Launch} {D : va_G} {cy : Nat → ClassId} {ad : Nat → Nat} {I : Nat → Int32} {A : Nat → Nat → Int32} {T : Nat → Option Nat} {L : List Nat} {K : Nat → Nat} {F : Nat → Nat → Int32}  {P : Int32 → ((Nat → Int32)) → Prop} (hw : g_Pl_dropBlocks I P) : ∀ sz, Met l y_Pl_dropBlocks (WL y_Pl_dropBlocks c_Pl_dropBlocks 2 (some .int)) { frames := 0, cells := 0, slots := 0, locals := 0 } (va_Pc [.ref (ad 4)] (PreW D cy (wC cy ad I A T L K F) sz)) (va_Qi P (fun u t => PostW D (va_A (wC cy ad I A T L K F) sz) ((fun (u : (Nat → Int32)) => wC cy ad u A T L K F) u) t) (va_A (wC cy ad I A T L K F) sz)) 0 0 (va_A (wC cy ad I A T L K F) sz) := by
  refine met_i (wf := fun (u : (Nat → Int32)) => wC cy ad u A T L K F) R_Pl .int db_Pl_dropBlocks (by decide) rfl rfl (Nat.le_of_ble_eq_true rfl) ?_
  intro p e s m below meth c Z Q ls C h hl hret
  have hl : lv_has ls 2 [(0, .ref (ad 4))] := hl
  refine i_aload_n (n := 1) C 0 rfl rfl rfl hl 0 rfl ?_
  refine fgC_Pl_30 (n := 4) C 1 rfl rfl h ?_
  refine lv_topi (fun y1 ey1 => ?_)
  replace hw := hw y1 ey1
  refine i_istore_n (lv' := [(1, .int y1), (0, .ref (ad 4))]) (n := 5) C 2 rfl rfl rfl hl (by decide) rfl (fun ls hl => ?_)
  refine i_aload_n (n := 6) C 3 rfl rfl rfl hl 1 rfl ?_
  refine i_iconst (v := (0 : Int32)) (n := 7) C 4 rfl rfl rfl ?_
  refine fpC_Pl_30 (n := 10) C 5 rfl rfl h (fun H locs h => ?_)
  refine i_aload_n (n := 11) C 6 rfl rfl rfl hl 1 rfl ?_
  refine i_iconst (v := (0 : Int32)) (n := 12) C 7 rfl rfl rfl ?_
  refine fpC_Pl_34 (n := 15) C 8 rfl rfl h (by first | exact Or.inl rfl | exact Or.inr rfl) (fun H locs h => ?_)
  refine i_iload_n (n := 16) C 9 rfl rfl rfl hl 0 rfl ?_
  exact hret _ (va_up (va_up I 14 (0 : Int32)) 15 (0 : Int32)) _ _ _ _ rfl hw h (C.dg (k := 10) rfl)
end S156
theorem kV_Pw_335 {R : Room} {s : State} {args : Array Value} (hR : 0 + 1 ≤ R.frames ∧ 8 + (2 + 11) + 0 ≤ R.locals) (ht : ∀ w ∈ GW, w.before args s = true) : CallW R s args R_Pw R_Pl 335 y_Pl_dropBlocks c_Pl_dropBlocks 2 (some .int) (WL y_Pl_dropBlocks c_Pl_dropBlocks 2 (some .int)) { frames := 0, cells := 0, slots := 0, locals := 0 } 0 0 0 := cwV 0 ht (GW_v w_5_28 w_5_29 w_5_30 w_1_5 (GW_wl w_5_31)) rfl rfl rfl (by decide +kernel) hR
section S157
variable {p : Program} {l : Launch} {e : Env} {R : Room} {s : State} {m : MethodId} {args : Array Value} {below : List Frame} {meth : Method} {c : Code} {H : Heap} {locs : List Loc} {cells slots : Nat} {Q : State → Prop}
variable {cc : ByteArray} {pc n nL : Nat} {ls : Array Slot} {rest : List Value} {D : va_G} {cy : Nat → ClassId} {Z : Nat → Prop} {ad : Nat → Nat} {tb : List (Nat × Instr × Nat)} {lv : List (Nat × Value)}
set_option maxHeartbeats 4000000 in
set_option maxRecDepth 100000 in
theorem m_Pw_rest {l : Launch} {D : va_G} {cy : Nat → ClassId} {ad : Nat → Nat} {I : Nat → Int32} {A : Nat → Nat → Int32} {T : Nat → Option Nat} {L : List Nat} {K : Nat → Nat} {F : Nat → Nat → Int32}  {P : Int32 → ((Nat → Int32)) → Prop} (hw : g_Pw_rest I P) : ∀ sz, Met l y_Pw_rest (WL y_Pw_rest c_Pw_rest 1 (some .int)) { frames := 1, cells := 0, slots := 0, locals := 21 } (va_Pc [.ref (ad 0)] (PreW D cy (wC cy ad I A T L K F) sz)) (va_Qi P (fun u t => PostW D (va_A (wC cy ad I A T L K F) sz) ((fun (u : (Nat → Int32)) => wC cy ad u A T L K F) u) t) (va_A (wC cy ad I A T L K F) sz)) 0 0 (va_A (wC cy ad I A T L K F) sz) := by
  refine met_i (wf := fun (u : (Nat → Int32)) => wC cy ad u A T L K F) R_Pw .int db_Pw_rest (by decide) rfl rfl (Nat.le_of_ble_eq_true rfl) ?_
  intro p e s m below meth c Z Q ls C h hl hret
  have hl : lv_has ls 1 [(0, .ref (ad 0))] := hl
  refine i_aload_n (n := 1) C 0 rfl rfl rfl hl 0 rfl ?_
  refine fgC_Pw_31 (n := 4) C 1 rfl rfl h ?_
  refine i_callVi (rest := []) (ci := 8) (qc := (R_Pl, T_Pl, 8)) (n := 7) C 2 rfl rfl hl h rfl (wC_get (h := 4) (by decide)) (kV_Pw_335 ⟨by decide, by decide⟩) (m_Pl_dropBlocks hw) rfl rfl (Nat.le_of_ble_eq_true rfl) ⟨by decide, by decide⟩ (fun r1 u2 H locs hw h => ?_)
  exact hret _ u2 _ _ _ _ rfl hw h (C.dg (k := 3) rfl)
end S157
section S158
variable {p : Program} {l : Launch} {e : Env} {R : Room} {s : State} {m : MethodId} {args : Array Value} {below : List Frame} {meth : Method} {c : Code} {H : Heap} {locs : List Loc} {cells slots : Nat} {Q : State → Prop}
variable {cc : ByteArray} {pc n nL : Nat} {ls : Array Slot} {rest : List Value} {D : va_G} {cy : Nat → ClassId} {Z : Nat → Prop} {ad : Nat → Nat} {tb : List (Nat × Instr × Nat)} {lv : List (Nat × Value)}
set_option maxHeartbeats 4000000 in
set_option maxRecDepth 100000 in
theorem m_Pl_setHouse {l : Launch} {D : va_G} {cy : Nat → ClassId} {ad : Nat → Nat} {I : Nat → Int32} {A : Nat → Nat → Int32} {T : Nat → Option Nat} {L : List Nat} {K : Nat → Nat} {F : Nat → Nat → Int32} {a1 : Int32} {a2 : Int32} {a3 : Int32} {P : ((Nat → Int32) × (Nat → Nat → Int32)) → Prop} (hw : g_Pl_setHouse I A a1 a2 a3 P) : ∀ sz, Met l y_Pl_setHouse (WL y_Pl_setHouse c_Pl_setHouse 4 none) { frames := 0, cells := 0, slots := 0, locals := 0 } (va_Pc [.ref (ad 4), .int a1, .int a2, .int a3] (PreW D cy (wC cy ad I A T L K F) sz)) (va_Qv P (fun u t => PostW D (va_A (wC cy ad I A T L K F) sz) ((fun (u : (Nat → Int32) × (Nat → Nat → Int32)) => wC cy ad u.1 u.2 T L K F) u) t) (va_A (wC cy ad I A T L K F) sz)) 0 0 (va_A (wC cy ad I A T L K F) sz) := by
  refine met_v (wf := fun (u : (Nat → Int32) × (Nat → Nat → Int32)) => wC cy ad u.1 u.2 T L K F) R_Pl db_Pl_setHouse (by decide) rfl (Nat.le_of_ble_eq_true rfl) ?_
  intro p e s m below meth c Z Q ls hin C h hl hret
  have hl : lv_has ls 4 [(0, .ref (ad 4)), (1, .int a1), (2, .int a2), (3, .int a3)] := hl
  refine i_aload_n (n := 1) C 0 rfl rfl rfl hl 0 rfl ?_
  refine fgC_Pl_15 (n := 4) C 1 rfl rfl h ?_
  refine i_iload_n (n := 5) C 2 rfl rfl rfl hl 1 rfl ?_
  refine i_iload_n (n := 6) C 3 rfl rfl rfl hl 2 rfl ?_
  obtain ⟨hb, hw⟩ := hw
  refine i_iast (n := 7) C 4 rfl rfl h (wC_arr 26 (by decide) rfl) hb (wC_sA 26 (by decide) rfl _ _) (fun H locs h => ?_)
  refine i_aload_n (n := 8) C 5 rfl rfl rfl hl 0 rfl ?_
  refine fgC_Pl_18 (n := 11) C 6 rfl rfl h ?_
  refine i_iload_n (n := 12) C 7 rfl rfl rfl hl 1 rfl ?_
  refine i_iload_n (n := 13) C 8 rfl rfl rfl hl 3 rfl ?_
  obtain ⟨hb, hw⟩ := hw
  refine i_iast (n := 14) C 9 rfl rfl h (wC_arr 27 (by decide) rfl) hb (wC_sA 27 (by decide) rfl _ _) (fun H locs h => ?_)
  refine i_aload_n (n := 15) C 10 rfl rfl rfl hl 0 rfl ?_
  refine i_iconst (v := (0 : Int32)) (n := 16) C 11 rfl rfl rfl ?_
  refine fpC_Pl_34 (n := 19) C 12 rfl rfl h (by first | exact Or.inl rfl | exact Or.inr rfl) (fun H locs h => ?_)
  exact hret (va_up I 15 (0 : Int32), sA (sA A 26 a1 a2) 27 a1 a3) _ _ _ _ hw h (C.dg (k := 13) rfl)
end S158
theorem kV_Pw_338 {R : Room} {s : State} {args : Array Value} (hR : 0 + 1 ≤ R.frames ∧ 8 + (4 + 11) + 0 ≤ R.locals) (ht : ∀ w ∈ GW, w.before args s = true) : CallW R s args R_Pw R_Pl 338 y_Pl_setHouse c_Pl_setHouse 4 none (WL y_Pl_setHouse c_Pl_setHouse 4 none) { frames := 0, cells := 0, slots := 0, locals := 0 } 0 0 3 := cwV 3 ht (GW_v w_5_36 w_5_37 w_5_38 w_1_5 (GW_wl w_5_39)) rfl rfl rfl (by decide +kernel) hR
section S159
variable {p : Program} {l : Launch} {e : Env} {R : Room} {s : State} {m : MethodId} {args : Array Value} {below : List Frame} {meth : Method} {c : Code} {H : Heap} {locs : List Loc} {cells slots : Nat} {Q : State → Prop}
variable {cc : ByteArray} {pc n nL : Nat} {ls : Array Slot} {rest : List Value} {D : va_G} {cy : Nat → ClassId} {Z : Nat → Prop} {ad : Nat → Nat} {tb : List (Nat × Instr × Nat)} {lv : List (Nat × Value)}
set_option maxHeartbeats 4000000 in
set_option maxRecDepth 100000 in
theorem m_Pw_plan {l : Launch} {D : va_G} {cy : Nat → ClassId} {ad : Nat → Nat} {I : Nat → Int32} {A : Nat → Nat → Int32} {T : Nat → Option Nat} {L : List Nat} {K : Nat → Nat} {F : Nat → Nat → Int32} {a1 : Int32} {a2 : Int32} {a3 : Int32} {P : Int32 → ((Nat → Int32) × (Nat → Nat → Int32)) → Prop} (hw : g_Pw_plan I A a1 a2 a3 P) : ∀ sz, Met l y_Pw_plan (WL y_Pw_plan c_Pw_plan 4 (some .int)) { frames := 1, cells := 0, slots := 0, locals := 23 } (va_Pc [.ref (ad 0), .int a1, .int a2, .int a3] (PreW D cy (wC cy ad I A T L K F) sz)) (va_Qi P (fun u t => PostW D (va_A (wC cy ad I A T L K F) sz) ((fun (u : (Nat → Int32) × (Nat → Nat → Int32)) => wC cy ad u.1 u.2 T L K F) u) t) (va_A (wC cy ad I A T L K F) sz)) 0 0 (va_A (wC cy ad I A T L K F) sz) := by
  refine met_i (wf := fun (u : (Nat → Int32) × (Nat → Nat → Int32)) => wC cy ad u.1 u.2 T L K F) R_Pw .int db_Pw_plan (by decide) rfl rfl (Nat.le_of_ble_eq_true rfl) ?_
  intro p e s m below meth c Z Q ls C h hl hret
  have hl : lv_has ls 4 [(0, .ref (ad 0)), (1, .int a1), (2, .int a2), (3, .int a3)] := hl
  refine i_iload_n (n := 1) C 0 rfl rfl rfl hl 1 rfl ?_
  refine i_iconst (v := (0 : Int32)) (n := 2) C 1 rfl rfl rfl ?_
  refine i_iconst (v := (2 : Int32)) (n := 3) C 2 rfl rfl rfl ?_
  refine i_callSp (rest := []) (n := 6) C 3 rfl rfl hl h (kS_Pw_69 ⟨by decide, by decide⟩) (m_Pw_isWithin hw) rfl rfl (Nat.le_of_ble_eq_true rfl) ⟨by decide, by decide⟩ (fun r1 hw => ?_)
  refine i_if_ne (tgt := 11) (n := 9) C 4 rfl rfl rfl (fun c2 => ?_) (fun c2 => ?_)
  · replace hw := hw.1 c2
    refine i_iload_n (n := 12) C 7 rfl rfl rfl hl 2 rfl ?_
    refine i_iconst (v := (0 : Int32)) (n := 13) C 8 rfl rfl rfl ?_
    refine i_bipush (v := (100 : Int32)) (n := 15) C 9 rfl rfl rfl ?_
    refine i_callSp (rest := []) (n := 18) C 10 rfl rfl hl h (kS_Pw_69 ⟨by decide, by decide⟩) (m_Pw_isWithin hw) rfl rfl (Nat.le_of_ble_eq_true rfl) ⟨by decide, by decide⟩ (fun r3 hw => ?_)
    refine i_if_eq (tgt := 31) (n := 21) C 11 rfl rfl rfl (fun c4 => ?_) (fun c4 => ?_)
    · replace hw := hw.1 c4
      refine i_bipush (v := (-2 : Int32)) (n := 33) C 17 rfl rfl rfl ?_
      exact hret _ (I, A) _ _ _ _ rfl hw h (C.dg (k := 18) rfl)
    · replace hw := hw.2 c4
      refine i_iload_n (n := 22) C 12 rfl rfl rfl hl 3 rfl ?_
      refine i_iconst (v := (0 : Int32)) (n := 23) C 13 rfl rfl rfl ?_
      refine i_bipush (v := (100 : Int32)) (n := 25) C 14 rfl rfl rfl ?_
      refine i_callSp (rest := []) (n := 28) C 15 rfl rfl hl h (kS_Pw_69 ⟨by decide, by decide⟩) (m_Pw_isWithin hw) rfl rfl (Nat.le_of_ble_eq_true rfl) ⟨by decide, by decide⟩ (fun r5 hw => ?_)
      refine i_if_ne (tgt := 34) (n := 31) C 16 rfl rfl rfl (fun c6 => ?_) (fun c6 => ?_)
      · replace hw := hw.1 c6
        refine i_aload_n (n := 35) C 19 rfl rfl rfl hl 0 rfl ?_
        refine fgC_Pw_31 (n := 38) C 20 rfl rfl h ?_
        refine i_iload_n (n := 39) C 21 rfl rfl rfl hl 1 rfl ?_
        refine i_iload_n (n := 40) C 22 rfl rfl rfl hl 2 rfl ?_
        refine i_iload_n (n := 41) C 23 rfl rfl rfl hl 3 rfl ?_
        refine i_callVv (rest := []) (ci := 8) (qc := (R_Pl, T_Pl, 8)) (n := 44) C 24 rfl rfl hl h rfl (wC_get (h := 4) (by decide)) (kV_Pw_338 ⟨by decide, by decide⟩) (m_Pl_setHouse hw) rfl rfl (Nat.le_of_ble_eq_true rfl) ⟨by decide, by decide⟩ (fun u7 H locs hw h => ?_)
        refine i_iconst (v := (1 : Int32)) (n := 45) C 25 rfl rfl rfl ?_
        exact hret _ (u7.1, u7.2) _ _ _ _ rfl hw h (C.dg (k := 26) rfl)
      · replace hw := hw.2 c6
        refine i_bipush (v := (-2 : Int32)) (n := 33) C 17 rfl rfl rfl ?_
        exact hret _ (I, A) _ _ _ _ rfl hw h (C.dg (k := 18) rfl)
  · replace hw := hw.2 c2
    refine i_iconst (v := (-1 : Int32)) (n := 10) C 5 rfl rfl rfl ?_
    exact hret _ (I, A) _ _ _ _ rfl hw h (C.dg (k := 6) rfl)
end S159
theorem kSN_Pl_61 {R : Room} {s : State} {args : Array Value} (hR : 0 + 1 ≤ R.frames ∧ 8 + (2 + 11) + 0 ≤ R.locals) (ht : ∀ w ∈ GW, w.before args s = true) (hN : NX s) : va_CN R s args R_Pl 61 y_Pw_hasBit R_Pw c_Pw_hasBit 2 (some .boolean) (WL y_Pw_hasBit c_Pw_hasBit 2 (some .boolean)) { frames := 0, cells := 0, slots := 0, locals := 0 } 0 0 2 ∧ (Cond.static y_Pw_hasBit).before args s = true ∧ True := ⟨va_cnB 2 ht (GW_in (GW_wl w_2_76)) rfl rfl rfl (hN.1 _ (by simp [nxW])) (ht _ w_1_1) (by decide +kernel) hR, ht _ w_2_75, trivial⟩
section S160
variable {p : Program} {l : Launch} {e : Env} {R : Room} {s : State} {m : MethodId} {args : Array Value} {below : List Frame} {meth : Method} {c : Code} {H : Heap} {locs : List Loc} {cells slots : Nat} {Q : State → Prop}
variable {cc : ByteArray} {pc n nL : Nat} {ls : Array Slot} {rest : List Value} {D : va_G} {cy : Nat → ClassId} {Z : Nat → Prop} {ad : Nat → Nat} {tb : List (Nat × Instr × Nat)} {lv : List (Nat × Value)}
set_option maxHeartbeats 4000000 in
set_option maxRecDepth 100000 in
theorem e_Pl_sumOf_23 {I : Nat → Int32} {A : Nat → Nat → Int32} {T : Nat → Option Nat} {L : List Nat} {K : Nat → Nat} {F : Nat → Nat → Int32} {k1 : Nat} {a2 : Int32} {P : Int32 → Prop} {kb4 : Int32 → Int32 → Prop} (C : CX D cy R_Pl c_Pl_sumOf tb_Pl_sumOf 4 p s m args c Z) (h : HXw D Z s.heap H locs (wC cy ad I A T L K F)) (hk1 : k1 < 41 ∧ tyC k1 = 0) (hret : RetP p l e { frames := 1, cells := 0, slots := 0, locals := 21 } s m args below meth c c_Pl_sumOf .int H locs Q P)
    (hb4 : ∀ (x2 : Int32) (x3 : Int32) (ls : Array Slot), lv_has ls 4 [(0, .ref (ad (k1 + 8))), (1, .int a2), (2, .int x2), (3, .int x3)] → kb4 x2 x3 → W p l e { frames := 1, cells := 0, slots := 0, locals := 21 } s m args below meth c H locs 0 0 Q (F0 m 4 ls [])) :
    ∀ (x2 : Int32) (x3 : Int32) (ls : Array Slot), lv_has ls 4 [(0, .ref (ad (k1 + 8))), (1, .int a2), (2, .int x2), (3, .int x3)] → g_Pl_sumOf_23 A k1 a2 P kb4 x2 x3 → W p l e { frames := 1, cells := 0, slots := 0, locals := 21 } s m args below meth c H locs 0 0 Q (F0 m 23 ls []) := by
  intro x2 x3 ls hl hw
  refine i_iinc (v := x3 + (1 : Int32)) (lv' := [(3, .int (x3 + (1 : Int32))), (0, .ref (ad (k1 + 8))), (1, .int a2), (2, .int x2)]) (n := 26) C 17 rfl rfl hl 3 rfl rfl (by decide) rfl (fun ls hl => ?_)
  refine i_goto (tgt := 4) C 18 rfl rfl ?_
  exact hb4 x2 (x3 + (1 : Int32)) ls (lv_sub hl [1, 2, 3, 0] rfl) hw
set_option maxHeartbeats 4000000 in
set_option maxRecDepth 100000 in
theorem e_Pl_sumOf_4 {I : Nat → Int32} {A : Nat → Nat → Int32} {T : Nat → Option Nat} {L : List Nat} {K : Nat → Nat} {F : Nat → Nat → Int32} {k1 : Nat} {a2 : Int32} {P : Int32 → Prop} {kx4 : Int32 → Prop} (C : CX D cy R_Pl c_Pl_sumOf tb_Pl_sumOf 4 p s m args c Z) (h : HXw D Z s.heap H locs (wC cy ad I A T L K F)) (hk1 : k1 < 41 ∧ tyC k1 = 0) (hret : RetP p l e { frames := 1, cells := 0, slots := 0, locals := 21 } s m args below meth c c_Pl_sumOf .int H locs Q P)
    (hx4 : ∀ (x2 : Int32) (ls : Array Slot), lv_has ls 4 [(2, .int x2)] → kx4 x2 → W p l e { frames := 1, cells := 0, slots := 0, locals := 21 } s m args below meth c H locs 0 0 Q (F0 m 29 ls [])) :
    ∀ (n : Nat) (x2 : Int32) (x3 : Int32) (ls : Array Slot), lv_has ls 4 [(0, .ref (ad (k1 + 8))), (1, .int a2), (2, .int x2), (3, .int x3)] → g_Pl_sumOf_4 A k1 a2 P kx4 n x2 x3 → W p l e { frames := 1, cells := 0, slots := 0, locals := 21 } s m args below meth c H locs 0 0 Q (F0 m 4 ls []) := by
  intro n
  induction n with
  | zero => intro x2 x3 ls hl hw; exact hw.elim
  | succ n ih =>
    intro x2 x3 ls hl hw
    refine i_iload_n (n := 5) C 4 rfl rfl rfl hl 3 rfl ?_
    refine i_iconst (v := (3 : Int32)) (n := 6) C 5 rfl rfl rfl ?_
    refine i_icmp_ge (tgt := 29) (n := 9) C 6 rfl rfl rfl (fun c1 => ?_) (fun c1 => ?_)
    · replace hw := hw.1 c1
      exact hx4 x2 ls (lv_sub hl [2] rfl) hw
    · replace hw := hw.2 c1
      refine i_iload_n (n := 10) C 7 rfl rfl rfl hl 1 rfl ?_
      refine i_iload_n (n := 11) C 8 rfl rfl rfl hl 3 rfl ?_
      refine i_callSNp (rest := []) (n := 14) C 9 rfl rfl hl h (kSN_Pl_61 ⟨by decide, by decide⟩) (m_Pw_hasBit hw) rfl rfl (Nat.le_of_ble_eq_true rfl) ⟨by decide, by decide⟩ (fun r2 hw => ?_)
      refine i_if_eq (tgt := 23) (n := 17) C 10 rfl rfl rfl (fun c3 => ?_) (fun c3 => ?_)
      · replace hw := hw.1 c3
        exact e_Pl_sumOf_23 C h hk1 hret ih x2 x3 ls hl hw
      · replace hw := hw.2 c3
        refine i_iload_n (n := 18) C 11 rfl rfl rfl hl 2 rfl ?_
        refine i_aload_n (n := 19) C 12 rfl rfl rfl hl 0 rfl ?_
        refine i_iload_n (n := 20) C 13 rfl rfl rfl hl 3 rfl ?_
        obtain ⟨hb, hw⟩ := hw
        refine i_iald (n := 21) C 14 rfl rfl h (wC_arrI k1 hk1.1 hk1.2) hb ?_
        refine i_iadd (n := 22) C 15 rfl rfl ?_
        refine lv_topi (fun y4 ey4 => ?_)
        replace hw := hw y4 ey4
        refine i_istore_n (lv' := [(2, .int y4), (0, .ref (ad (k1 + 8))), (1, .int a2), (3, .int x3)]) (n := 23) C 16 rfl rfl rfl hl (by decide) rfl (fun ls hl => ?_)
        exact e_Pl_sumOf_23 C h hk1 hret ih y4 x3 ls (lv_sub hl [1, 2, 0, 3] rfl) hw
set_option maxHeartbeats 4000000 in
set_option maxRecDepth 100000 in
theorem m_Pl_sumOf {l : Launch} {D : va_G} {cy : Nat → ClassId} {ad : Nat → Nat} {I : Nat → Int32} {A : Nat → Nat → Int32} {T : Nat → Option Nat} {L : List Nat} {K : Nat → Nat} {F : Nat → Nat → Int32} {k1 : Nat} {a2 : Int32} {P : Int32 → Prop} (hk1 : k1 < 41 ∧ tyC k1 = 0) (hw : g_Pl_sumOf A k1 a2 P) : ∀ sz, Met l y_Pl_sumOf (WL y_Pl_sumOf c_Pl_sumOf 4 (some .int)) { frames := 1, cells := 0, slots := 0, locals := 21 } (va_Pc [.ref (ad (k1 + 8)), .int a2] (PreW D cy (wC cy ad I A T L K F) sz)) (vp_Si P) 0 0 (fun _ => False) := by
  refine met_p R_Pl .int db_Pl_sumOf (by decide) rfl rfl (Nat.le_of_ble_eq_true rfl) ?_
  intro p e s m below meth c Z Q ls C h hl hret
  have hl : lv_has ls 4 [(0, .ref (ad (k1 + 8))), (1, .int a2)] := hl
  refine i_iconst (v := (0 : Int32)) (n := 1) C 0 rfl rfl rfl ?_
  refine i_istore_n (lv' := [(2, .int (0 : Int32)), (0, .ref (ad (k1 + 8))), (1, .int a2)]) (n := 2) C 1 rfl rfl rfl hl (by decide) rfl (fun ls hl => ?_)
  refine i_iconst (v := (0 : Int32)) (n := 3) C 2 rfl rfl rfl ?_
  refine i_istore_n (lv' := [(3, .int (0 : Int32)), (2, .int (0 : Int32)), (0, .ref (ad (k1 + 8))), (1, .int a2)]) (n := 4) C 3 rfl rfl rfl hl (by decide) rfl (fun ls hl => ?_)
  obtain ⟨n5, hw⟩ := hw
  refine e_Pl_sumOf_4 C h hk1 hret (fun x2_5 ls hl hw => ?_) n5 (0 : Int32) (0 : Int32) ls (lv_sub hl [2, 3, 1, 0] rfl) hw
  have hl : lv_has ls 4 [(2, .int x2_5)] := hl
  refine i_iload_n (n := 30) C 19 rfl rfl rfl hl 0 rfl ?_
  exact hret _ _ _ rfl hw (C.dg (k := 20) rfl)
end S160
theorem kS_Pl_51 {R : Room} {s : State} {args : Array Value} (hR : 1 + 1 ≤ R.frames ∧ 8 + (4 + 11) + 21 ≤ R.locals) (ht : ∀ w ∈ GW, w.before args s = true) : CallB R s args R_Pl 51 y_Pl_sumOf c_Pl_sumOf 4 (some .int) (WL y_Pl_sumOf c_Pl_sumOf 4 (some .int)) { frames := 1, cells := 0, slots := 0, locals := 21 } 0 0 2 ∧ (Cond.static y_Pl_sumOf).before args s = true := cwS 2 ht (GW_s w_5_52 w_5_53 w_1_5 (GW_wl w_5_54)) rfl rfl rfl (by decide +kernel) hR
theorem kX_Pl_55 {R : Room} {s : State} {args : Array Value} (hR : 0 + 1 ≤ R.frames ∧ 8 + (4 + 11) + 0 ≤ R.locals) (ht : ∀ w ∈ GW, w.before args s = true) : CallB R s args R_Pl 55 y_JArr_fill c_JArr_fill 4 none (WL y_JArr_fill c_JArr_fill 4 none) { frames := 0, cells := 0, slots := 0, locals := 0 } 0 0 2 ∧ (Cond.static y_JArr_fill).before args s = true := ⟨callB_of 2 ht (GW_in (GW_wl w_1_201)) rfl rfl rfl (ht _ w_1_6) (ht _ w_5_56) (by decide +kernel) hR, ht _ w_1_200⟩
section S161
variable {p : Program} {l : Launch} {e : Env} {R : Room} {s : State} {m : MethodId} {args : Array Value} {below : List Frame} {meth : Method} {c : Code} {H : Heap} {locs : List Loc} {cells slots : Nat} {Q : State → Prop}
variable {cc : ByteArray} {pc n nL : Nat} {ls : Array Slot} {rest : List Value} {D : va_G} {cy : Nat → ClassId} {Z : Nat → Prop} {ad : Nat → Nat} {tb : List (Nat × Instr × Nat)} {lv : List (Nat × Value)}
set_option maxHeartbeats 4000000 in
set_option maxRecDepth 100000 in
theorem e_Pl_prepare_10 {T : Nat → Option Nat} {L : List Nat} {K : Nat → Nat} {F : Nat → Nat → Int32}  {P : ((Nat → Int32) × (Nat → Nat → Int32)) → Prop} {kx10 : (Nat → Int32) → (Nat → Nat → Int32) → Prop} (C : CX D cy R_Pl c_Pl_prepare tb_Pl_prepare 2 p s m args c Z) (hret : RetV p l e { frames := 2, cells := 0, slots := 0, locals := 44 } s m args below meth c c_Pl_prepare D Z Q (fun (u : (Nat → Int32) × (Nat → Nat → Int32)) => wC cy ad u.1 u.2 T L K F) P 0 0)
    (hx10 : ∀ (I : Nat → Int32) (A : Nat → Nat → Int32) (ls : Array Slot) (H : Heap) (locs : List Loc), lv_has ls 2 [(0, .ref (ad 4))] → HXw D Z s.heap H locs (wC cy ad I A T L K F) → kx10 I A → W p l e { frames := 2, cells := 0, slots := 0, locals := 44 } s m args below meth c H locs 0 0 Q (F0 m 50 ls [])) :
    ∀ (n : Nat) (I : Nat → Int32) (A : Nat → Nat → Int32) (x1 : Int32) (ls : Array Slot) (H : Heap) (locs : List Loc), lv_has ls 2 [(0, .ref (ad 4)), (1, .int x1)] → HXw D Z s.heap H locs (wC cy ad I A T L K F) → g_Pl_prepare_10 P kx10 n I A x1 → W p l e { frames := 2, cells := 0, slots := 0, locals := 44 } s m args below meth c H locs 0 0 Q (F0 m 10 ls []) := by
  intro n
  induction n with
  | zero => intro I A x1 ls H locs hl h hw; exact hw.elim
  | succ n ih =>
    intro I A x1 ls H locs hl h hw
    refine i_iload_n (n := 11) C 6 rfl rfl rfl hl 1 rfl ?_
    refine i_bipush (v := (8 : Int32)) (n := 13) C 7 rfl rfl rfl ?_
    refine i_icmp_ge (tgt := 50) (n := 16) C 8 rfl rfl rfl (fun c2 => ?_) (fun c2 => ?_)
    · replace hw := hw.1 c2
      exact hx10 I A ls _ _ (lv_sub hl [0] rfl) h hw
    · replace hw := hw.2 c2
      refine i_aload_n (n := 17) C 9 rfl rfl rfl hl 0 rfl ?_
      refine fgC_Pl_21 (n := 20) C 10 rfl rfl h ?_
      refine i_iload_n (n := 21) C 11 rfl rfl rfl hl 1 rfl ?_
      refine i_aload_n (n := 22) C 12 rfl rfl rfl hl 0 rfl ?_
      refine fgC_Pl_15 (n := 25) C 13 rfl rfl h ?_
      refine i_iload_n (n := 26) C 14 rfl rfl rfl hl 1 rfl ?_
      refine i_callSp (rest := [.int x1, .ref (ad 36)]) (n := 29) C 15 rfl rfl hl h (kS_Pl_51 ⟨by decide, by decide⟩) (m_Pl_sumOf ⟨by decide, rfl⟩ hw) rfl rfl (Nat.le_of_ble_eq_true rfl) ⟨by decide, by decide⟩ (fun r3 hw => ?_)
      obtain ⟨hb, hw⟩ := hw
      refine i_iast (n := 30) C 16 rfl rfl h (wC_arr 28 (by decide) rfl) hb (wC_sA 28 (by decide) rfl _ _) (fun H locs h => ?_)
      refine i_aload_n (n := 31) C 17 rfl rfl rfl hl 0 rfl ?_
      refine fgC_Pl_24 (n := 34) C 18 rfl rfl h ?_
      refine i_iload_n (n := 35) C 19 rfl rfl rfl hl 1 rfl ?_
      refine i_aload_n (n := 36) C 20 rfl rfl rfl hl 0 rfl ?_
      refine fgC_Pl_18 (n := 39) C 21 rfl rfl h ?_
      refine i_iload_n (n := 40) C 22 rfl rfl rfl hl 1 rfl ?_
      refine i_callSp (rest := [.int x1, .ref (ad 37)]) (n := 43) C 23 rfl rfl hl h (kS_Pl_51 ⟨by decide, by decide⟩) (m_Pl_sumOf ⟨by decide, rfl⟩ hw) rfl rfl (Nat.le_of_ble_eq_true rfl) ⟨by decide, by decide⟩ (fun r4 hw => ?_)
      obtain ⟨hb, hw⟩ := hw
      refine i_iast (n := 44) C 24 rfl rfl h (wC_arr 29 (by decide) rfl) hb (wC_sA 29 (by decide) rfl _ _) (fun H locs h => ?_)
      refine i_iinc (v := x1 + (1 : Int32)) (lv' := [(1, .int (x1 + (1 : Int32))), (0, .ref (ad 4))]) (n := 47) C 25 rfl rfl hl 1 rfl rfl (by decide) rfl (fun ls hl => ?_)
      refine i_goto (tgt := 10) C 26 rfl rfl ?_
      exact ih I (sA (sA A 28 x1 r3) 29 x1 r4) (x1 + (1 : Int32)) ls _ _ (lv_sub hl [1, 0] rfl) h hw
set_option maxHeartbeats 4000000 in
set_option maxRecDepth 100000 in
theorem m_Pl_prepare {l : Launch} {D : va_G} {cy : Nat → ClassId} {ad : Nat → Nat} {I : Nat → Int32} {A : Nat → Nat → Int32} {T : Nat → Option Nat} {L : List Nat} {K : Nat → Nat} {F : Nat → Nat → Int32}  {P : ((Nat → Int32) × (Nat → Nat → Int32)) → Prop} (hw : g_Pl_prepare I A P) : ∀ sz, Met l y_Pl_prepare (WL y_Pl_prepare c_Pl_prepare 2 none) { frames := 2, cells := 0, slots := 0, locals := 44 } (va_Pc [.ref (ad 4)] (PreW D cy (wC cy ad I A T L K F) sz)) (va_Qv P (fun u t => PostW D (va_A (wC cy ad I A T L K F) sz) ((fun (u : (Nat → Int32) × (Nat → Nat → Int32)) => wC cy ad u.1 u.2 T L K F) u) t) (va_A (wC cy ad I A T L K F) sz)) 0 0 (va_A (wC cy ad I A T L K F) sz) := by
  refine met_v (wf := fun (u : (Nat → Int32) × (Nat → Nat → Int32)) => wC cy ad u.1 u.2 T L K F) R_Pl db_Pl_prepare (by decide) rfl (Nat.le_of_ble_eq_true rfl) ?_
  intro p e s m below meth c Z Q ls hin C h hl hret
  have hl : lv_has ls 2 [(0, .ref (ad 4))] := hl
  refine i_aload_n (n := 1) C 0 rfl rfl rfl hl 0 rfl ?_
  refine fgC_Pl_34 (n := 4) C 1 rfl rfl h ?_
  refine i_if_eq (tgt := 8) (n := 7) C 2 rfl rfl rfl (fun c1 => ?_) (fun c1 => ?_)
  · replace hw := hw.1 c1
    refine i_iconst (v := (0 : Int32)) (n := 9) C 4 rfl rfl rfl ?_
    refine i_istore_n (lv' := [(1, .int (0 : Int32)), (0, .ref (ad 4))]) (n := 10) C 5 rfl rfl rfl hl (by decide) rfl (fun ls hl => ?_)
    obtain ⟨n5, hw⟩ := hw
    refine e_Pl_prepare_10 C hret (fun I_5 A_5 ls H locs hl h hw => ?_) n5 I A (0 : Int32) ls _ _ (lv_sub hl [1, 0] rfl) h hw
    have hl : lv_has ls 2 [(0, .ref (ad 4))] := hl
    refine i_aload_n (n := 51) C 27 rfl rfl rfl hl 0 rfl ?_
    refine fgC_Pl_27 (n := 54) C 28 rfl rfl h ?_
    refine i_iconst (v := (-1 : Int32)) (n := 55) C 29 rfl rfl rfl ?_
    refine i_callSv (rest := []) (n := 58) C 30 rfl rfl hl h (kX_Pl_55 ⟨by decide, by decide⟩) (m_JArr_fill ⟨by decide, rfl⟩ hw) rfl rfl (Nat.le_of_ble_eq_true rfl) ⟨by decide, by decide⟩ (fun u6 H locs hw h => ?_)
    refine i_aload_n (n := 59) C 31 rfl rfl rfl hl 0 rfl ?_
    refine i_iconst (v := (1 : Int32)) (n := 60) C 32 rfl rfl rfl ?_
    refine fpC_Pl_34 (n := 63) C 33 rfl rfl h (by first | exact Or.inl rfl | exact Or.inr rfl) (fun H locs h => ?_)
    exact hret (va_up I_5 15 (1 : Int32), u6) _ _ _ _ hw h (C.dg (k := 34) rfl)
  · replace hw := hw.2 c1
    exact hret (I, A) _ _ _ _ hw h (C.dg (k := 3) rfl)
end S161
section S162
variable {p : Program} {l : Launch} {e : Env} {R : Room} {s : State} {m : MethodId} {args : Array Value} {below : List Frame} {meth : Method} {c : Code} {H : Heap} {locs : List Loc} {cells slots : Nat} {Q : State → Prop}
variable {cc : ByteArray} {pc n nL : Nat} {ls : Array Slot} {rest : List Value} {D : va_G} {cy : Nat → ClassId} {Z : Nat → Prop} {ad : Nat → Nat} {tb : List (Nat × Instr × Nat)} {lv : List (Nat × Value)}
set_option maxHeartbeats 4000000 in
set_option maxRecDepth 100000 in
theorem m_Pl_weightsBehind {l : Launch} {D : va_G} {cy : Nat → ClassId} {ad : Nat → Nat} {I : Nat → Int32} {A : Nat → Nat → Int32} {T : Nat → Option Nat} {L : List Nat} {K : Nat → Nat} {F : Nat → Nat → Int32} {a1 : Int32} {a2 : Int32} {a3 : Int32} {P : Int32 → Prop} (hw : g_Pl_weightsBehind A a1 a2 a3 P) : ∀ sz, Met l y_Pl_weightsBehind (WL y_Pl_weightsBehind c_Pl_weightsBehind 4 (some .int)) { frames := 1, cells := 0, slots := 0, locals := 21 } (va_Pc [.ref (ad 4), .int a1, .int a2, .int a3] (PreW D cy (wC cy ad I A T L K F) sz)) (vp_Si P) 0 0 (fun _ => False) := by
  refine met_p R_Pl .int db_Pl_weightsBehind (by decide) rfl rfl (Nat.le_of_ble_eq_true rfl) ?_
  intro p e s m below meth c Z Q ls C h hl hret
  have hl : lv_has ls 4 [(0, .ref (ad 4)), (1, .int a1), (2, .int a2), (3, .int a3)] := hl
  refine i_sipush (v := (200 : Int32)) (n := 3) C 0 rfl rfl rfl ?_
  refine i_iload_n (n := 4) C 1 rfl rfl rfl hl 3 rfl ?_
  refine i_aload_n (n := 5) C 2 rfl rfl rfl hl 0 rfl ?_
  refine fgC_Pl_21 (n := 8) C 3 rfl rfl h ?_
  refine i_iload_n (n := 9) C 4 rfl rfl rfl hl 2 rfl ?_
  obtain ⟨hb, hw⟩ := hw
  refine i_iald (n := 10) C 5 rfl rfl h (wC_arr 28 (by decide) rfl) hb ?_
  refine i_iadd (n := 11) C 6 rfl rfl ?_
  refine i_mmin (n := 14) C 7 rfl rfl hl w_5_70 (by decide) (Nat.le_of_ble_eq_true rfl) (Nat.le_of_ble_eq_true rfl) (Nat.le_of_ble_eq_true rfl) ?_
  refine i_aload_n (n := 15) C 8 rfl rfl rfl hl 0 rfl ?_
  refine fgC_Pl_11 (n := 18) C 9 rfl rfl h ?_
  refine i_iload_n (n := 19) C 10 rfl rfl rfl hl 1 rfl ?_
  obtain ⟨hb, hw⟩ := hw
  refine i_iald (n := 20) C 11 rfl rfl h (wC_arr 25 (by decide) rfl) hb ?_
  refine i_isub (n := 21) C 12 rfl rfl ?_
  exact hret _ _ _ rfl hw (C.dg (k := 13) rfl)
end S162
theorem kV_Pl_48 {R : Room} {s : State} {args : Array Value} (hR : 1 + 1 ≤ R.frames ∧ 8 + (4 + 11) + 21 ≤ R.locals) (ht : ∀ w ∈ GW, w.before args s = true) : CallW R s args R_Pl R_Pl 48 y_Pl_weightsBehind c_Pl_weightsBehind 4 (some .int) (WL y_Pl_weightsBehind c_Pl_weightsBehind 4 (some .int)) { frames := 1, cells := 0, slots := 0, locals := 21 } 0 0 3 := cwV 3 ht (GW_v w_5_66 w_5_68 w_0_26 w_1_5 (GW_wl w_5_69)) rfl rfl rfl (by decide +kernel) hR
theorem kV_Pl_41_d {d : Nat} {R : Room} {s : State} {args : Array Value} (hR : (2 * d + 2) + 1 ≤ R.frames ∧ 8 + (7 + 11) + (100 * d + 100) ≤ R.locals) (ht : ∀ w ∈ GW, w.before args s = true) : CallW R s args R_Pl R_Pl 41 y_Pl_leastCoal c_Pl_leastCoal 7 (some .int) (WL y_Pl_leastCoal c_Pl_leastCoal 7 (some .int)) { frames := (2 * d + 2), cells := 0, slots := 0, locals := (100 * d + 100) } 0 0 3 := cwV 3 ht (GW_v w_5_57 w_5_59 w_0_24 w_1_5 (GW_wl w_5_60)) rfl rfl rfl (by decide +kernel) hR
section S163
variable {p : Program} {l : Launch} {e : Env} {R : Room} {s : State} {m : MethodId} {args : Array Value} {below : List Frame} {meth : Method} {c : Code} {H : Heap} {locs : List Loc} {cells slots : Nat} {Q : State → Prop}
variable {cc : ByteArray} {pc n nL : Nat} {ls : Array Slot} {rest : List Value} {D : va_G} {cy : Nat → ClassId} {Z : Nat → Prop} {ad : Nat → Nat} {tb : List (Nat × Instr × Nat)} {lv : List (Nat × Value)}
set_option maxHeartbeats 4000000 in
set_option maxRecDepth 100000 in
theorem m_Pl_coalIfLit {l : Launch} {D : va_G} {cy : Nat → ClassId} {ad : Nat → Nat} {I : Nat → Int32} {A : Nat → Nat → Int32} {T : Nat → Option Nat} {L : List Nat} {K : Nat → Nat} {F : Nat → Nat → Int32} {a1 : Int32} {a2 : Int32} {a3 : Int32} {a4 : Int32} {d : Nat} {gl : (Nat → Int32) → (Nat → Nat → Int32) → Int32 → Int32 → Int32 → (Int32 → (Nat → Nat → Int32) → Prop) → Prop} {P : Int32 → ((Nat → Nat → Int32)) → Prop} (hgl : ∀ {I : Nat → Int32} {A : Nat → Nat → Int32} {a1 a2 a3 : Int32} {P : Int32 → (Nat → Nat → Int32) → Prop}, gl I A a1 a2 a3 P → ∀ sz, Met l y_Pl_leastCoal (WL y_Pl_leastCoal c_Pl_leastCoal 7 (some .int)) { frames := (2 * d + 2), cells := 0, slots := 0, locals := (100 * d + 100) } (va_Pc [.ref (ad 4), .int a1, .int a2, .int a3] (PreW D cy (wC cy ad I A T L K F) sz)) (va_Qi P (fun u t => PostW D (va_A (wC cy ad I A T L K F) sz) (wC cy ad I u T L K F) t) (va_A (wC cy ad I A T L K F) sz)) 0 0 (va_A (wC cy ad I A T L K F) sz)) (hw : g_Pl_coalIfLit I A a1 a2 a3 a4 gl P) : ∀ sz, Met l y_Pl_coalIfLit (WL y_Pl_coalIfLit c_Pl_coalIfLit 5 (some .int)) { frames := (2 * d + 3), cells := 0, slots := 0, locals := (100 * d + 150) } (va_Pc [.ref (ad 4), .int a1, .int a2, .int a3, .int a4] (PreW D cy (wC cy ad I A T L K F) sz)) (va_Qi P (fun u t => PostW D (va_A (wC cy ad I A T L K F) sz) ((fun (u : (Nat → Nat → Int32)) => wC cy ad I u T L K F) u) t) (va_A (wC cy ad I A T L K F) sz)) 0 0 (va_A (wC cy ad I A T L K F) sz) := by
  refine met_i (wf := fun (u : (Nat → Nat → Int32)) => wC cy ad I u T L K F) R_Pl .int db_Pl_coalIfLit (by decide) rfl rfl (Nat.le_of_ble_eq_true rfl) ?_
  intro p e s m below meth c Z Q ls C h hl hret
  have hl : lv_has ls 5 [(0, .ref (ad 4)), (1, .int a1), (2, .int a2), (3, .int a3), (4, .int a4)] := hl
  refine i_aload_n (n := 1) C 0 rfl rfl rfl hl 0 rfl ?_
  refine fgC_Pl_24 (n := 4) C 1 rfl rfl h ?_
  refine i_iload_n (n := 5) C 2 rfl rfl rfl hl 3 rfl ?_
  obtain ⟨hb, hw⟩ := hw
  refine i_iald (n := 6) C 3 rfl rfl h (wC_arr 29 (by decide) rfl) hb ?_
  refine i_aload_n (n := 7) C 4 rfl rfl rfl hl 0 rfl ?_
  refine i_iload_n (n := 8) C 5 rfl rfl rfl hl 1 rfl ?_
  refine i_iconst (v := (1 : Int32)) (n := 9) C 6 rfl rfl rfl ?_
  refine i_iadd (n := 10) C 7 rfl rfl ?_
  refine i_iload_n (n := 11) C 8 rfl rfl rfl hl 3 rfl ?_
  refine i_aload_n (n := 12) C 9 rfl rfl rfl hl 0 rfl ?_
  refine i_iload_n (n := 13) C 10 rfl rfl rfl hl 1 rfl ?_
  refine i_iload_n (n := 14) C 11 rfl rfl rfl hl 2 rfl ?_
  refine i_iload_n (n := 15) C 12 rfl rfl rfl hl 3 rfl ?_
  refine i_iand (n := 16) C 13 rfl rfl ?_
  refine i_iload (n := 18) C 14 rfl rfl hl 4 rfl ?_
  refine i_callVp (rest := [.int a3, .int (a1 + (1 : Int32)), .ref (ad 4), .int (A 29 a3.toNatClampNeg)]) (ci := 8) (qc := (R_Pl, T_Pl, 8)) (n := 21) C 15 rfl rfl hl h rfl (wC_get (h := 4) (by decide)) (kV_Pl_48 ⟨by first | decide | (dsimp only; omega), by first | decide | (dsimp only; omega)⟩) (m_Pl_weightsBehind hw) rfl rfl (Nat.le_of_ble_eq_true rfl) ⟨by first | decide | (dsimp only; omega), by first | decide | (dsimp only; omega)⟩ (fun r1 hw => ?_)
  refine i_callVi (rest := [.int (A 29 a3.toNatClampNeg)]) (ci := 8) (qc := (R_Pl, T_Pl, 8)) (n := 24) C 16 rfl rfl hl h rfl (wC_get (h := 4) (by decide)) (kV_Pl_41_d ⟨by first | decide | (dsimp only; omega), by first | decide | (dsimp only; omega)⟩) (hgl hw) rfl rfl (Nat.le_of_ble_eq_true rfl) ⟨by first | decide | (dsimp only; omega), by first | decide | (dsimp only; omega)⟩ (fun r2 u3 H locs hw h => ?_)
  refine i_iadd (n := 25) C 17 rfl rfl ?_
  exact hret _ u3 _ _ _ _ rfl hw h (C.dg (k := 18) rfl)
end S163
theorem kV_Pl_72_d {d : Nat} {R : Room} {s : State} {args : Array Value} (hR : (2 * d + 3) + 1 ≤ R.frames ∧ 8 + (5 + 11) + (100 * d + 150) ≤ R.locals) (ht : ∀ w ∈ GW, w.before args s = true) : CallW R s args R_Pl R_Pl 72 y_Pl_coalIfLit c_Pl_coalIfLit 5 (some .int) (WL y_Pl_coalIfLit c_Pl_coalIfLit 5 (some .int)) { frames := (2 * d + 3), cells := 0, slots := 0, locals := (100 * d + 150) } 0 0 4 := cwV 4 ht (GW_v w_5_62 w_5_64 w_0_25 w_1_5 (GW_wl w_5_65)) rfl rfl rfl (by decide +kernel) hR
section S164
variable {p : Program} {l : Launch} {e : Env} {R : Room} {s : State} {m : MethodId} {args : Array Value} {below : List Frame} {meth : Method} {c : Code} {H : Heap} {locs : List Loc} {cells slots : Nat} {Q : State → Prop}
variable {cc : ByteArray} {pc n nL : Nat} {ls : Array Slot} {rest : List Value} {D : va_G} {cy : Nat → ClassId} {Z : Nat → Prop} {ad : Nat → Nat} {tb : List (Nat × Instr × Nat)} {lv : List (Nat × Value)}
set_option maxHeartbeats 4000000 in
set_option maxRecDepth 100000 in
theorem e_Pl_leastCoal_87 {I : Nat → Int32} {T : Nat → Option Nat} {L : List Nat} {K : Nat → Nat} {F : Nat → Nat → Int32} {a1 : Int32} {a2 : Int32} {a3 : Int32} {d : Nat} {gl : (Nat → Int32) → (Nat → Nat → Int32) → Int32 → Int32 → Int32 → (Int32 → (Nat → Nat → Int32) → Prop) → Prop} {P : Int32 → ((Nat → Nat → Int32)) → Prop}  (C : CX D cy R_Pl c_Pl_leastCoal tb_Pl_leastCoal 7 p s m args c Z) (hgl : ∀ {I : Nat → Int32} {A : Nat → Nat → Int32} {a1 a2 a3 : Int32} {P : Int32 → (Nat → Nat → Int32) → Prop}, gl I A a1 a2 a3 P → ∀ sz, Met l y_Pl_leastCoal (WL y_Pl_leastCoal c_Pl_leastCoal 7 (some .int)) { frames := (2 * d + 2), cells := 0, slots := 0, locals := (100 * d + 100) } (va_Pc [.ref (ad 4), .int a1, .int a2, .int a3] (PreW D cy (wC cy ad I A T L K F) sz)) (va_Qi P (fun u t => PostW D (va_A (wC cy ad I A T L K F) sz) (wC cy ad I u T L K F) t) (va_A (wC cy ad I A T L K F) sz)) 0 0 (va_A (wC cy ad I A T L K F) sz)) (hret : RetI p l e { frames := (2 * d + 4), cells := 0, slots := 0, locals := (100 * d + 200) } s m args below meth c c_Pl_leastCoal .int D Z Q (fun (u : (Nat → Nat → Int32)) => wC cy ad I u T L K F) P 0 0) :
    ∀ (A : Nat → Nat → Int32) (x4 : Int32) (ls : Array Slot) (H : Heap) (locs : List Loc), lv_has ls 7 [(0, .ref (ad 4)), (4, .int x4)] → HXw D Z s.heap H locs (wC cy ad I A T L K F) → g_Pl_leastCoal_87 I a1 a2 a3 gl P  A x4 → W p l e { frames := (2 * d + 4), cells := 0, slots := 0, locals := (100 * d + 200) } s m args below meth c H locs 0 0 Q (F0 m 87 ls []) := by
  intro A x4 ls H locs hl h hw
  refine i_aload_n (n := 88) C 49 rfl rfl rfl hl 0 rfl ?_
  refine fgC_Pl_27 (n := 91) C 50 rfl rfl h ?_
  refine i_iload (n := 93) C 51 rfl rfl hl 1 rfl ?_
  obtain ⟨hb, hw⟩ := hw
  refine i_iald (n := 94) C 52 rfl rfl h (wC_arr 30 (by decide) rfl) hb ?_
  exact hret _ A _ _ _ _ rfl hw h (C.dg (k := 53) rfl)
set_option maxHeartbeats 4000000 in
set_option maxRecDepth 100000 in
theorem e_Pl_leastCoal_49 {I : Nat → Int32} {T : Nat → Option Nat} {L : List Nat} {K : Nat → Nat} {F : Nat → Nat → Int32} {a1 : Int32} {a2 : Int32} {a3 : Int32} {d : Nat} {gl : (Nat → Int32) → (Nat → Nat → Int32) → Int32 → Int32 → Int32 → (Int32 → (Nat → Nat → Int32) → Prop) → Prop} {P : Int32 → ((Nat → Nat → Int32)) → Prop} {kx49 : (Nat → Nat → Int32) → Int32 → Int32 → Prop} (C : CX D cy R_Pl c_Pl_leastCoal tb_Pl_leastCoal 7 p s m args c Z) (hgl : ∀ {I : Nat → Int32} {A : Nat → Nat → Int32} {a1 a2 a3 : Int32} {P : Int32 → (Nat → Nat → Int32) → Prop}, gl I A a1 a2 a3 P → ∀ sz, Met l y_Pl_leastCoal (WL y_Pl_leastCoal c_Pl_leastCoal 7 (some .int)) { frames := (2 * d + 2), cells := 0, slots := 0, locals := (100 * d + 100) } (va_Pc [.ref (ad 4), .int a1, .int a2, .int a3] (PreW D cy (wC cy ad I A T L K F) sz)) (va_Qi P (fun u t => PostW D (va_A (wC cy ad I A T L K F) sz) (wC cy ad I u T L K F) t) (va_A (wC cy ad I A T L K F) sz)) 0 0 (va_A (wC cy ad I A T L K F) sz)) (hret : RetI p l e { frames := (2 * d + 4), cells := 0, slots := 0, locals := (100 * d + 200) } s m args below meth c c_Pl_leastCoal .int D Z Q (fun (u : (Nat → Nat → Int32)) => wC cy ad I u T L K F) P 0 0)
    (hx49 : ∀ (A : Nat → Nat → Int32) (x4 : Int32) (x5 : Int32) (ls : Array Slot) (H : Heap) (locs : List Loc), lv_has ls 7 [(0, .ref (ad 4)), (4, .int x4), (5, .int x5)] → HXw D Z s.heap H locs (wC cy ad I A T L K F) → kx49 A x4 x5 → W p l e { frames := (2 * d + 4), cells := 0, slots := 0, locals := (100 * d + 200) } s m args below meth c H locs 0 0 Q (F0 m 78 ls [])) :
    ∀ (n : Nat) (A : Nat → Nat → Int32) (x4 : Int32) (x5 : Int32) (x6 : Int32) (ls : Array Slot) (H : Heap) (locs : List Loc), lv_has ls 7 [(0, .ref (ad 4)), (1, .int a1), (2, .int a2), (3, .int a3), (4, .int x4), (5, .int x5), (6, .int x6)] → HXw D Z s.heap H locs (wC cy ad I A T L K F) → g_Pl_leastCoal_49 I a1 a2 a3 gl P kx49 n A x4 x5 x6 → W p l e { frames := (2 * d + 4), cells := 0, slots := 0, locals := (100 * d + 200) } s m args below meth c H locs 0 0 Q (F0 m 49 ls []) := by
  intro n
  induction n with
  | zero => intro A x4 x5 x6 ls H locs hl h hw; exact hw.elim
  | succ n ih =>
    intro A x4 x5 x6 ls H locs hl h hw
    refine i_iload (n := 51) C 30 rfl rfl hl 6 rfl ?_
    refine i_bipush (v := (8 : Int32)) (n := 53) C 31 rfl rfl rfl ?_
    refine i_icmp_ge (tgt := 78) (n := 56) C 32 rfl rfl rfl (fun c5 => ?_) (fun c5 => ?_)
    · replace hw := hw.1 c5
      exact hx49 A x4 x5 ls _ _ (lv_sub hl [0, 4, 5] rfl) h hw
    · replace hw := hw.2 c5
      refine i_iload (n := 58) C 33 rfl rfl hl 5 rfl ?_
      refine i_aload_n (n := 59) C 34 rfl rfl rfl hl 0 rfl ?_
      refine i_iload_n (n := 60) C 35 rfl rfl rfl hl 1 rfl ?_
      refine i_iload_n (n := 61) C 36 rfl rfl rfl hl 2 rfl ?_
      refine i_iload (n := 63) C 37 rfl rfl hl 6 rfl ?_
      refine i_iload_n (n := 64) C 38 rfl rfl rfl hl 3 rfl ?_
      refine i_callVi (rest := [.int x5]) (ci := 8) (qc := (R_Pl, T_Pl, 8)) (n := 67) C 39 rfl rfl hl h rfl (wC_get (h := 4) (by decide)) (kV_Pl_72_d ⟨by first | decide | (dsimp only; omega), by first | decide | (dsimp only; omega)⟩) (m_Pl_coalIfLit hgl hw) rfl rfl (Nat.le_of_ble_eq_true rfl) ⟨by first | decide | (dsimp only; omega), by first | decide | (dsimp only; omega)⟩ (fun r6 u7 H locs hw h => ?_)
      refine i_mmin (n := 70) C 40 rfl rfl hl w_5_70 (by dsimp only; omega) (Nat.le_trans (m := 21) (Nat.le_of_ble_eq_true rfl) (by dsimp only; omega)) (Nat.le_of_ble_eq_true rfl) (Nat.le_of_ble_eq_true rfl) ?_
      refine lv_topi (fun y8 ey8 => ?_)
      replace hw := hw y8 ey8
      refine i_istore (lv' := [(5, .int y8), (0, .ref (ad 4)), (1, .int a1), (2, .int a2), (3, .int a3), (4, .int x4), (6, .int x6)]) (n := 72) C 41 rfl rfl hl (by decide) rfl (fun ls hl => ?_)
      refine i_iinc (v := x6 + (1 : Int32)) (lv' := [(6, .int (x6 + (1 : Int32))), (5, .int y8), (0, .ref (ad 4)), (1, .int a1), (2, .int a2), (3, .int a3), (4, .int x4)]) (n := 75) C 42 rfl rfl hl 6 rfl rfl (by decide) rfl (fun ls hl => ?_)
      refine i_goto (tgt := 49) C 43 rfl rfl ?_
      exact ih u7 x4 y8 (x6 + (1 : Int32)) ls _ _ (lv_sub hl [2, 3, 4, 5, 6, 1, 0] rfl) h hw
set_option maxHeartbeats 4000000 in
set_option maxRecDepth 100000 in
theorem m_Pl_leastCoal {l : Launch} {D : va_G} {cy : Nat → ClassId} {ad : Nat → Nat} {I : Nat → Int32} {A : Nat → Nat → Int32} {T : Nat → Option Nat} {L : List Nat} {K : Nat → Nat} {F : Nat → Nat → Int32} {a1 : Int32} {a2 : Int32} {a3 : Int32} {d : Nat} {gl : (Nat → Int32) → (Nat → Nat → Int32) → Int32 → Int32 → Int32 → (Int32 → (Nat → Nat → Int32) → Prop) → Prop} {P : Int32 → ((Nat → Nat → Int32)) → Prop} (hgl : ∀ {I : Nat → Int32} {A : Nat → Nat → Int32} {a1 a2 a3 : Int32} {P : Int32 → (Nat → Nat → Int32) → Prop}, gl I A a1 a2 a3 P → ∀ sz, Met l y_Pl_leastCoal (WL y_Pl_leastCoal c_Pl_leastCoal 7 (some .int)) { frames := (2 * d + 2), cells := 0, slots := 0, locals := (100 * d + 100) } (va_Pc [.ref (ad 4), .int a1, .int a2, .int a3] (PreW D cy (wC cy ad I A T L K F) sz)) (va_Qi P (fun u t => PostW D (va_A (wC cy ad I A T L K F) sz) (wC cy ad I u T L K F) t) (va_A (wC cy ad I A T L K F) sz)) 0 0 (va_A (wC cy ad I A T L K F) sz)) (hw : g_Pl_leastCoal I A a1 a2 a3 gl P) : ∀ sz, Met l y_Pl_leastCoal (WL y_Pl_leastCoal c_Pl_leastCoal 7 (some .int)) { frames := (2 * d + 4), cells := 0, slots := 0, locals := (100 * d + 200) } (va_Pc [.ref (ad 4), .int a1, .int a2, .int a3] (PreW D cy (wC cy ad I A T L K F) sz)) (va_Qi P (fun u t => PostW D (va_A (wC cy ad I A T L K F) sz) ((fun (u : (Nat → Nat → Int32)) => wC cy ad I u T L K F) u) t) (va_A (wC cy ad I A T L K F) sz)) 0 0 (va_A (wC cy ad I A T L K F) sz) := by
  refine met_i (wf := fun (u : (Nat → Nat → Int32)) => wC cy ad I u T L K F) R_Pl .int db_Pl_leastCoal (by decide) rfl rfl (Nat.le_of_ble_eq_true rfl) ?_
  intro p e s m below meth c Z Q ls C h hl hret
  have hl : lv_has ls 7 [(0, .ref (ad 4)), (1, .int a1), (2, .int a2), (3, .int a3)] := hl
  refine i_iload_n (n := 1) C 0 rfl rfl rfl hl 3 rfl ?_
  refine i_if_ge (tgt := 7) (n := 4) C 1 rfl rfl rfl (fun c1 => ?_) (fun c1 => ?_)
  · replace hw := hw.1 c1
    refine i_iload_n (n := 8) C 4 rfl rfl rfl hl 1 rfl ?_
    refine i_aload_n (n := 9) C 5 rfl rfl rfl hl 0 rfl ?_
    refine fgC_Pl_30 (n := 12) C 6 rfl rfl h ?_
    refine i_icmp_lt (tgt := 17) (n := 15) C 7 rfl rfl rfl (fun c2 => ?_) (fun c2 => ?_)
    · replace hw := hw.1 c2
      refine i_iload_n (n := 18) C 10 rfl rfl rfl hl 1 rfl ?_
      refine i_bipush (v := (8 : Int32)) (n := 20) C 11 rfl rfl rfl ?_
      refine i_imul (n := 21) C 12 rfl rfl ?_
      refine i_iload_n (n := 22) C 13 rfl rfl rfl hl 2 rfl ?_
      refine i_iadd (n := 23) C 14 rfl rfl ?_
      refine i_sipush (v := (201 : Int32)) (n := 26) C 15 rfl rfl rfl ?_
      refine i_imul (n := 27) C 16 rfl rfl ?_
      refine i_iload_n (n := 28) C 17 rfl rfl rfl hl 3 rfl ?_
      refine i_iadd (n := 29) C 18 rfl rfl ?_
      refine lv_topi (fun y3 ey3 => ?_)
      replace hw := hw y3 ey3
      refine i_istore (lv' := [(4, .int y3), (0, .ref (ad 4)), (1, .int a1), (2, .int a2), (3, .int a3)]) (n := 31) C 19 rfl rfl hl (by decide) rfl (fun ls hl => ?_)
      refine i_aload_n (n := 32) C 20 rfl rfl rfl hl 1 rfl ?_
      refine fgC_Pl_27 (n := 35) C 21 rfl rfl h ?_
      refine i_iload (n := 37) C 22 rfl rfl hl 0 rfl ?_
      obtain ⟨hb, hw⟩ := hw
      refine i_iald (n := 38) C 23 rfl rfl h (wC_arr 30 (by decide) rfl) hb ?_
      refine i_iconst (v := (-1 : Int32)) (n := 39) C 24 rfl rfl rfl ?_
      refine i_icmp_ne (tgt := 87) (n := 42) C 25 rfl rfl rfl (fun c4 => ?_) (fun c4 => ?_)
      · replace hw := hw.1 c4
        exact e_Pl_leastCoal_87 C hgl hret  A y3 ls _ _ (lv_sub hl [1, 0] rfl) h hw
      · replace hw := hw.2 c4
        refine i_ldc (n := 44) C 26 rfl rfl w_5_61 ?_
        refine i_istore (lv' := [(5, .int (1000000 : Int32)), (4, .int y3), (0, .ref (ad 4)), (1, .int a1), (2, .int a2), (3, .int a3)]) (n := 46) C 27 rfl rfl hl (by decide) rfl (fun ls hl => ?_)
        refine i_iconst (v := (0 : Int32)) (n := 47) C 28 rfl rfl rfl ?_
        refine i_istore (lv' := [(6, .int (0 : Int32)), (5, .int (1000000 : Int32)), (4, .int y3), (0, .ref (ad 4)), (1, .int a1), (2, .int a2), (3, .int a3)]) (n := 49) C 29 rfl rfl hl (by decide) rfl (fun ls hl => ?_)
        obtain ⟨n9, hw⟩ := hw
        refine e_Pl_leastCoal_49 C hgl hret (fun A_9 x4_9 x5_9 ls H locs hl h hw => ?_) n9 A y3 (1000000 : Int32) (0 : Int32) ls _ _ (lv_sub hl [3, 4, 5, 6, 2, 1, 0] rfl) h hw
        have hl : lv_has ls 7 [(0, .ref (ad 4)), (4, .int x4_9), (5, .int x5_9)] := hl
        refine i_aload_n (n := 79) C 44 rfl rfl rfl hl 0 rfl ?_
        refine fgC_Pl_27 (n := 82) C 45 rfl rfl h ?_
        refine i_iload (n := 84) C 46 rfl rfl hl 1 rfl ?_
        refine i_iload (n := 86) C 47 rfl rfl hl 2 rfl ?_
        obtain ⟨hb, hw⟩ := hw
        refine i_iast (n := 87) C 48 rfl rfl h (wC_arr 30 (by decide) rfl) hb (wC_sA 30 (by decide) rfl _ _) (fun H locs h => ?_)
        exact e_Pl_leastCoal_87 C hgl hret  (sA A_9 30 x4_9 x5_9) x4_9 ls _ _ (lv_sub hl [0, 1] rfl) h hw
    · replace hw := hw.2 c2
      refine i_iconst (v := (0 : Int32)) (n := 16) C 8 rfl rfl rfl ?_
      exact hret _ A _ _ _ _ rfl hw h (C.dg (k := 9) rfl)
  · replace hw := hw.2 c1
    refine i_ldc (n := 6) C 2 rfl rfl w_5_61 ?_
    exact hret _ A _ _ _ _ rfl hw h (C.dg (k := 3) rfl)
theorem M_least {l : Launch} {D : va_G} {cy : Nat → ClassId} {ad : Nat → Nat} {T : Nat → Option Nat} {L : List Nat} {K : Nat → Nat} {F : Nat → Nat → Int32} : ∀ (d : Nat) {I : Nat → Int32} {A : Nat → Nat → Int32} {a1 a2 a3 : Int32} {P : Int32 → (Nat → Nat → Int32) → Prop}, G_least d I A a1 a2 a3 P → ∀ sz, Met l y_Pl_leastCoal (WL y_Pl_leastCoal c_Pl_leastCoal 7 (some .int)) { frames := (2 * d + 2), cells := 0, slots := 0, locals := (100 * d + 100) } (va_Pc [.ref (ad 4), .int a1, .int a2, .int a3] (PreW D cy (wC cy ad I A T L K F) sz)) (va_Qi P (fun u t => PostW D (va_A (wC cy ad I A T L K F) sz) (wC cy ad I u T L K F) t) (va_A (wC cy ad I A T L K F) sz)) 0 0 (va_A (wC cy ad I A T L K F) sz) := by
  intro d
  induction d with
  | zero => intro I A a1 a2 a3 P hw; exact hw.elim
  | succ d ih =>
    intro I A a1 a2 a3 P hw
    have h := m_Pl_leastCoal (l := l) (D := D) (cy := cy) (ad := ad) (T := T) (L := L) (K := K) (F := F) (d := d) ih hw
    rw [show 2 * d + 4 = 2 * (d + 1) + 2 by omega, show 100 * d + 200 = 100 * (d + 1) + 100 by omega] at h
    exact h
end S164
