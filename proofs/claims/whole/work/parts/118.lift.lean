section S216
variable {p : Program} {l : Launch} {e : Env} {R : Room} {s : State} {m : MethodId} {args : Array Value} {below : List Frame} {meth : Method} {c : Code} {H : Heap} {locs : List Loc} {cells slots : Nat} {Q : State → Prop}
variable {cc : ByteArray} {pc n nL : Nat} {ls : Array Slot} {rest : List Value} {D : va_G} {cy : Nat → ClassId} {Z : Nat → Prop} {ad : Nat → Nat} {tb : List (Nat × Instr × Nat)} {lv : List (Nat × Value)}
set_option maxHeartbeats 4000000 in
set_option maxRecDepth 100000 in
theorem m_Mo_hasPlace {l : Launch} {D : va_G} {cy : Nat → ClassId} {ad : Nat → Nat} {I : Nat → Int32} {A : Nat → Nat → Int32} {a1 : Int32} {a2 : Int32} {P : Int32 → Prop} (hw : g_Mo_hasPlace A a1 a2 P) : ∀ sz, Met l y_Mo_hasPlace (WL y_Mo_hasPlace c_Mo_hasPlace 3 (some .boolean)) { frames := 2, cells := 0, slots := 0, locals := 42 } (va_Pc [.ref (ad 0), .int a1, .int a2] (PreW D cy (wM cy ad I A) sz)) (vp_Si P) 0 0 (fun _ => False) := by
  refine met_p R_Mo .boolean db_Mo_hasPlace (by decide) rfl rfl (Nat.le_of_ble_eq_true rfl) ?_
  intro p e s m below meth c Z Q ls C h hl hret
  have hl : lv_has ls 3 [(0, .ref (ad 0)), (1, .int a1), (2, .int a2)] := hl
  refine i_iload_n (n := 1) C 0 rfl rfl rfl hl 1 rfl ?_
  refine i_callSp (rest := []) (n := 4) C 1 rfl rfl hl h (kS_Mo_221 ⟨by decide, by decide⟩) (m_Mo_isRow hw) rfl rfl (Nat.le_of_ble_eq_true rfl) ⟨by decide, by decide⟩ (fun r1 hw => ?_)
  refine i_if_eq (tgt := 27) (n := 7) C 2 rfl rfl rfl (fun c2 => ?_) (fun c2 => ?_)
  · replace hw := hw.1 c2
    refine i_iconst (v := (0 : Int32)) (n := 28) C 15 rfl rfl rfl ?_
    exact hret _ _ _ rfl hw (C.dg (k := 16) rfl)
  · replace hw := hw.2 c2
    refine i_iload_n (n := 8) C 3 rfl rfl rfl hl 2 rfl ?_
    refine i_iconst (v := (0 : Int32)) (n := 9) C 4 rfl rfl rfl ?_
    refine i_aload_n (n := 10) C 5 rfl rfl rfl hl 0 rfl ?_
    refine fgM_Mo_71 (n := 13) C 6 rfl rfl h ?_
    refine i_iload_n (n := 14) C 7 rfl rfl rfl hl 1 rfl ?_
    obtain ⟨hb, hw⟩ := hw
    refine i_iald (n := 15) C 8 rfl rfl h (wM_arr 20 (by decide) rfl) hb ?_
    refine i_iconst (v := (1 : Int32)) (n := 16) C 9 rfl rfl rfl ?_
    refine i_isub (n := 17) C 10 rfl rfl ?_
    refine i_callSp (rest := []) (n := 20) C 11 rfl rfl hl h (kS_Mo_126 ⟨by decide, by decide⟩) (m_Mo_in hw) rfl rfl (Nat.le_of_ble_eq_true rfl) ⟨by decide, by decide⟩ (fun r3 hw => ?_)
    refine i_if_eq (tgt := 27) (n := 23) C 12 rfl rfl rfl (fun c4 => ?_) (fun c4 => ?_)
    · replace hw := hw.1 c4
      refine i_iconst (v := (0 : Int32)) (n := 28) C 15 rfl rfl rfl ?_
      exact hret _ _ _ rfl hw (C.dg (k := 16) rfl)
    · replace hw := hw.2 c4
      refine i_iconst (v := (1 : Int32)) (n := 24) C 13 rfl rfl rfl ?_
      refine i_goto (tgt := 28) C 14 rfl rfl ?_
      exact hret _ _ _ rfl hw (C.dg (k := 16) rfl)
end S216
theorem kV_Mo_224 {R : Room} {s : State} {args : Array Value} (hR : 2 + 1 ≤ R.frames ∧ 8 + (3 + 11) + 42 ≤ R.locals) (ht : ∀ w ∈ GW, w.before args s = true) : CallW R s args R_Mo R_Mo 224 y_Mo_hasPlace c_Mo_hasPlace 3 (some .boolean) (WL y_Mo_hasPlace c_Mo_hasPlace 3 (some .boolean)) { frames := 2, cells := 0, slots := 0, locals := 42 } 0 0 2 := cwV 2 ht (GW_v w_6_188 w_6_190 w_0_43 w_1_7 (GW_wl w_6_191)) rfl rfl rfl (by decide +kernel) hR
section S217
variable {p : Program} {l : Launch} {e : Env} {R : Room} {s : State} {m : MethodId} {args : Array Value} {below : List Frame} {meth : Method} {c : Code} {H : Heap} {locs : List Loc} {cells slots : Nat} {Q : State → Prop}
variable {cc : ByteArray} {pc n nL : Nat} {ls : Array Slot} {rest : List Value} {D : va_G} {cy : Nat → ClassId} {Z : Nat → Prop} {ad : Nat → Nat} {tb : List (Nat × Instr × Nat)} {lv : List (Nat × Value)}
set_option maxHeartbeats 4000000 in
set_option maxRecDepth 100000 in
theorem m_Mo_put {l : Launch} {D : va_G} {cy : Nat → ClassId} {ad : Nat → Nat} {I : Nat → Int32} {A : Nat → Nat → Int32} {a1 : Int32} {a2 : Int32} {a3 : Int32} {P : Int32 → ((Nat → Nat → Int32)) → Prop} (hw : g_Mo_put A a1 a2 a3 P) : ∀ sz, Met l y_Mo_put (WL y_Mo_put c_Mo_put 4 (some .int)) { frames := 3, cells := 0, slots := 0, locals := 64 } (va_Pc [.ref (ad 0), .int a1, .int a2, .int a3] (PreW D cy (wM cy ad I A) sz)) (va_Qi P (fun u t => PostW D (va_A (wM cy ad I A) sz) ((fun (u : (Nat → Nat → Int32)) => wM cy ad I u) u) t) (va_A (wM cy ad I A) sz)) 0 0 (va_A (wM cy ad I A) sz) := by
  refine met_i (wf := fun (u : (Nat → Nat → Int32)) => wM cy ad I u) R_Mo .int db_Mo_put (by decide) rfl rfl (Nat.le_of_ble_eq_true rfl) ?_
  intro p e s m below meth c Z Q ls C h hl hret
  have hl : lv_has ls 4 [(0, .ref (ad 0)), (1, .int a1), (2, .int a2), (3, .int a3)] := hl
  refine i_aload_n (n := 1) C 0 rfl rfl rfl hl 0 rfl ?_
  refine i_iload_n (n := 2) C 1 rfl rfl rfl hl 1 rfl ?_
  refine i_iload_n (n := 3) C 2 rfl rfl rfl hl 2 rfl ?_
  refine i_callVp (rest := []) (ci := 11) (qc := (R_Mo, T_Mo, 50)) (n := 6) C 3 rfl rfl hl h rfl (wM_get (h := 0) (by decide)) (kV_Mo_224 ⟨by decide, by decide⟩) (m_Mo_hasPlace hw) rfl rfl (Nat.le_of_ble_eq_true rfl) ⟨by decide, by decide⟩ (fun r1 hw => ?_)
  refine i_if_ne (tgt := 11) (n := 9) C 4 rfl rfl rfl (fun c2 => ?_) (fun c2 => ?_)
  · replace hw := hw.1 c2
    refine i_iload_n (n := 12) C 7 rfl rfl rfl hl 3 rfl ?_
    refine i_ldc (n := 14) C 8 rfl rfl w_6_192 ?_
    refine i_ldc (n := 16) C 9 rfl rfl w_6_193 ?_
    refine i_callSp (rest := []) (n := 19) C 10 rfl rfl hl h (kS_Mo_126 ⟨by decide, by decide⟩) (m_Mo_in hw) rfl rfl (Nat.le_of_ble_eq_true rfl) ⟨by decide, by decide⟩ (fun r3 hw => ?_)
    refine i_if_ne (tgt := 25) (n := 22) C 11 rfl rfl rfl (fun c4 => ?_) (fun c4 => ?_)
    · replace hw := hw.1 c4
      refine i_aload_n (n := 26) C 14 rfl rfl rfl hl 0 rfl ?_
      refine fgM_Mo_74 (n := 29) C 15 rfl rfl h ?_
      refine i_bipush (v := (20 : Int32)) (n := 31) C 16 rfl rfl rfl ?_
      refine i_iload_n (n := 32) C 17 rfl rfl rfl hl 1 rfl ?_
      refine i_imul (n := 33) C 18 rfl rfl ?_
      refine i_iload_n (n := 34) C 19 rfl rfl rfl hl 2 rfl ?_
      refine i_iadd (n := 35) C 20 rfl rfl ?_
      refine i_iload_n (n := 36) C 21 rfl rfl rfl hl 3 rfl ?_
      obtain ⟨hb, hw⟩ := hw
      refine i_iast (n := 37) C 22 rfl rfl h (wM_arr 21 (by decide) rfl) hb (wM_sA 21 (by decide) rfl _ _) (fun H locs h => ?_)
      refine i_aload_n (n := 38) C 23 rfl rfl rfl hl 0 rfl ?_
      refine fgM_Mo_77 (n := 41) C 24 rfl rfl h ?_
      refine i_bipush (v := (20 : Int32)) (n := 43) C 25 rfl rfl rfl ?_
      refine i_iload_n (n := 44) C 26 rfl rfl rfl hl 1 rfl ?_
      refine i_imul (n := 45) C 27 rfl rfl ?_
      refine i_iload_n (n := 46) C 28 rfl rfl rfl hl 2 rfl ?_
      refine i_iadd (n := 47) C 29 rfl rfl ?_
      refine i_iconst (v := (0 : Int32)) (n := 48) C 30 rfl rfl rfl ?_
      obtain ⟨hb, hw⟩ := hw
      refine i_zast (n := 49) C 31 rfl rfl h (wM_arr 22 (by decide) rfl) hb (wM_sA 22 (by decide) rfl _ _) (fun H locs h => ?_)
      refine i_iconst (v := (1 : Int32)) (n := 50) C 32 rfl rfl rfl ?_
      exact hret _ (sA (sA A 21 (((20 : Int32) * a1) + a2) a3) 22 (((20 : Int32) * a1) + a2) (vp_nar .boolean (0 : Int32))) _ _ _ _ rfl hw h (C.dg (k := 33) rfl)
    · replace hw := hw.2 c4
      refine i_bipush (v := (-2 : Int32)) (n := 24) C 12 rfl rfl rfl ?_
      exact hret _ A _ _ _ _ rfl hw h (C.dg (k := 13) rfl)
  · replace hw := hw.2 c2
    refine i_iconst (v := (-1 : Int32)) (n := 10) C 5 rfl rfl rfl ?_
    exact hret _ A _ _ _ _ rfl hw h (C.dg (k := 6) rfl)
end S217
section S218
variable {p : Program} {l : Launch} {e : Env} {R : Room} {s : State} {m : MethodId} {args : Array Value} {below : List Frame} {meth : Method} {c : Code} {H : Heap} {locs : List Loc} {cells slots : Nat} {Q : State → Prop}
variable {cc : ByteArray} {pc n nL : Nat} {ls : Array Slot} {rest : List Value} {D : va_G} {cy : Nat → ClassId} {Z : Nat → Prop} {ad : Nat → Nat} {tb : List (Nat × Instr × Nat)} {lv : List (Nat × Value)}
set_option maxHeartbeats 4000000 in
set_option maxRecDepth 100000 in
theorem m_Mo_none {l : Launch} {D : va_G} {cy : Nat → ClassId} {ad : Nat → Nat} {I : Nat → Int32} {A : Nat → Nat → Int32} {a1 : Int32} {a2 : Int32} {P : Int32 → ((Nat → Nat → Int32)) → Prop} (hw : g_Mo_none A a1 a2 P) : ∀ sz, Met l y_Mo_none (WL y_Mo_none c_Mo_none 3 (some .int)) { frames := 3, cells := 0, slots := 0, locals := 64 } (va_Pc [.ref (ad 0), .int a1, .int a2] (PreW D cy (wM cy ad I A) sz)) (va_Qi P (fun u t => PostW D (va_A (wM cy ad I A) sz) ((fun (u : (Nat → Nat → Int32)) => wM cy ad I u) u) t) (va_A (wM cy ad I A) sz)) 0 0 (va_A (wM cy ad I A) sz) := by
  refine met_i (wf := fun (u : (Nat → Nat → Int32)) => wM cy ad I u) R_Mo .int db_Mo_none (by decide) rfl rfl (Nat.le_of_ble_eq_true rfl) ?_
  intro p e s m below meth c Z Q ls C h hl hret
  have hl : lv_has ls 3 [(0, .ref (ad 0)), (1, .int a1), (2, .int a2)] := hl
  refine i_aload_n (n := 1) C 0 rfl rfl rfl hl 0 rfl ?_
  refine i_iload_n (n := 2) C 1 rfl rfl rfl hl 1 rfl ?_
  refine i_iload_n (n := 3) C 2 rfl rfl rfl hl 2 rfl ?_
  refine i_callVp (rest := []) (ci := 11) (qc := (R_Mo, T_Mo, 50)) (n := 6) C 3 rfl rfl hl h rfl (wM_get (h := 0) (by decide)) (kV_Mo_224 ⟨by decide, by decide⟩) (m_Mo_hasPlace hw) rfl rfl (Nat.le_of_ble_eq_true rfl) ⟨by decide, by decide⟩ (fun r1 hw => ?_)
  refine i_if_ne (tgt := 11) (n := 9) C 4 rfl rfl rfl (fun c2 => ?_) (fun c2 => ?_)
  · replace hw := hw.1 c2
    refine i_aload_n (n := 12) C 7 rfl rfl rfl hl 0 rfl ?_
    refine fgM_Mo_77 (n := 15) C 8 rfl rfl h ?_
    refine i_bipush (v := (20 : Int32)) (n := 17) C 9 rfl rfl rfl ?_
    refine i_iload_n (n := 18) C 10 rfl rfl rfl hl 1 rfl ?_
    refine i_imul (n := 19) C 11 rfl rfl ?_
    refine i_iload_n (n := 20) C 12 rfl rfl rfl hl 2 rfl ?_
    refine i_iadd (n := 21) C 13 rfl rfl ?_
    refine i_iconst (v := (1 : Int32)) (n := 22) C 14 rfl rfl rfl ?_
    obtain ⟨hb, hw⟩ := hw
    refine i_zast (n := 23) C 15 rfl rfl h (wM_arr 22 (by decide) rfl) hb (wM_sA 22 (by decide) rfl _ _) (fun H locs h => ?_)
    refine i_iconst (v := (1 : Int32)) (n := 24) C 16 rfl rfl rfl ?_
    exact hret _ (sA A 22 (((20 : Int32) * a1) + a2) (vp_nar .boolean (1 : Int32))) _ _ _ _ rfl hw h (C.dg (k := 17) rfl)
  · replace hw := hw.2 c2
    refine i_iconst (v := (-1 : Int32)) (n := 10) C 5 rfl rfl rfl ?_
    exact hret _ A _ _ _ _ rfl hw h (C.dg (k := 6) rfl)
end S218
section S219
variable {p : Program} {l : Launch} {e : Env} {R : Room} {s : State} {m : MethodId} {args : Array Value} {below : List Frame} {meth : Method} {c : Code} {H : Heap} {locs : List Loc} {cells slots : Nat} {Q : State → Prop}
variable {cc : ByteArray} {pc n nL : Nat} {ls : Array Slot} {rest : List Value} {D : va_G} {cy : Nat → ClassId} {Z : Nat → Prop} {ad : Nat → Nat} {tb : List (Nat × Instr × Nat)} {lv : List (Nat × Value)}
set_option maxHeartbeats 4000000 in
set_option maxRecDepth 100000 in
theorem m_Mo_read {l : Launch} {D : va_G} {cy : Nat → ClassId} {ad : Nat → Nat} {I : Nat → Int32} {A : Nat → Nat → Int32} {a1 : Int32} {a2 : Int32} {P : Int32 → ((Nat → Nat → Int32)) → Prop} (hw : g_Mo_read I A a1 a2 P) : ∀ sz, Met l y_Mo_read (WL y_Mo_read c_Mo_read 3 (some .int)) { frames := 3, cells := 0, slots := 0, locals := 64 } (va_Pc [.ref (ad 0), .int a1, .int a2] (PreW D cy (wM cy ad I A) sz)) (va_Qi P (fun u t => PostW D (va_A (wM cy ad I A) sz) ((fun (u : (Nat → Nat → Int32)) => wM cy ad I u) u) t) (va_A (wM cy ad I A) sz)) 0 0 (va_A (wM cy ad I A) sz) := by
  refine met_i (wf := fun (u : (Nat → Nat → Int32)) => wM cy ad I u) R_Mo .int db_Mo_read (by decide) rfl rfl (Nat.le_of_ble_eq_true rfl) ?_
  intro p e s m below meth c Z Q ls C h hl hret
  have hl : lv_has ls 3 [(0, .ref (ad 0)), (1, .int a1), (2, .int a2)] := hl
  refine i_aload_n (n := 1) C 0 rfl rfl rfl hl 0 rfl ?_
  refine i_iload_n (n := 2) C 1 rfl rfl rfl hl 2 rfl ?_
  refine i_callVp (rest := []) (ci := 11) (qc := (R_Mo, T_Mo, 50)) (n := 5) C 2 rfl rfl hl h rfl (wM_get (h := 0) (by decide)) (kV_Mo_136 ⟨by decide, by decide⟩) (m_Mo_isNode hw) rfl rfl (Nat.le_of_ble_eq_true rfl) ⟨by decide, by decide⟩ (fun r1 hw => ?_)
  refine i_if_eq (tgt := 15) (n := 8) C 3 rfl rfl rfl (fun c2 => ?_) (fun c2 => ?_)
  · replace hw := hw.1 c2
    refine i_ldc (n := 17) C 7 rfl rfl w_6_202 ?_
    exact hret _ A _ _ _ _ rfl hw h (C.dg (k := 8) rfl)
  · replace hw := hw.2 c2
    refine i_iload_n (n := 9) C 4 rfl rfl rfl hl 1 rfl ?_
    refine i_callSp (rest := []) (n := 12) C 5 rfl rfl hl h (kS_Mo_221 ⟨by decide, by decide⟩) (m_Mo_isRow hw) rfl rfl (Nat.le_of_ble_eq_true rfl) ⟨by decide, by decide⟩ (fun r3 hw => ?_)
    refine i_if_ne (tgt := 18) (n := 15) C 6 rfl rfl rfl (fun c4 => ?_) (fun c4 => ?_)
    · replace hw := hw.1 c4
      refine i_aload_n (n := 19) C 9 rfl rfl rfl hl 0 rfl ?_
      refine i_iload_n (n := 20) C 10 rfl rfl rfl hl 1 rfl ?_
      refine i_iload_n (n := 21) C 11 rfl rfl rfl hl 2 rfl ?_
      refine i_callVp (rest := []) (ci := 11) (qc := (R_Mo, T_Mo, 50)) (n := 24) C 12 rfl rfl hl h rfl (wM_get (h := 0) (by decide)) (kV_Mo_224 ⟨by decide, by decide⟩) (m_Mo_hasPlace hw) rfl rfl (Nat.le_of_ble_eq_true rfl) ⟨by decide, by decide⟩ (fun r5 hw => ?_)
      refine i_if_ne (tgt := 30) (n := 27) C 13 rfl rfl rfl (fun c6 => ?_) (fun c6 => ?_)
      · replace hw := hw.1 c6
        refine i_aload_n (n := 31) C 16 rfl rfl rfl hl 0 rfl ?_
        refine fgM_Mo_77 (n := 34) C 17 rfl rfl h ?_
        refine i_bipush (v := (20 : Int32)) (n := 36) C 18 rfl rfl rfl ?_
        refine i_iload_n (n := 37) C 19 rfl rfl rfl hl 1 rfl ?_
        refine i_imul (n := 38) C 20 rfl rfl ?_
        refine i_iload_n (n := 39) C 21 rfl rfl rfl hl 2 rfl ?_
        refine i_iadd (n := 40) C 22 rfl rfl ?_
        obtain ⟨hb, hw⟩ := hw
        refine i_zald (n := 41) C 23 rfl rfl h (wM_arr 22 (by decide) rfl) hb ?_
        refine i_if_eq (tgt := 47) (n := 44) C 24 rfl rfl rfl (fun c7 => ?_) (fun c7 => ?_)
        · replace hw := hw.1 c7
          refine i_aload_n (n := 48) C 27 rfl rfl rfl hl 0 rfl ?_
          refine fgM_Mo_47 (n := 51) C 28 rfl rfl h ?_
          refine i_iload_n (n := 52) C 29 rfl rfl rfl hl 2 rfl ?_
          refine i_aload_n (n := 53) C 30 rfl rfl rfl hl 0 rfl ?_
          refine fgM_Mo_74 (n := 56) C 31 rfl rfl h ?_
          refine i_bipush (v := (20 : Int32)) (n := 58) C 32 rfl rfl rfl ?_
          refine i_iload_n (n := 59) C 33 rfl rfl rfl hl 1 rfl ?_
          refine i_imul (n := 60) C 34 rfl rfl ?_
          refine i_iload_n (n := 61) C 35 rfl rfl rfl hl 2 rfl ?_
          refine i_iadd (n := 62) C 36 rfl rfl ?_
          obtain ⟨hb, hw⟩ := hw
          refine i_iald (n := 63) C 37 rfl rfl h (wM_arr 21 (by decide) rfl) hb ?_
          refine i_bipush (v := (100 : Int32)) (n := 65) C 38 rfl rfl rfl ?_
          refine i_idiv (n := 66) C 39 rfl rfl (by decide) ?_
          obtain ⟨hb, hw⟩ := hw
          refine i_iast (n := 67) C 40 rfl rfl h (wM_arr 12 (by decide) rfl) hb (wM_sA 12 (by decide) rfl _ _) (fun H locs h => ?_)
          refine i_aload_n (n := 68) C 41 rfl rfl rfl hl 0 rfl ?_
          refine fgM_Mo_47 (n := 71) C 42 rfl rfl h ?_
          refine i_iload_n (n := 72) C 43 rfl rfl rfl hl 2 rfl ?_
          obtain ⟨hb, hw⟩ := hw
          refine i_iald (n := 73) C 44 rfl rfl h (wM_arr 12 (by decide) rfl) hb ?_
          exact hret _ (sA A 12 a2 ((A 21 (((20 : Int32) * a1) + a2).toNatClampNeg) / (100 : Int32))) _ _ _ _ rfl hw h (C.dg (k := 45) rfl)
        · replace hw := hw.2 c7
          refine i_ldc (n := 46) C 25 rfl rfl w_6_204 ?_
          exact hret _ A _ _ _ _ rfl hw h (C.dg (k := 26) rfl)
      · replace hw := hw.2 c6
        refine i_ldc (n := 29) C 14 rfl rfl w_6_203 ?_
        exact hret _ A _ _ _ _ rfl hw h (C.dg (k := 15) rfl)
    · replace hw := hw.2 c4
      refine i_ldc (n := 17) C 7 rfl rfl w_6_202 ?_
      exact hret _ A _ _ _ _ rfl hw h (C.dg (k := 8) rfl)
end S219
section S220
variable {p : Program} {l : Launch} {e : Env} {R : Room} {s : State} {m : MethodId} {args : Array Value} {below : List Frame} {meth : Method} {c : Code} {H : Heap} {locs : List Loc} {cells slots : Nat} {Q : State → Prop}
variable {cc : ByteArray} {pc n nL : Nat} {ls : Array Slot} {rest : List Value} {D : va_G} {cy : Nat → ClassId} {Z : Nat → Prop} {ad : Nat → Nat} {tb : List (Nat × Instr × Nat)} {lv : List (Nat × Value)}
set_option maxHeartbeats 4000000 in
set_option maxRecDepth 100000 in
theorem m_Mo_say {l : Launch} {D : va_G} {cy : Nat → ClassId} {ad : Nat → Nat} {I : Nat → Int32} {A : Nat → Nat → Int32} {a1 : Int32} {P : Int32 → ((Nat → Int32) × (Nat → Nat → Int32)) → Prop} (hw : g_Mo_say I A a1 P) : ∀ sz, Met l y_Mo_say (WL y_Mo_say c_Mo_say 2 (some .int)) { frames := 1, cells := 0, slots := 0, locals := 22 } (va_Pc [.ref (ad 0), .int a1] (PreW D cy (wM cy ad I A) sz)) (va_Qi P (fun u t => PostW D (va_A (wM cy ad I A) sz) ((fun (u : (Nat → Int32) × (Nat → Nat → Int32)) => wM cy ad u.1 u.2) u) t) (va_A (wM cy ad I A) sz)) 0 0 (va_A (wM cy ad I A) sz) := by
  refine met_i (wf := fun (u : (Nat → Int32) × (Nat → Nat → Int32)) => wM cy ad u.1 u.2) R_Mo .int db_Mo_say (by decide) rfl rfl (Nat.le_of_ble_eq_true rfl) ?_
  intro p e s m below meth c Z Q ls C h hl hret
  have hl : lv_has ls 2 [(0, .ref (ad 0)), (1, .int a1)] := hl
  refine i_iload_n (n := 1) C 0 rfl rfl rfl hl 1 rfl ?_
  refine i_bipush (v := (33 : Int32)) (n := 3) C 1 rfl rfl rfl ?_
  refine i_bipush (v := (126 : Int32)) (n := 5) C 2 rfl rfl rfl ?_
  refine i_callSp (rest := []) (n := 8) C 3 rfl rfl hl h (kS_Mo_126 ⟨by decide, by decide⟩) (m_Mo_in hw) rfl rfl (Nat.le_of_ble_eq_true rfl) ⟨by decide, by decide⟩ (fun r1 hw => ?_)
  refine i_if_ne (tgt := 14) (n := 11) C 4 rfl rfl rfl (fun c2 => ?_) (fun c2 => ?_)
  · replace hw := hw.1 c2
    refine i_aload_n (n := 15) C 7 rfl rfl rfl hl 0 rfl ?_
    refine fgM_Mo_212 (n := 18) C 8 rfl rfl h ?_
    refine i_bipush (v := (40 : Int32)) (n := 20) C 9 rfl rfl rfl ?_
    refine i_icmp_ne (tgt := 26) (n := 23) C 10 rfl rfl rfl (fun c3 => ?_) (fun c3 => ?_)
    · replace hw := hw.1 c3
      refine i_aload_n (n := 27) C 13 rfl rfl rfl hl 0 rfl ?_
      refine fgM_Mo_80 (n := 30) C 14 rfl rfl h ?_
      refine i_aload_n (n := 31) C 15 rfl rfl rfl hl 0 rfl ?_
      refine fgM_Mo_212 (n := 34) C 16 rfl rfl h ?_
      refine i_iload_n (n := 35) C 17 rfl rfl rfl hl 1 rfl ?_
      obtain ⟨hb, hw⟩ := hw
      refine i_iast (n := 36) C 18 rfl rfl h (wM_arr 23 (by decide) rfl) hb (wM_sA 23 (by decide) rfl _ _) (fun H locs h => ?_)
      refine i_aload_n (n := 37) C 19 rfl rfl rfl hl 0 rfl ?_
      refine i_dup (n := 38) C 20 rfl rfl rfl ?_
      refine fgM_Mo_212 (n := 41) C 21 rfl rfl h ?_
      refine i_iconst (v := (1 : Int32)) (n := 42) C 22 rfl rfl rfl ?_
      refine i_iadd (n := 43) C 23 rfl rfl ?_
      refine fpM_Mo_212 (n := 46) C 24 rfl rfl h (fun H locs h => ?_)
      refine i_aload_n (n := 47) C 25 rfl rfl rfl hl 0 rfl ?_
      refine fgM_Mo_212 (n := 50) C 26 rfl rfl h ?_
      exact hret _ (va_up I 9 ((I 9) + (1 : Int32)), sA A 23 (I 9) a1) _ _ _ _ rfl hw h (C.dg (k := 27) rfl)
    · replace hw := hw.2 c3
      refine i_bipush (v := (-4 : Int32)) (n := 25) C 11 rfl rfl rfl ?_
      exact hret _ (I, A) _ _ _ _ rfl hw h (C.dg (k := 12) rfl)
  · replace hw := hw.2 c2
    refine i_bipush (v := (-2 : Int32)) (n := 13) C 5 rfl rfl rfl ?_
    exact hret _ (I, A) _ _ _ _ rfl hw h (C.dg (k := 6) rfl)
end S220
section S221
variable {p : Program} {l : Launch} {e : Env} {R : Room} {s : State} {m : MethodId} {args : Array Value} {below : List Frame} {meth : Method} {c : Code} {H : Heap} {locs : List Loc} {cells slots : Nat} {Q : State → Prop}
variable {cc : ByteArray} {pc n nL : Nat} {ls : Array Slot} {rest : List Value} {D : va_G} {cy : Nat → ClassId} {Z : Nat → Prop} {ad : Nat → Nat} {tb : List (Nat × Instr × Nat)} {lv : List (Nat × Value)}
set_option maxHeartbeats 4000000 in
set_option maxRecDepth 100000 in
theorem m_Mo_wipe {l : Launch} {D : va_G} {cy : Nat → ClassId} {ad : Nat → Nat} {I : Nat → Int32} {A : Nat → Nat → Int32}  {P : Int32 → ((Nat → Int32)) → Prop} (hw : g_Mo_wipe I P) : ∀ sz, Met l y_Mo_wipe (WL y_Mo_wipe c_Mo_wipe 2 (some .int)) { frames := 0, cells := 0, slots := 0, locals := 0 } (va_Pc [.ref (ad 0)] (PreW D cy (wM cy ad I A) sz)) (va_Qi P (fun u t => PostW D (va_A (wM cy ad I A) sz) ((fun (u : (Nat → Int32)) => wM cy ad u A) u) t) (va_A (wM cy ad I A) sz)) 0 0 (va_A (wM cy ad I A) sz) := by
  refine met_i (wf := fun (u : (Nat → Int32)) => wM cy ad u A) R_Mo .int db_Mo_wipe (by decide) rfl rfl (Nat.le_of_ble_eq_true rfl) ?_
  intro p e s m below meth c Z Q ls C h hl hret
  have hl : lv_has ls 2 [(0, .ref (ad 0))] := hl
  refine i_aload_n (n := 1) C 0 rfl rfl rfl hl 0 rfl ?_
  refine fgM_Mo_212 (n := 4) C 1 rfl rfl h ?_
  refine lv_topi (fun y1 ey1 => ?_)
  replace hw := hw y1 ey1
  refine i_istore_n (lv' := [(1, .int y1), (0, .ref (ad 0))]) (n := 5) C 2 rfl rfl rfl hl (by decide) rfl (fun ls hl => ?_)
  refine i_aload_n (n := 6) C 3 rfl rfl rfl hl 1 rfl ?_
  refine i_iconst (v := (0 : Int32)) (n := 7) C 4 rfl rfl rfl ?_
  refine fpM_Mo_212 (n := 10) C 5 rfl rfl h (fun H locs h => ?_)
  refine i_iload_n (n := 11) C 6 rfl rfl rfl hl 0 rfl ?_
  exact hret _ (va_up I 9 (0 : Int32)) _ _ _ _ rfl hw h (C.dg (k := 7) rfl)
end S221
section S222
variable {p : Program} {l : Launch} {e : Env} {R : Room} {s : State} {m : MethodId} {args : Array Value} {below : List Frame} {meth : Method} {c : Code} {H : Heap} {locs : List Loc} {cells slots : Nat} {Q : State → Prop}
variable {cc : ByteArray} {pc n nL : Nat} {ls : Array Slot} {rest : List Value} {D : va_G} {cy : Nat → ClassId} {Z : Nat → Prop} {ad : Nat → Nat} {tb : List (Nat × Instr × Nat)} {lv : List (Nat × Value)}
set_option maxHeartbeats 4000000 in
set_option maxRecDepth 100000 in
theorem e_Mo_faultOf_306 {I : Nat → Int32} {A : Nat → Nat → Int32}  {P : Int32 → Prop} {kb4 : Int32 → Int32 → Prop} (C : CX D cy R_Mo c_Mo_faultOf tb_Mo_faultOf 5 p s m args c Z) (h : HXw D Z s.heap H locs (wM cy ad I A)) (hret : RetP p l e { frames := 1, cells := 0, slots := 0, locals := 22 } s m args below meth c c_Mo_faultOf .int H locs Q P)
    (hb4 : ∀ (x1 : Int32) (x2 : Int32) (ls : Array Slot), lv_has ls 5 [(0, .ref (ad 0)), (1, .int x1), (2, .int x2)] → kb4 x1 x2 → W p l e { frames := 1, cells := 0, slots := 0, locals := 22 } s m args below meth c H locs 0 0 Q (F0 m 4 ls [])) :
    ∀ (x2 : Int32) (x4 : Int32) (ls : Array Slot), lv_has ls 5 [(0, .ref (ad 0)), (2, .int x2), (4, .int x4)] → g_Mo_faultOf_306 I A P kb4 x2 x4 → W p l e { frames := 1, cells := 0, slots := 0, locals := 22 } s m args below meth c H locs 0 0 Q (F0 m 306 ls []) := by
  intro x2 x4 ls hl hw
  refine i_iload (n := 308) C 151 rfl rfl hl 2 rfl ?_
  refine i_if_ge (tgt := 313) (n := 311) C 152 rfl rfl rfl (fun c15 => ?_) (fun c15 => ?_)
  · replace hw := hw.1 c15
    refine i_iload (n := 315) C 155 rfl rfl hl 2 rfl ?_
    refine i_istore_n (lv' := [(1, .int x4), (0, .ref (ad 0)), (2, .int x2), (4, .int x4)]) (n := 316) C 156 rfl rfl rfl hl (by decide) rfl (fun ls hl => ?_)
    refine i_iinc (v := x2 + (1 : Int32)) (lv' := [(2, .int (x2 + (1 : Int32))), (1, .int x4), (0, .ref (ad 0)), (4, .int x4)]) (n := 319) C 157 rfl rfl hl 2 rfl rfl (by decide) rfl (fun ls hl => ?_)
    refine i_goto (tgt := 4) C 158 rfl rfl ?_
    exact hb4 x4 (x2 + (1 : Int32)) ls (lv_sub hl [2, 1, 0] rfl) hw
  · replace hw := hw.2 c15
    refine i_iload_n (n := 312) C 153 rfl rfl rfl hl 1 rfl ?_
    exact hret _ _ _ rfl hw (C.dg (k := 154) rfl)
set_option maxHeartbeats 4000000 in
set_option maxRecDepth 100000 in
theorem e_Mo_faultOf_281 {I : Nat → Int32} {A : Nat → Nat → Int32}  {P : Int32 → Prop} {kb4 : Int32 → Int32 → Prop} (C : CX D cy R_Mo c_Mo_faultOf tb_Mo_faultOf 5 p s m args c Z) (h : HXw D Z s.heap H locs (wM cy ad I A)) (hret : RetP p l e { frames := 1, cells := 0, slots := 0, locals := 22 } s m args below meth c c_Mo_faultOf .int H locs Q P)
    (hb4 : ∀ (x1 : Int32) (x2 : Int32) (ls : Array Slot), lv_has ls 5 [(0, .ref (ad 0)), (1, .int x1), (2, .int x2)] → kb4 x1 x2 → W p l e { frames := 1, cells := 0, slots := 0, locals := 22 } s m args below meth c H locs 0 0 Q (F0 m 4 ls [])) :
    ∀ (x2 : Int32) (s0 : Int32) (ls : Array Slot), lv_has ls 5 [(0, .ref (ad 0)), (2, .int x2)] → g_Mo_faultOf_281 I A P kb4 x2 s0 → W p l e { frames := 1, cells := 0, slots := 0, locals := 22 } s m args below meth c H locs 0 0 Q (F0 m 281 ls [.int s0]) := by
  intro x2 s0 ls hl hw
  refine i_istore (lv' := [(4, .int s0), (0, .ref (ad 0)), (2, .int x2)]) (n := 283) C 139 rfl rfl hl (by decide) rfl (fun ls hl => ?_)
  refine i_goto (tgt := 306) C 140 rfl rfl ?_
  exact e_Mo_faultOf_306 C h hret hb4 x2 s0 ls (lv_sub hl [1, 2, 0] rfl) hw
set_option maxHeartbeats 4000000 in
set_option maxRecDepth 100000 in
theorem e_Mo_faultOf_268 {I : Nat → Int32} {A : Nat → Nat → Int32}  {P : Int32 → Prop} {kb4 : Int32 → Int32 → Prop} (C : CX D cy R_Mo c_Mo_faultOf tb_Mo_faultOf 5 p s m args c Z) (h : HXw D Z s.heap H locs (wM cy ad I A)) (hret : RetP p l e { frames := 1, cells := 0, slots := 0, locals := 22 } s m args below meth c c_Mo_faultOf .int H locs Q P)
    (hb4 : ∀ (x1 : Int32) (x2 : Int32) (ls : Array Slot), lv_has ls 5 [(0, .ref (ad 0)), (1, .int x1), (2, .int x2)] → kb4 x1 x2 → W p l e { frames := 1, cells := 0, slots := 0, locals := 22 } s m args below meth c H locs 0 0 Q (F0 m 4 ls [])) :
    ∀ (x2 : Int32) (s0 : Int32) (s1 : Int32) (s2 : Int32) (ls : Array Slot), lv_has ls 5 [(0, .ref (ad 0)), (2, .int x2)] → g_Mo_faultOf_268 I A P kb4 x2 s0 s1 s2 → W p l e { frames := 1, cells := 0, slots := 0, locals := 22 } s m args below meth c H locs 0 0 Q (F0 m 268 ls [.int s2, .int s1, .int s0]) := by
  intro x2 s0 s1 s2 ls hl hw
  refine i_callSp (rest := []) (n := 271) C 134 rfl rfl hl h (kS_Mo_126 ⟨by decide, by decide⟩) (m_Mo_in hw) rfl rfl (Nat.le_of_ble_eq_true rfl) ⟨by decide, by decide⟩ (fun r13 hw => ?_)
  refine i_if_eq (tgt := 279) (n := 274) C 135 rfl rfl rfl (fun c14 => ?_) (fun c14 => ?_)
  · replace hw := hw.1 c14
    refine i_bipush (v := (-6 : Int32)) (n := 281) C 138 rfl rfl rfl ?_
    exact e_Mo_faultOf_281 C h hret hb4 x2 (-6 : Int32) ls hl hw
  · replace hw := hw.2 c14
    refine i_bipush (v := (12 : Int32)) (n := 276) C 136 rfl rfl rfl ?_
    refine i_goto (tgt := 281) C 137 rfl rfl ?_
    exact e_Mo_faultOf_281 C h hret hb4 x2 (12 : Int32) ls hl hw
set_option maxHeartbeats 4000000 in
set_option maxRecDepth 100000 in
theorem e_Mo_faultOf_252 {I : Nat → Int32} {A : Nat → Nat → Int32}  {P : Int32 → Prop} {kb4 : Int32 → Int32 → Prop} (C : CX D cy R_Mo c_Mo_faultOf tb_Mo_faultOf 5 p s m args c Z) (h : HXw D Z s.heap H locs (wM cy ad I A)) (hret : RetP p l e { frames := 1, cells := 0, slots := 0, locals := 22 } s m args below meth c c_Mo_faultOf .int H locs Q P)
    (hb4 : ∀ (x1 : Int32) (x2 : Int32) (ls : Array Slot), lv_has ls 5 [(0, .ref (ad 0)), (1, .int x1), (2, .int x2)] → kb4 x1 x2 → W p l e { frames := 1, cells := 0, slots := 0, locals := 22 } s m args below meth c H locs 0 0 Q (F0 m 4 ls [])) :
    ∀ (x1 : Int32) (x2 : Int32) (x3 : Int32) (ls : Array Slot), lv_has ls 5 [(0, .ref (ad 0)), (1, .int x1), (2, .int x2), (3, .int x3)] → g_Mo_faultOf_252 I A P kb4 x1 x2 x3 → W p l e { frames := 1, cells := 0, slots := 0, locals := 22 } s m args below meth c H locs 0 0 Q (F0 m 252 ls []) := by
  intro x1 x2 x3 ls hl hw
  refine i_iload_n (n := 253) C 126 rfl rfl rfl hl 3 rfl ?_
  refine i_bipush (v := (97 : Int32)) (n := 255) C 127 rfl rfl rfl ?_
  refine i_iload_n (n := 256) C 128 rfl rfl rfl hl 1 rfl ?_
  refine i_bipush (v := (10 : Int32)) (n := 258) C 129 rfl rfl rfl ?_
  refine i_icmp_ne (tgt := 266) (n := 261) C 130 rfl rfl rfl (fun c12 => ?_) (fun c12 => ?_)
  · replace hw := hw.1 c12
    refine i_bipush (v := (114 : Int32)) (n := 268) C 133 rfl rfl rfl ?_
    exact e_Mo_faultOf_268 C h hret hb4 x2 x3 (97 : Int32) (114 : Int32) ls (lv_sub hl [0, 2] rfl) hw
  · replace hw := hw.2 c12
    refine i_bipush (v := (108 : Int32)) (n := 263) C 131 rfl rfl rfl ?_
    refine i_goto (tgt := 268) C 132 rfl rfl ?_
    exact e_Mo_faultOf_268 C h hret hb4 x2 x3 (97 : Int32) (108 : Int32) ls (lv_sub hl [0, 2] rfl) hw
set_option maxHeartbeats 4000000 in
set_option maxRecDepth 100000 in
theorem e_Mo_faultOf_304 {I : Nat → Int32} {A : Nat → Nat → Int32}  {P : Int32 → Prop} {kb4 : Int32 → Int32 → Prop} (C : CX D cy R_Mo c_Mo_faultOf tb_Mo_faultOf 5 p s m args c Z) (h : HXw D Z s.heap H locs (wM cy ad I A)) (hret : RetP p l e { frames := 1, cells := 0, slots := 0, locals := 22 } s m args below meth c c_Mo_faultOf .int H locs Q P)
    (hb4 : ∀ (x1 : Int32) (x2 : Int32) (ls : Array Slot), lv_has ls 5 [(0, .ref (ad 0)), (1, .int x1), (2, .int x2)] → kb4 x1 x2 → W p l e { frames := 1, cells := 0, slots := 0, locals := 22 } s m args below meth c H locs 0 0 Q (F0 m 4 ls [])) :
    ∀ (x2 : Int32) (s0 : Int32) (ls : Array Slot), lv_has ls 5 [(0, .ref (ad 0)), (2, .int x2)] → g_Mo_faultOf_304 I A P kb4 x2 s0 → W p l e { frames := 1, cells := 0, slots := 0, locals := 22 } s m args below meth c H locs 0 0 Q (F0 m 304 ls [.int s0]) := by
  intro x2 s0 ls hl hw
  refine i_istore (lv' := [(4, .int s0), (0, .ref (ad 0)), (2, .int x2)]) (n := 306) C 150 rfl rfl hl (by decide) rfl (fun ls hl => ?_)
  exact e_Mo_faultOf_306 C h hret hb4 x2 s0 ls (lv_sub hl [1, 2, 0] rfl) hw
set_option maxHeartbeats 4000000 in
set_option maxRecDepth 100000 in
theorem e_Mo_faultOf_235 {I : Nat → Int32} {A : Nat → Nat → Int32}  {P : Int32 → Prop} {kb4 : Int32 → Int32 → Prop} (C : CX D cy R_Mo c_Mo_faultOf tb_Mo_faultOf 5 p s m args c Z) (h : HXw D Z s.heap H locs (wM cy ad I A)) (hret : RetP p l e { frames := 1, cells := 0, slots := 0, locals := 22 } s m args below meth c c_Mo_faultOf .int H locs Q P)
    (hb4 : ∀ (x1 : Int32) (x2 : Int32) (ls : Array Slot), lv_has ls 5 [(0, .ref (ad 0)), (1, .int x1), (2, .int x2)] → kb4 x1 x2 → W p l e { frames := 1, cells := 0, slots := 0, locals := 22 } s m args below meth c H locs 0 0 Q (F0 m 4 ls [])) :
    ∀ (x2 : Int32) (s0 : Int32) (ls : Array Slot), lv_has ls 5 [(0, .ref (ad 0)), (2, .int x2)] → g_Mo_faultOf_235 I A P kb4 x2 s0 → W p l e { frames := 1, cells := 0, slots := 0, locals := 22 } s m args below meth c H locs 0 0 Q (F0 m 235 ls [.int s0]) := by
  intro x2 s0 ls hl hw
  refine i_istore (lv' := [(4, .int s0), (0, .ref (ad 0)), (2, .int x2)]) (n := 237) C 118 rfl rfl hl (by decide) rfl (fun ls hl => ?_)
  refine i_goto (tgt := 306) C 119 rfl rfl ?_
  exact e_Mo_faultOf_306 C h hret hb4 x2 s0 ls (lv_sub hl [1, 2, 0] rfl) hw
set_option maxHeartbeats 4000000 in
set_option maxRecDepth 100000 in
theorem e_Mo_faultOf_211 {I : Nat → Int32} {A : Nat → Nat → Int32}  {P : Int32 → Prop} {kb4 : Int32 → Int32 → Prop} (C : CX D cy R_Mo c_Mo_faultOf tb_Mo_faultOf 5 p s m args c Z) (h : HXw D Z s.heap H locs (wM cy ad I A)) (hret : RetP p l e { frames := 1, cells := 0, slots := 0, locals := 22 } s m args below meth c c_Mo_faultOf .int H locs Q P)
    (hb4 : ∀ (x1 : Int32) (x2 : Int32) (ls : Array Slot), lv_has ls 5 [(0, .ref (ad 0)), (1, .int x1), (2, .int x2)] → kb4 x1 x2 → W p l e { frames := 1, cells := 0, slots := 0, locals := 22 } s m args below meth c H locs 0 0 Q (F0 m 4 ls [])) :
    ∀ (x2 : Int32) (ls : Array Slot), lv_has ls 5 [(0, .ref (ad 0)), (2, .int x2)] → g_Mo_faultOf_211 I A P kb4 x2 → W p l e { frames := 1, cells := 0, slots := 0, locals := 22 } s m args below meth c H locs 0 0 Q (F0 m 211 ls []) := by
  intro x2 ls hl hw
  refine i_bipush (v := (10 : Int32)) (n := 213) C 107 rfl rfl rfl ?_
  refine i_goto (tgt := 235) C 108 rfl rfl ?_
  exact e_Mo_faultOf_235 C h hret hb4 x2 (10 : Int32) ls hl hw
set_option maxHeartbeats 4000000 in
set_option maxRecDepth 100000 in
theorem e_Mo_faultOf_228 {I : Nat → Int32} {A : Nat → Nat → Int32}  {P : Int32 → Prop} {kb4 : Int32 → Int32 → Prop} (C : CX D cy R_Mo c_Mo_faultOf tb_Mo_faultOf 5 p s m args c Z) (h : HXw D Z s.heap H locs (wM cy ad I A)) (hret : RetP p l e { frames := 1, cells := 0, slots := 0, locals := 22 } s m args below meth c c_Mo_faultOf .int H locs Q P)
    (hb4 : ∀ (x1 : Int32) (x2 : Int32) (ls : Array Slot), lv_has ls 5 [(0, .ref (ad 0)), (1, .int x1), (2, .int x2)] → kb4 x1 x2 → W p l e { frames := 1, cells := 0, slots := 0, locals := 22 } s m args below meth c H locs 0 0 Q (F0 m 4 ls [])) :
    ∀ (x2 : Int32) (ls : Array Slot), lv_has ls 5 [(0, .ref (ad 0)), (2, .int x2)] → g_Mo_faultOf_228 I A P kb4 x2 → W p l e { frames := 1, cells := 0, slots := 0, locals := 22 } s m args below meth c H locs 0 0 Q (F0 m 228 ls []) := by
  intro x2 ls hl hw
  refine i_bipush (v := (11 : Int32)) (n := 230) C 115 rfl rfl rfl ?_
  refine i_goto (tgt := 235) C 116 rfl rfl ?_
  exact e_Mo_faultOf_235 C h hret hb4 x2 (11 : Int32) ls hl hw
set_option maxHeartbeats 4000000 in
set_option maxRecDepth 100000 in
theorem e_Mo_faultOf_188 {I : Nat → Int32} {A : Nat → Nat → Int32}  {P : Int32 → Prop} {kb4 : Int32 → Int32 → Prop} (C : CX D cy R_Mo c_Mo_faultOf tb_Mo_faultOf 5 p s m args c Z) (h : HXw D Z s.heap H locs (wM cy ad I A)) (hret : RetP p l e { frames := 1, cells := 0, slots := 0, locals := 22 } s m args below meth c c_Mo_faultOf .int H locs Q P)
    (hb4 : ∀ (x1 : Int32) (x2 : Int32) (ls : Array Slot), lv_has ls 5 [(0, .ref (ad 0)), (1, .int x1), (2, .int x2)] → kb4 x1 x2 → W p l e { frames := 1, cells := 0, slots := 0, locals := 22 } s m args below meth c H locs 0 0 Q (F0 m 4 ls [])) :
    ∀ (x2 : Int32) (s0 : Int32) (ls : Array Slot), lv_has ls 5 [(0, .ref (ad 0)), (2, .int x2)] → g_Mo_faultOf_188 I A P kb4 x2 s0 → W p l e { frames := 1, cells := 0, slots := 0, locals := 22 } s m args below meth c H locs 0 0 Q (F0 m 188 ls [.int s0]) := by
  intro x2 s0 ls hl hw
  refine i_istore (lv' := [(4, .int s0), (0, .ref (ad 0)), (2, .int x2)]) (n := 190) C 96 rfl rfl hl (by decide) rfl (fun ls hl => ?_)
  refine i_goto (tgt := 306) C 97 rfl rfl ?_
  exact e_Mo_faultOf_306 C h hret hb4 x2 s0 ls (lv_sub hl [1, 2, 0] rfl) hw
set_option maxHeartbeats 4000000 in
set_option maxRecDepth 100000 in
theorem e_Mo_faultOf_155 {I : Nat → Int32} {A : Nat → Nat → Int32}  {P : Int32 → Prop} {kb4 : Int32 → Int32 → Prop} (C : CX D cy R_Mo c_Mo_faultOf tb_Mo_faultOf 5 p s m args c Z) (h : HXw D Z s.heap H locs (wM cy ad I A)) (hret : RetP p l e { frames := 1, cells := 0, slots := 0, locals := 22 } s m args below meth c c_Mo_faultOf .int H locs Q P)
    (hb4 : ∀ (x1 : Int32) (x2 : Int32) (ls : Array Slot), lv_has ls 5 [(0, .ref (ad 0)), (1, .int x1), (2, .int x2)] → kb4 x1 x2 → W p l e { frames := 1, cells := 0, slots := 0, locals := 22 } s m args below meth c H locs 0 0 Q (F0 m 4 ls [])) :
    ∀ (x1 : Int32) (x2 : Int32) (x3 : Int32) (x4 : Int32) (ls : Array Slot), lv_has ls 5 [(0, .ref (ad 0)), (1, .int x1), (2, .int x2), (3, .int x3), (4, .int x4)] → g_Mo_faultOf_155 I A P kb4 x1 x2 x3 x4 → W p l e { frames := 1, cells := 0, slots := 0, locals := 22 } s m args below meth c H locs 0 0 Q (F0 m 155 ls []) := by
  intro x1 x2 x3 x4 ls hl hw
  refine i_iload_n (n := 156) C 80 rfl rfl rfl hl 1 rfl ?_
  refine i_iconst (v := (4 : Int32)) (n := 157) C 81 rfl rfl rfl ?_
  refine i_bipush (v := (8 : Int32)) (n := 159) C 82 rfl rfl rfl ?_
  refine i_callSp (rest := []) (n := 162) C 83 rfl rfl hl h (kS_Mo_126 ⟨by decide, by decide⟩) (m_Mo_in hw) rfl rfl (Nat.le_of_ble_eq_true rfl) ⟨by decide, by decide⟩ (fun r8 hw => ?_)
  refine i_if_eq (tgt := 193) (n := 165) C 84 rfl rfl rfl (fun c9 => ?_) (fun c9 => ?_)
  · replace hw := hw.1 c9
    refine i_iload_n (n := 194) C 98 rfl rfl rfl hl 1 rfl ?_
    refine i_bipush (v := (9 : Int32)) (n := 196) C 99 rfl rfl rfl ?_
    refine i_icmp_ne (tgt := 240) (n := 199) C 100 rfl rfl rfl (fun c10 => ?_) (fun c10 => ?_)
    · replace hw := hw.1 c10
      refine i_iload_n (n := 241) C 120 rfl rfl rfl hl 1 rfl ?_
      refine i_bipush (v := (10 : Int32)) (n := 243) C 121 rfl rfl rfl ?_
      refine i_icmp_eq (tgt := 252) (n := 246) C 122 rfl rfl rfl (fun c11 => ?_) (fun c11 => ?_)
      · replace hw := hw.1 c11
        exact e_Mo_faultOf_252 C h hret hb4 x1 x2 x3 ls (lv_sub hl [0, 1, 2, 3] rfl) hw
      · replace hw := hw.2 c11
        refine i_iload_n (n := 247) C 123 rfl rfl rfl hl 1 rfl ?_
        refine i_bipush (v := (11 : Int32)) (n := 249) C 124 rfl rfl rfl ?_
        refine i_icmp_ne (tgt := 286) (n := 252) C 125 rfl rfl rfl (fun c16 => ?_) (fun c16 => ?_)
        · replace hw := hw.1 c16
          refine i_iload_n (n := 287) C 141 rfl rfl rfl hl 1 rfl ?_
          refine i_bipush (v := (12 : Int32)) (n := 289) C 142 rfl rfl rfl ?_
          refine i_icmp_ne (tgt := 306) (n := 292) C 143 rfl rfl rfl (fun c17 => ?_) (fun c17 => ?_)
          · replace hw := hw.1 c17
            exact e_Mo_faultOf_306 C h hret hb4 x2 x4 ls (lv_sub hl [0, 2, 4] rfl) hw
          · replace hw := hw.2 c17
            refine i_iload_n (n := 293) C 144 rfl rfl rfl hl 3 rfl ?_
            refine i_bipush (v := (59 : Int32)) (n := 295) C 145 rfl rfl rfl ?_
            refine i_icmp_ne (tgt := 302) (n := 298) C 146 rfl rfl rfl (fun c18 => ?_) (fun c18 => ?_)
            · replace hw := hw.1 c18
              refine i_bipush (v := (-6 : Int32)) (n := 304) C 149 rfl rfl rfl ?_
              exact e_Mo_faultOf_304 C h hret hb4 x2 (-6 : Int32) ls (lv_sub hl [0, 2] rfl) hw
            · replace hw := hw.2 c18
              refine i_iconst (v := (0 : Int32)) (n := 299) C 147 rfl rfl rfl ?_
              refine i_goto (tgt := 304) C 148 rfl rfl ?_
              exact e_Mo_faultOf_304 C h hret hb4 x2 (0 : Int32) ls (lv_sub hl [0, 2] rfl) hw
        · replace hw := hw.2 c16
          exact e_Mo_faultOf_252 C h hret hb4 x1 x2 x3 ls (lv_sub hl [0, 1, 2, 3] rfl) hw
    · replace hw := hw.2 c10
      refine i_iload_n (n := 200) C 101 rfl rfl rfl hl 3 rfl ?_
      refine i_bipush (v := (76 : Int32)) (n := 202) C 102 rfl rfl rfl ?_
      refine i_icmp_eq (tgt := 211) (n := 205) C 103 rfl rfl rfl (fun c19 => ?_) (fun c19 => ?_)
      · replace hw := hw.1 c19
        exact e_Mo_faultOf_211 C h hret hb4 x2 ls (lv_sub hl [0, 2] rfl) hw
      · replace hw := hw.2 c19
        refine i_iload_n (n := 206) C 104 rfl rfl rfl hl 3 rfl ?_
        refine i_bipush (v := (68 : Int32)) (n := 208) C 105 rfl rfl rfl ?_
        refine i_icmp_ne (tgt := 216) (n := 211) C 106 rfl rfl rfl (fun c20 => ?_) (fun c20 => ?_)
        · replace hw := hw.1 c20
          refine i_iload_n (n := 217) C 109 rfl rfl rfl hl 3 rfl ?_
          refine i_bipush (v := (83 : Int32)) (n := 219) C 110 rfl rfl rfl ?_
          refine i_icmp_eq (tgt := 228) (n := 222) C 111 rfl rfl rfl (fun c21 => ?_) (fun c21 => ?_)
          · replace hw := hw.1 c21
            exact e_Mo_faultOf_228 C h hret hb4 x2 ls (lv_sub hl [0, 2] rfl) hw
          · replace hw := hw.2 c21
            refine i_iload_n (n := 223) C 112 rfl rfl rfl hl 3 rfl ?_
            refine i_bipush (v := (79 : Int32)) (n := 225) C 113 rfl rfl rfl ?_
            refine i_icmp_ne (tgt := 233) (n := 228) C 114 rfl rfl rfl (fun c22 => ?_) (fun c22 => ?_)
            · replace hw := hw.1 c22
              refine i_bipush (v := (-6 : Int32)) (n := 235) C 117 rfl rfl rfl ?_
              exact e_Mo_faultOf_235 C h hret hb4 x2 (-6 : Int32) ls (lv_sub hl [0, 2] rfl) hw
            · replace hw := hw.2 c22
              exact e_Mo_faultOf_228 C h hret hb4 x2 ls (lv_sub hl [0, 2] rfl) hw
        · replace hw := hw.2 c20
          exact e_Mo_faultOf_211 C h hret hb4 x2 ls (lv_sub hl [0, 2] rfl) hw
  · replace hw := hw.2 c9
    refine i_iload_n (n := 166) C 85 rfl rfl rfl hl 3 rfl ?_
    refine i_bipush (v := (38 : Int32)) (n := 168) C 86 rfl rfl rfl ?_
    refine i_icmp_ne (tgt := 175) (n := 171) C 87 rfl rfl rfl (fun c23 => ?_) (fun c23 => ?_)
    · replace hw := hw.1 c23
      refine i_iload_n (n := 176) C 90 rfl rfl rfl hl 3 rfl ?_
      refine i_bipush (v := (58 : Int32)) (n := 178) C 91 rfl rfl rfl ?_
      refine i_icmp_ne (tgt := 186) (n := 181) C 92 rfl rfl rfl (fun c24 => ?_) (fun c24 => ?_)
      · replace hw := hw.1 c24
        refine i_bipush (v := (-6 : Int32)) (n := 188) C 95 rfl rfl rfl ?_
        exact e_Mo_faultOf_188 C h hret hb4 x2 (-6 : Int32) ls (lv_sub hl [0, 2] rfl) hw
      · replace hw := hw.2 c24
        refine i_bipush (v := (9 : Int32)) (n := 183) C 93 rfl rfl rfl ?_
        refine i_goto (tgt := 188) C 94 rfl rfl ?_
        exact e_Mo_faultOf_188 C h hret hb4 x2 (9 : Int32) ls (lv_sub hl [0, 2] rfl) hw
    · replace hw := hw.2 c23
      refine i_iconst (v := (0 : Int32)) (n := 172) C 88 rfl rfl rfl ?_
      refine i_goto (tgt := 188) C 89 rfl rfl ?_
      exact e_Mo_faultOf_188 C h hret hb4 x2 (0 : Int32) ls (lv_sub hl [0, 2] rfl) hw
set_option maxHeartbeats 4000000 in
set_option maxRecDepth 100000 in
theorem e_Mo_faultOf_150 {I : Nat → Int32} {A : Nat → Nat → Int32}  {P : Int32 → Prop} {kb4 : Int32 → Int32 → Prop} (C : CX D cy R_Mo c_Mo_faultOf tb_Mo_faultOf 5 p s m args c Z) (h : HXw D Z s.heap H locs (wM cy ad I A)) (hret : RetP p l e { frames := 1, cells := 0, slots := 0, locals := 22 } s m args below meth c c_Mo_faultOf .int H locs Q P)
    (hb4 : ∀ (x1 : Int32) (x2 : Int32) (ls : Array Slot), lv_has ls 5 [(0, .ref (ad 0)), (1, .int x1), (2, .int x2)] → kb4 x1 x2 → W p l e { frames := 1, cells := 0, slots := 0, locals := 22 } s m args below meth c H locs 0 0 Q (F0 m 4 ls [])) :
    ∀ (x2 : Int32) (s0 : Int32) (ls : Array Slot), lv_has ls 5 [(0, .ref (ad 0)), (2, .int x2)] → g_Mo_faultOf_150 I A P kb4 x2 s0 → W p l e { frames := 1, cells := 0, slots := 0, locals := 22 } s m args below meth c H locs 0 0 Q (F0 m 150 ls [.int s0]) := by
  intro x2 s0 ls hl hw
  refine i_istore (lv' := [(4, .int s0), (0, .ref (ad 0)), (2, .int x2)]) (n := 152) C 78 rfl rfl hl (by decide) rfl (fun ls hl => ?_)
  refine i_goto (tgt := 306) C 79 rfl rfl ?_
  exact e_Mo_faultOf_306 C h hret hb4 x2 s0 ls (lv_sub hl [1, 2, 0] rfl) hw
set_option maxHeartbeats 4000000 in
set_option maxRecDepth 100000 in
theorem e_Mo_faultOf_110 {I : Nat → Int32} {A : Nat → Nat → Int32}  {P : Int32 → Prop} {kb4 : Int32 → Int32 → Prop} (C : CX D cy R_Mo c_Mo_faultOf tb_Mo_faultOf 5 p s m args c Z) (h : HXw D Z s.heap H locs (wM cy ad I A)) (hret : RetP p l e { frames := 1, cells := 0, slots := 0, locals := 22 } s m args below meth c c_Mo_faultOf .int H locs Q P)
    (hb4 : ∀ (x1 : Int32) (x2 : Int32) (ls : Array Slot), lv_has ls 5 [(0, .ref (ad 0)), (1, .int x1), (2, .int x2)] → kb4 x1 x2 → W p l e { frames := 1, cells := 0, slots := 0, locals := 22 } s m args below meth c H locs 0 0 Q (F0 m 4 ls [])) :
    ∀ (x2 : Int32) (s0 : Int32) (ls : Array Slot), lv_has ls 5 [(0, .ref (ad 0)), (2, .int x2)] → g_Mo_faultOf_110 I A P kb4 x2 s0 → W p l e { frames := 1, cells := 0, slots := 0, locals := 22 } s m args below meth c H locs 0 0 Q (F0 m 110 ls [.int s0]) := by
  intro x2 s0 ls hl hw
  refine i_istore (lv' := [(4, .int s0), (0, .ref (ad 0)), (2, .int x2)]) (n := 112) C 58 rfl rfl hl (by decide) rfl (fun ls hl => ?_)
  refine i_goto (tgt := 306) C 59 rfl rfl ?_
  exact e_Mo_faultOf_306 C h hret hb4 x2 s0 ls (lv_sub hl [1, 2, 0] rfl) hw
set_option maxHeartbeats 4000000 in
set_option maxRecDepth 100000 in
theorem e_Mo_faultOf_104 {I : Nat → Int32} {A : Nat → Nat → Int32}  {P : Int32 → Prop} {kb4 : Int32 → Int32 → Prop} (C : CX D cy R_Mo c_Mo_faultOf tb_Mo_faultOf 5 p s m args c Z) (h : HXw D Z s.heap H locs (wM cy ad I A)) (hret : RetP p l e { frames := 1, cells := 0, slots := 0, locals := 22 } s m args below meth c c_Mo_faultOf .int H locs Q P)
    (hb4 : ∀ (x1 : Int32) (x2 : Int32) (ls : Array Slot), lv_has ls 5 [(0, .ref (ad 0)), (1, .int x1), (2, .int x2)] → kb4 x1 x2 → W p l e { frames := 1, cells := 0, slots := 0, locals := 22 } s m args below meth c H locs 0 0 Q (F0 m 4 ls [])) :
    ∀ (x2 : Int32) (ls : Array Slot), lv_has ls 5 [(0, .ref (ad 0)), (2, .int x2)] → g_Mo_faultOf_104 I A P kb4 x2 → W p l e { frames := 1, cells := 0, slots := 0, locals := 22 } s m args below meth c H locs 0 0 Q (F0 m 104 ls []) := by
  intro x2 ls hl hw
  refine i_iconst (v := (3 : Int32)) (n := 105) C 55 rfl rfl rfl ?_
  refine i_goto (tgt := 110) C 56 rfl rfl ?_
  exact e_Mo_faultOf_110 C h hret hb4 x2 (3 : Int32) ls hl hw
set_option maxHeartbeats 4000000 in
set_option maxRecDepth 100000 in
theorem e_Mo_faultOf_82 {I : Nat → Int32} {A : Nat → Nat → Int32}  {P : Int32 → Prop} {kb4 : Int32 → Int32 → Prop} (C : CX D cy R_Mo c_Mo_faultOf tb_Mo_faultOf 5 p s m args c Z) (h : HXw D Z s.heap H locs (wM cy ad I A)) (hret : RetP p l e { frames := 1, cells := 0, slots := 0, locals := 22 } s m args below meth c c_Mo_faultOf .int H locs Q P)
    (hb4 : ∀ (x1 : Int32) (x2 : Int32) (ls : Array Slot), lv_has ls 5 [(0, .ref (ad 0)), (1, .int x1), (2, .int x2)] → kb4 x1 x2 → W p l e { frames := 1, cells := 0, slots := 0, locals := 22 } s m args below meth c H locs 0 0 Q (F0 m 4 ls [])) :
    ∀ (x2 : Int32) (s0 : Int32) (ls : Array Slot), lv_has ls 5 [(0, .ref (ad 0)), (2, .int x2)] → g_Mo_faultOf_82 I A P kb4 x2 s0 → W p l e { frames := 1, cells := 0, slots := 0, locals := 22 } s m args below meth c H locs 0 0 Q (F0 m 82 ls [.int s0]) := by
  intro x2 s0 ls hl hw
  refine i_istore (lv' := [(4, .int s0), (0, .ref (ad 0)), (2, .int x2)]) (n := 84) C 44 rfl rfl hl (by decide) rfl (fun ls hl => ?_)
  refine i_goto (tgt := 306) C 45 rfl rfl ?_
  exact e_Mo_faultOf_306 C h hret hb4 x2 s0 ls (lv_sub hl [1, 2, 0] rfl) hw
set_option maxHeartbeats 4000000 in
set_option maxRecDepth 100000 in
theorem e_Mo_faultOf_55 {I : Nat → Int32} {A : Nat → Nat → Int32}  {P : Int32 → Prop} {kb4 : Int32 → Int32 → Prop} (C : CX D cy R_Mo c_Mo_faultOf tb_Mo_faultOf 5 p s m args c Z) (h : HXw D Z s.heap H locs (wM cy ad I A)) (hret : RetP p l e { frames := 1, cells := 0, slots := 0, locals := 22 } s m args below meth c c_Mo_faultOf .int H locs Q P)
    (hb4 : ∀ (x1 : Int32) (x2 : Int32) (ls : Array Slot), lv_has ls 5 [(0, .ref (ad 0)), (1, .int x1), (2, .int x2)] → kb4 x1 x2 → W p l e { frames := 1, cells := 0, slots := 0, locals := 22 } s m args below meth c H locs 0 0 Q (F0 m 4 ls [])) :
    ∀ (x2 : Int32) (s0 : Int32) (ls : Array Slot), lv_has ls 5 [(0, .ref (ad 0)), (2, .int x2)] → g_Mo_faultOf_55 I A P kb4 x2 s0 → W p l e { frames := 1, cells := 0, slots := 0, locals := 22 } s m args below meth c H locs 0 0 Q (F0 m 55 ls [.int s0]) := by
  intro x2 s0 ls hl hw
  refine i_istore (lv' := [(4, .int s0), (0, .ref (ad 0)), (2, .int x2)]) (n := 57) C 31 rfl rfl hl (by decide) rfl (fun ls hl => ?_)
  refine i_goto (tgt := 306) C 32 rfl rfl ?_
  exact e_Mo_faultOf_306 C h hret hb4 x2 s0 ls (lv_sub hl [1, 2, 0] rfl) hw
set_option maxHeartbeats 4000000 in
set_option maxRecDepth 100000 in
theorem e_Mo_faultOf_39 {I : Nat → Int32} {A : Nat → Nat → Int32}  {P : Int32 → Prop} {kb4 : Int32 → Int32 → Prop} (C : CX D cy R_Mo c_Mo_faultOf tb_Mo_faultOf 5 p s m args c Z) (h : HXw D Z s.heap H locs (wM cy ad I A)) (hret : RetP p l e { frames := 1, cells := 0, slots := 0, locals := 22 } s m args below meth c c_Mo_faultOf .int H locs Q P)
    (hb4 : ∀ (x1 : Int32) (x2 : Int32) (ls : Array Slot), lv_has ls 5 [(0, .ref (ad 0)), (1, .int x1), (2, .int x2)] → kb4 x1 x2 → W p l e { frames := 1, cells := 0, slots := 0, locals := 22 } s m args below meth c H locs 0 0 Q (F0 m 4 ls [])) :
    ∀ (x2 : Int32) (ls : Array Slot), lv_has ls 5 [(0, .ref (ad 0)), (2, .int x2)] → g_Mo_faultOf_39 I A P kb4 x2 → W p l e { frames := 1, cells := 0, slots := 0, locals := 22 } s m args below meth c H locs 0 0 Q (F0 m 39 ls []) := by
  intro x2 ls hl hw
  refine i_iconst (v := (1 : Int32)) (n := 40) C 23 rfl rfl rfl ?_
  refine i_goto (tgt := 55) C 24 rfl rfl ?_
  exact e_Mo_faultOf_55 C h hret hb4 x2 (1 : Int32) ls hl hw
set_option maxHeartbeats 4000000 in
set_option maxRecDepth 100000 in
theorem e_Mo_faultOf_4 {I : Nat → Int32} {A : Nat → Nat → Int32}  {P : Int32 → Prop} {kx4 : Int32 → Prop} (C : CX D cy R_Mo c_Mo_faultOf tb_Mo_faultOf 5 p s m args c Z) (h : HXw D Z s.heap H locs (wM cy ad I A)) (hret : RetP p l e { frames := 1, cells := 0, slots := 0, locals := 22 } s m args below meth c c_Mo_faultOf .int H locs Q P)
    (hx4 : ∀ (x1 : Int32) (ls : Array Slot), lv_has ls 5 [(0, .ref (ad 0)), (1, .int x1)] → kx4 x1 → W p l e { frames := 1, cells := 0, slots := 0, locals := 22 } s m args below meth c H locs 0 0 Q (F0 m 322 ls [])) :
    ∀ (n : Nat) (x1 : Int32) (x2 : Int32) (ls : Array Slot), lv_has ls 5 [(0, .ref (ad 0)), (1, .int x1), (2, .int x2)] → g_Mo_faultOf_4 I A P kx4 n x1 x2 → W p l e { frames := 1, cells := 0, slots := 0, locals := 22 } s m args below meth c H locs 0 0 Q (F0 m 4 ls []) := by
  intro n
  induction n with
  | zero => intro x1 x2 ls hl hw; exact hw.elim
  | succ n ih =>
    intro x1 x2 ls hl hw
    refine i_iload_n (n := 5) C 4 rfl rfl rfl hl 2 rfl ?_
    refine i_aload_n (n := 6) C 5 rfl rfl rfl hl 0 rfl ?_
    refine fgM_Mo_212 (n := 9) C 6 rfl rfl h ?_
    refine i_icmp_ge (tgt := 322) (n := 12) C 7 rfl rfl rfl (fun c1 => ?_) (fun c1 => ?_)
    · replace hw := hw.1 c1
      exact hx4 x1 ls (lv_sub hl [0, 1] rfl) hw
    · replace hw := hw.2 c1
      refine i_aload_n (n := 13) C 8 rfl rfl rfl hl 0 rfl ?_
      refine fgM_Mo_80 (n := 16) C 9 rfl rfl h ?_
      refine i_iload_n (n := 17) C 10 rfl rfl rfl hl 2 rfl ?_
      obtain ⟨hb, hw⟩ := hw
      refine i_iald (n := 18) C 11 rfl rfl h (wM_arr 23 (by decide) rfl) hb ?_
      refine lv_topi (fun y2 ey2 => ?_)
      replace hw := hw y2 ey2
      refine i_istore_n (lv' := [(3, .int y2), (0, .ref (ad 0)), (1, .int x1), (2, .int x2)]) (n := 19) C 12 rfl rfl rfl hl (by decide) rfl (fun ls hl => ?_)
      refine i_bipush (v := (-6 : Int32)) (n := 21) C 13 rfl rfl rfl ?_
      refine i_istore (lv' := [(4, .int (-6 : Int32)), (3, .int y2), (0, .ref (ad 0)), (1, .int x1), (2, .int x2)]) (n := 23) C 14 rfl rfl hl (by decide) rfl (fun ls hl => ?_)
      refine i_iload_n (n := 24) C 15 rfl rfl rfl hl 3 rfl ?_
      refine i_if_ne (tgt := 60) (n := 27) C 16 rfl rfl rfl (fun c3 => ?_) (fun c3 => ?_)
      · replace hw := hw.1 c3
        refine i_iload_n (n := 61) C 33 rfl rfl rfl hl 3 rfl ?_
        refine i_iconst (v := (1 : Int32)) (n := 62) C 34 rfl rfl rfl ?_
        refine i_icmp_ne (tgt := 87) (n := 65) C 35 rfl rfl rfl (fun c4 => ?_) (fun c4 => ?_)
        · replace hw := hw.1 c4
          refine i_iload_n (n := 88) C 46 rfl rfl rfl hl 3 rfl ?_
          refine i_iconst (v := (2 : Int32)) (n := 89) C 47 rfl rfl rfl ?_
          refine i_icmp_ne (tgt := 115) (n := 92) C 48 rfl rfl rfl (fun c5 => ?_) (fun c5 => ?_)
          · replace hw := hw.1 c5
            refine i_iload_n (n := 116) C 60 rfl rfl rfl hl 3 rfl ?_
            refine i_iconst (v := (3 : Int32)) (n := 117) C 61 rfl rfl rfl ?_
            refine i_bipush (v := (8 : Int32)) (n := 119) C 62 rfl rfl rfl ?_
            refine i_callSp (rest := []) (n := 122) C 63 rfl rfl hl h (kS_Mo_126 ⟨by decide, by decide⟩) (m_Mo_in hw) rfl rfl (Nat.le_of_ble_eq_true rfl) ⟨by decide, by decide⟩ (fun r6 hw => ?_)
            refine i_if_eq (tgt := 155) (n := 125) C 64 rfl rfl rfl (fun c7 => ?_) (fun c7 => ?_)
            · replace hw := hw.1 c7
              exact e_Mo_faultOf_155 C h hret ih x1 x2 y2 (-6 : Int32) ls (lv_sub hl [2, 3, 4, 1, 0] rfl) hw
            · replace hw := hw.2 c7
              refine i_iload_n (n := 126) C 65 rfl rfl rfl hl 1 rfl ?_
              refine i_bipush (v := (48 : Int32)) (n := 128) C 66 rfl rfl rfl ?_
              refine i_bipush (v := (57 : Int32)) (n := 130) C 67 rfl rfl rfl ?_
              refine i_callSp (rest := []) (n := 133) C 68 rfl rfl hl h (kS_Mo_126 ⟨by decide, by decide⟩) (m_Mo_in hw) rfl rfl (Nat.le_of_ble_eq_true rfl) ⟨by decide, by decide⟩ (fun r25 hw => ?_)
              refine i_if_eq (tgt := 155) (n := 136) C 69 rfl rfl rfl (fun c26 => ?_) (fun c26 => ?_)
              · replace hw := hw.1 c26
                exact e_Mo_faultOf_155 C h hret ih x1 x2 y2 (-6 : Int32) ls (lv_sub hl [2, 3, 4, 1, 0] rfl) hw
              · replace hw := hw.2 c26
                refine i_iload_n (n := 137) C 70 rfl rfl rfl hl 3 rfl ?_
                refine i_bipush (v := (8 : Int32)) (n := 139) C 71 rfl rfl rfl ?_
                refine i_icmp_ge (tgt := 148) (n := 142) C 72 rfl rfl rfl (fun c27 => ?_) (fun c27 => ?_)
                · replace hw := hw.1 c27
                  refine i_bipush (v := (-6 : Int32)) (n := 150) C 77 rfl rfl rfl ?_
                  exact e_Mo_faultOf_150 C h hret ih x2 (-6 : Int32) ls (lv_sub hl [2, 4] rfl) hw
                · replace hw := hw.2 c27
                  refine i_iload_n (n := 143) C 73 rfl rfl rfl hl 3 rfl ?_
                  refine i_iconst (v := (1 : Int32)) (n := 144) C 74 rfl rfl rfl ?_
                  refine i_iadd (n := 145) C 75 rfl rfl ?_
                  refine i_goto (tgt := 150) C 76 rfl rfl ?_
                  exact e_Mo_faultOf_150 C h hret ih x2 (x1 + (1 : Int32)) ls (lv_sub hl [2, 4] rfl) hw
          · replace hw := hw.2 c5
            refine i_iload_n (n := 93) C 49 rfl rfl rfl hl 1 rfl ?_
            refine i_bipush (v := (60 : Int32)) (n := 95) C 50 rfl rfl rfl ?_
            refine i_icmp_eq (tgt := 104) (n := 98) C 51 rfl rfl rfl (fun c28 => ?_) (fun c28 => ?_)
            · replace hw := hw.1 c28
              exact e_Mo_faultOf_104 C h hret ih x2 ls (lv_sub hl [2, 4] rfl) hw
            · replace hw := hw.2 c28
              refine i_iload_n (n := 99) C 52 rfl rfl rfl hl 1 rfl ?_
              refine i_bipush (v := (62 : Int32)) (n := 101) C 53 rfl rfl rfl ?_
              refine i_icmp_ne (tgt := 108) (n := 104) C 54 rfl rfl rfl (fun c29 => ?_) (fun c29 => ?_)
              · replace hw := hw.1 c29
                refine i_bipush (v := (-6 : Int32)) (n := 110) C 57 rfl rfl rfl ?_
                exact e_Mo_faultOf_110 C h hret ih x2 (-6 : Int32) ls (lv_sub hl [2, 4] rfl) hw
              · replace hw := hw.2 c29
                exact e_Mo_faultOf_104 C h hret ih x2 ls (lv_sub hl [2, 4] rfl) hw
        · replace hw := hw.2 c4
          refine i_iload_n (n := 66) C 36 rfl rfl rfl hl 1 rfl ?_
          refine i_bipush (v := (97 : Int32)) (n := 68) C 37 rfl rfl rfl ?_
          refine i_bipush (v := (108 : Int32)) (n := 70) C 38 rfl rfl rfl ?_
          refine i_callSp (rest := []) (n := 73) C 39 rfl rfl hl h (kS_Mo_126 ⟨by decide, by decide⟩) (m_Mo_in hw) rfl rfl (Nat.le_of_ble_eq_true rfl) ⟨by decide, by decide⟩ (fun r30 hw => ?_)
          refine i_if_eq (tgt := 80) (n := 76) C 40 rfl rfl rfl (fun c31 => ?_) (fun c31 => ?_)
          · replace hw := hw.1 c31
            refine i_bipush (v := (-6 : Int32)) (n := 82) C 43 rfl rfl rfl ?_
            exact e_Mo_faultOf_82 C h hret ih x2 (-6 : Int32) ls (lv_sub hl [2, 4] rfl) hw
          · replace hw := hw.2 c31
            refine i_iconst (v := (2 : Int32)) (n := 77) C 41 rfl rfl rfl ?_
            refine i_goto (tgt := 82) C 42 rfl rfl ?_
            exact e_Mo_faultOf_82 C h hret ih x2 (2 : Int32) ls (lv_sub hl [2, 4] rfl) hw
      · replace hw := hw.2 c3
        refine i_iload_n (n := 28) C 17 rfl rfl rfl hl 1 rfl ?_
        refine i_bipush (v := (103 : Int32)) (n := 30) C 18 rfl rfl rfl ?_
        refine i_icmp_eq (tgt := 39) (n := 33) C 19 rfl rfl rfl (fun c32 => ?_) (fun c32 => ?_)
        · replace hw := hw.1 c32
          exact e_Mo_faultOf_39 C h hret ih x2 ls (lv_sub hl [2, 4] rfl) hw
        · replace hw := hw.2 c32
          refine i_iload_n (n := 34) C 20 rfl rfl rfl hl 1 rfl ?_
          refine i_bipush (v := (116 : Int32)) (n := 36) C 21 rfl rfl rfl ?_
          refine i_icmp_ne (tgt := 43) (n := 39) C 22 rfl rfl rfl (fun c33 => ?_) (fun c33 => ?_)
          · replace hw := hw.1 c33
            refine i_iload_n (n := 44) C 25 rfl rfl rfl hl 1 rfl ?_
            refine i_bipush (v := (109 : Int32)) (n := 46) C 26 rfl rfl rfl ?_
            refine i_icmp_ne (tgt := 53) (n := 49) C 27 rfl rfl rfl (fun c34 => ?_) (fun c34 => ?_)
            · replace hw := hw.1 c34
              refine i_bipush (v := (-6 : Int32)) (n := 55) C 30 rfl rfl rfl ?_
              exact e_Mo_faultOf_55 C h hret ih x2 (-6 : Int32) ls (lv_sub hl [2, 4] rfl) hw
            · replace hw := hw.2 c34
              refine i_iconst (v := (2 : Int32)) (n := 50) C 28 rfl rfl rfl ?_
              refine i_goto (tgt := 55) C 29 rfl rfl ?_
              exact e_Mo_faultOf_55 C h hret ih x2 (2 : Int32) ls (lv_sub hl [2, 4] rfl) hw
          · replace hw := hw.2 c33
            exact e_Mo_faultOf_39 C h hret ih x2 ls (lv_sub hl [2, 4] rfl) hw
set_option maxHeartbeats 4000000 in
set_option maxRecDepth 100000 in
theorem m_Mo_faultOf {l : Launch} {D : va_G} {cy : Nat → ClassId} {ad : Nat → Nat} {I : Nat → Int32} {A : Nat → Nat → Int32}  {P : Int32 → Prop} (hw : g_Mo_faultOf I A P) : ∀ sz, Met l y_Mo_faultOf (WL y_Mo_faultOf c_Mo_faultOf 5 (some .int)) { frames := 1, cells := 0, slots := 0, locals := 22 } (va_Pc [.ref (ad 0)] (PreW D cy (wM cy ad I A) sz)) (vp_Si P) 0 0 (fun _ => False) := by
  refine met_p R_Mo .int db_Mo_faultOf (by decide) rfl rfl (Nat.le_of_ble_eq_true rfl) ?_
  intro p e s m below meth c Z Q ls C h hl hret
  have hl : lv_has ls 5 [(0, .ref (ad 0))] := hl
  refine i_iconst (v := (0 : Int32)) (n := 1) C 0 rfl rfl rfl ?_
  refine i_istore_n (lv' := [(1, .int (0 : Int32)), (0, .ref (ad 0))]) (n := 2) C 1 rfl rfl rfl hl (by decide) rfl (fun ls hl => ?_)
  refine i_iconst (v := (0 : Int32)) (n := 3) C 2 rfl rfl rfl ?_
  refine i_istore_n (lv' := [(2, .int (0 : Int32)), (1, .int (0 : Int32)), (0, .ref (ad 0))]) (n := 4) C 3 rfl rfl rfl hl (by decide) rfl (fun ls hl => ?_)
  obtain ⟨n35, hw⟩ := hw
  refine e_Mo_faultOf_4 C h hret (fun x1_35 ls hl hw => ?_) n35 (0 : Int32) (0 : Int32) ls (lv_sub hl [2, 1, 0] rfl) hw
  have hl : lv_has ls 5 [(0, .ref (ad 0)), (1, .int x1_35)] := hl
  refine i_iload_n (n := 323) C 159 rfl rfl rfl hl 1 rfl ?_
  refine i_bipush (v := (12 : Int32)) (n := 325) C 160 rfl rfl rfl ?_
  refine i_icmp_ne (tgt := 333) (n := 328) C 161 rfl rfl rfl (fun c36 => ?_) (fun c36 => ?_)
  · replace hw := hw.1 c36
    refine i_aload_n (n := 334) C 164 rfl rfl rfl hl 0 rfl ?_
    refine fgM_Mo_212 (n := 337) C 165 rfl rfl h ?_
    exact hret _ _ _ rfl hw (C.dg (k := 166) rfl)
  · replace hw := hw.2 c36
    refine i_bipush (v := (-6 : Int32)) (n := 330) C 162 rfl rfl rfl ?_
    refine i_goto (tgt := 337) C 163 rfl rfl ?_
    exact hret _ _ _ rfl hw (C.dg (k := 166) rfl)
end S222
theorem kV_Mo_232 {R : Room} {s : State} {args : Array Value} (hR : 1 + 1 ≤ R.frames ∧ 8 + (5 + 11) + 22 ≤ R.locals) (ht : ∀ w ∈ GW, w.before args s = true) : CallW R s args R_Mo R_Mo 232 y_Mo_faultOf c_Mo_faultOf 5 (some .int) (WL y_Mo_faultOf c_Mo_faultOf 5 (some .int)) { frames := 1, cells := 0, slots := 0, locals := 22 } 0 0 0 := cwV 0 ht (GW_v w_6_217 w_6_219 w_0_44 w_1_7 (GW_wl w_6_220)) rfl rfl rfl (by decide +kernel) hR
section S223
variable {p : Program} {l : Launch} {e : Env} {R : Room} {s : State} {m : MethodId} {args : Array Value} {below : List Frame} {meth : Method} {c : Code} {H : Heap} {locs : List Loc} {cells slots : Nat} {Q : State → Prop}
variable {cc : ByteArray} {pc n nL : Nat} {ls : Array Slot} {rest : List Value} {D : va_G} {cy : Nat → ClassId} {Z : Nat → Prop} {ad : Nat → Nat} {tb : List (Nat × Instr × Nat)} {lv : List (Nat × Value)}
set_option maxHeartbeats 4000000 in
set_option maxRecDepth 100000 in
theorem m_Mo_fault {l : Launch} {D : va_G} {cy : Nat → ClassId} {ad : Nat → Nat} {I : Nat → Int32} {A : Nat → Nat → Int32}  {P : Int32 → Prop} (hw : g_Mo_fault I A P) : ∀ sz, Met l y_Mo_fault (WL y_Mo_fault c_Mo_fault 1 (some .int)) { frames := 2, cells := 0, slots := 0, locals := 46 } (va_Pc [.ref (ad 0)] (PreW D cy (wM cy ad I A) sz)) (vp_Si P) 0 0 (fun _ => False) := by
  refine met_p R_Mo .int db_Mo_fault (by decide) rfl rfl (Nat.le_of_ble_eq_true rfl) ?_
  intro p e s m below meth c Z Q ls C h hl hret
  have hl : lv_has ls 1 [(0, .ref (ad 0))] := hl
  refine i_aload_n (n := 1) C 0 rfl rfl rfl hl 0 rfl ?_
  refine i_callVp (rest := []) (ci := 11) (qc := (R_Mo, T_Mo, 50)) (n := 4) C 1 rfl rfl hl h rfl (wM_get (h := 0) (by decide)) (kV_Mo_232 ⟨by decide, by decide⟩) (m_Mo_faultOf hw) rfl rfl (Nat.le_of_ble_eq_true rfl) ⟨by decide, by decide⟩ (fun r1 hw => ?_)
  exact hret _ _ _ rfl hw (C.dg (k := 2) rfl)
end S223
section S224
variable {p : Program} {l : Launch} {e : Env} {R : Room} {s : State} {m : MethodId} {args : Array Value} {below : List Frame} {meth : Method} {c : Code} {H : Heap} {locs : List Loc} {cells slots : Nat} {Q : State → Prop}
variable {cc : ByteArray} {pc n nL : Nat} {ls : Array Slot} {rest : List Value} {D : va_G} {cy : Nat → ClassId} {Z : Nat → Prop} {ad : Nat → Nat} {tb : List (Nat × Instr × Nat)} {lv : List (Nat × Value)}
set_option maxHeartbeats 4000000 in
set_option maxRecDepth 100000 in
theorem e_Mo_order_61  {a1 : Int32} {P : Int32 → ((Nat → Int32) × (Nat → Nat → Int32)) → Prop} {kx61 : (Nat → Int32) → (Nat → Nat → Int32) → Prop} (C : CX D cy R_Mo c_Mo_order tb_Mo_order 3 p s m args c Z) (hret : RetI p l e { frames := 2, cells := 0, slots := 0, locals := 46 } s m args below meth c c_Mo_order .int D Z Q (fun (u : (Nat → Int32) × (Nat → Nat → Int32)) => wM cy ad u.1 u.2) P 0 0)
    (hx61 : ∀ (I : Nat → Int32) (A : Nat → Nat → Int32) (ls : Array Slot) (H : Heap) (locs : List Loc), lv_has ls 3 [(0, .ref (ad 0))] → HXw D Z s.heap H locs (wM cy ad I A) → kx61 I A → W p l e { frames := 2, cells := 0, slots := 0, locals := 46 } s m args below meth c H locs 0 0 Q (F0 m 95 ls [])) :
    ∀ (n : Nat) (I : Nat → Int32) (A : Nat → Nat → Int32) (x2 : Int32) (ls : Array Slot) (H : Heap) (locs : List Loc), lv_has ls 3 [(0, .ref (ad 0)), (2, .int x2)] → HXw D Z s.heap H locs (wM cy ad I A) → g_Mo_order_61 a1 P kx61 n I A x2 → W p l e { frames := 2, cells := 0, slots := 0, locals := 46 } s m args below meth c H locs 0 0 Q (F0 m 61 ls []) := by
  intro n
  induction n with
  | zero => intro I A x2 ls H locs hl h hw; exact hw.elim
  | succ n ih =>
    intro I A x2 ls H locs hl h hw
    refine i_iload_n (n := 62) C 33 rfl rfl rfl hl 1 rfl ?_
    refine i_aload_n (n := 63) C 34 rfl rfl rfl hl 0 rfl ?_
    refine fgM_Mo_212 (n := 66) C 35 rfl rfl h ?_
    refine i_icmp_ge (tgt := 95) (n := 69) C 36 rfl rfl rfl (fun c6 => ?_) (fun c6 => ?_)
    · replace hw := hw.1 c6
      exact hx61 I A ls _ _ (lv_sub hl [0] rfl) h hw
    · replace hw := hw.2 c6
      refine i_aload_n (n := 70) C 37 rfl rfl rfl hl 0 rfl ?_
      refine fgM_Mo_89 (n := 73) C 38 rfl rfl h ?_
      refine i_bipush (v := (40 : Int32)) (n := 75) C 39 rfl rfl rfl ?_
      refine i_aload_n (n := 76) C 40 rfl rfl rfl hl 0 rfl ?_
      refine fgM_Mo_215 (n := 79) C 41 rfl rfl h ?_
      refine i_imul (n := 80) C 42 rfl rfl ?_
      refine i_iload_n (n := 81) C 43 rfl rfl rfl hl 1 rfl ?_
      refine i_iadd (n := 82) C 44 rfl rfl ?_
      refine i_aload_n (n := 83) C 45 rfl rfl rfl hl 0 rfl ?_
      refine fgM_Mo_80 (n := 86) C 46 rfl rfl h ?_
      refine i_iload_n (n := 87) C 47 rfl rfl rfl hl 1 rfl ?_
      obtain ⟨hb, hw⟩ := hw
      refine i_iald (n := 88) C 48 rfl rfl h (wM_arr 23 (by decide) rfl) hb ?_
      obtain ⟨hb, hw⟩ := hw
      refine i_iast (n := 89) C 49 rfl rfl h (wM_arr 26 (by decide) rfl) hb (wM_sA 26 (by decide) rfl _ _) (fun H locs h => ?_)
      refine i_iinc (v := x2 + (1 : Int32)) (lv' := [(2, .int (x2 + (1 : Int32))), (0, .ref (ad 0))]) (n := 92) C 50 rfl rfl hl 1 rfl rfl (by decide) rfl (fun ls hl => ?_)
      refine i_goto (tgt := 61) C 51 rfl rfl ?_
      exact ih I (sA A 26 (((40 : Int32) * (I 10)) + x2) (A 23 x2.toNatClampNeg)) (x2 + (1 : Int32)) ls _ _ (lv_sub hl [1, 0] rfl) h hw
set_option maxHeartbeats 4000000 in
set_option maxRecDepth 100000 in
theorem m_Mo_order {l : Launch} {D : va_G} {cy : Nat → ClassId} {ad : Nat → Nat} {I : Nat → Int32} {A : Nat → Nat → Int32} {a1 : Int32} {P : Int32 → ((Nat → Int32) × (Nat → Nat → Int32)) → Prop} (hw : g_Mo_order I A a1 P) : ∀ sz, Met l y_Mo_order (WL y_Mo_order c_Mo_order 3 (some .int)) { frames := 2, cells := 0, slots := 0, locals := 46 } (va_Pc [.ref (ad 0), .int a1] (PreW D cy (wM cy ad I A) sz)) (va_Qi P (fun u t => PostW D (va_A (wM cy ad I A) sz) ((fun (u : (Nat → Int32) × (Nat → Nat → Int32)) => wM cy ad u.1 u.2) u) t) (va_A (wM cy ad I A) sz)) 0 0 (va_A (wM cy ad I A) sz) := by
  refine met_i (wf := fun (u : (Nat → Int32) × (Nat → Nat → Int32)) => wM cy ad u.1 u.2) R_Mo .int db_Mo_order (by decide) rfl rfl (Nat.le_of_ble_eq_true rfl) ?_
  intro p e s m below meth c Z Q ls C h hl hret
  have hl : lv_has ls 3 [(0, .ref (ad 0)), (1, .int a1)] := hl
  refine i_iload_n (n := 1) C 0 rfl rfl rfl hl 1 rfl ?_
  refine i_iconst (v := (0 : Int32)) (n := 2) C 1 rfl rfl rfl ?_
  refine i_sipush (v := (400 : Int32)) (n := 5) C 2 rfl rfl rfl ?_
  refine i_callSp (rest := []) (n := 8) C 3 rfl rfl hl h (kS_Mo_126 ⟨by decide, by decide⟩) (m_Mo_in hw) rfl rfl (Nat.le_of_ble_eq_true rfl) ⟨by decide, by decide⟩ (fun r1 hw => ?_)
  refine i_if_ne (tgt := 14) (n := 11) C 4 rfl rfl rfl (fun c2 => ?_) (fun c2 => ?_)
  · replace hw := hw.1 c2
    refine i_aload_n (n := 15) C 7 rfl rfl rfl hl 0 rfl ?_
    refine fgM_Mo_215 (n := 18) C 8 rfl rfl h ?_
    refine i_bipush (v := (6 : Int32)) (n := 20) C 9 rfl rfl rfl ?_
    refine i_icmp_ne (tgt := 26) (n := 23) C 10 rfl rfl rfl (fun c3 => ?_) (fun c3 => ?_)
    · replace hw := hw.1 c3
      refine i_aload_n (n := 27) C 13 rfl rfl rfl hl 0 rfl ?_
      refine i_callVp (rest := []) (ci := 11) (qc := (R_Mo, T_Mo, 50)) (n := 30) C 14 rfl rfl hl h rfl (wM_get (h := 0) (by decide)) (kV_Mo_232 ⟨by decide, by decide⟩) (m_Mo_faultOf hw) rfl rfl (Nat.le_of_ble_eq_true rfl) ⟨by decide, by decide⟩ (fun r4 hw => ?_)
      refine i_if_lt (tgt := 36) (n := 33) C 15 rfl rfl rfl (fun c5 => ?_) (fun c5 => ?_)
      · replace hw := hw.1 c5
        refine i_aload_n (n := 37) C 18 rfl rfl rfl hl 0 rfl ?_
        refine fgM_Mo_83 (n := 40) C 19 rfl rfl h ?_
        refine i_aload_n (n := 41) C 20 rfl rfl rfl hl 0 rfl ?_
        refine fgM_Mo_215 (n := 44) C 21 rfl rfl h ?_
        refine i_iload_n (n := 45) C 22 rfl rfl rfl hl 1 rfl ?_
        obtain ⟨hb, hw⟩ := hw
        refine i_iast (n := 46) C 23 rfl rfl h (wM_arr 24 (by decide) rfl) hb (wM_sA 24 (by decide) rfl _ _) (fun H locs h => ?_)
        refine i_aload_n (n := 47) C 24 rfl rfl rfl hl 0 rfl ?_
        refine fgM_Mo_86 (n := 50) C 25 rfl rfl h ?_
        refine i_aload_n (n := 51) C 26 rfl rfl rfl hl 0 rfl ?_
        refine fgM_Mo_215 (n := 54) C 27 rfl rfl h ?_
        refine i_aload_n (n := 55) C 28 rfl rfl rfl hl 0 rfl ?_
        refine fgM_Mo_212 (n := 58) C 29 rfl rfl h ?_
        obtain ⟨hb, hw⟩ := hw
        refine i_iast (n := 59) C 30 rfl rfl h (wM_arr 25 (by decide) rfl) hb (wM_sA 25 (by decide) rfl _ _) (fun H locs h => ?_)
        refine i_iconst (v := (0 : Int32)) (n := 60) C 31 rfl rfl rfl ?_
        refine i_istore_n (lv' := [(2, .int (0 : Int32)), (0, .ref (ad 0)), (1, .int a1)]) (n := 61) C 32 rfl rfl rfl hl (by decide) rfl (fun ls hl => ?_)
        obtain ⟨n7, hw⟩ := hw
        refine e_Mo_order_61 C hret (fun I_7 A_7 ls H locs hl h hw => ?_) n7 I (sA (sA A 24 (I 10) a1) 25 (I 10) (I 9)) (0 : Int32) ls _ _ (lv_sub hl [1, 0] rfl) h hw
        have hl : lv_has ls 3 [(0, .ref (ad 0))] := hl
        refine i_aload_n (n := 96) C 52 rfl rfl rfl hl 0 rfl ?_
        refine i_dup (n := 97) C 53 rfl rfl rfl ?_
        refine fgM_Mo_215 (n := 100) C 54 rfl rfl h ?_
        refine i_iconst (v := (1 : Int32)) (n := 101) C 55 rfl rfl rfl ?_
        refine i_iadd (n := 102) C 56 rfl rfl ?_
        refine fpM_Mo_215 (n := 105) C 57 rfl rfl h (fun H locs h => ?_)
        refine i_aload_n (n := 106) C 58 rfl rfl rfl hl 0 rfl ?_
        refine i_iconst (v := (0 : Int32)) (n := 107) C 59 rfl rfl rfl ?_
        refine fpM_Mo_212 (n := 110) C 60 rfl rfl h (fun H locs h => ?_)
        refine i_aload_n (n := 111) C 61 rfl rfl rfl hl 0 rfl ?_
        refine fgM_Mo_215 (n := 114) C 62 rfl rfl h ?_
        refine i_iconst (v := (1 : Int32)) (n := 115) C 63 rfl rfl rfl ?_
        refine i_isub (n := 116) C 64 rfl rfl ?_
        exact hret _ (va_up (va_up I_7 10 ((I_7 10) + (1 : Int32))) 9 (0 : Int32), A_7) _ _ _ _ rfl hw h (C.dg (k := 65) rfl)
      · replace hw := hw.2 c5
        refine i_bipush (v := (-5 : Int32)) (n := 35) C 16 rfl rfl rfl ?_
        exact hret _ (I, A) _ _ _ _ rfl hw h (C.dg (k := 17) rfl)
    · replace hw := hw.2 c3
      refine i_bipush (v := (-4 : Int32)) (n := 25) C 11 rfl rfl rfl ?_
      exact hret _ (I, A) _ _ _ _ rfl hw h (C.dg (k := 12) rfl)
  · replace hw := hw.2 c2
    refine i_bipush (v := (-2 : Int32)) (n := 13) C 5 rfl rfl rfl ?_
    exact hret _ (I, A) _ _ _ _ rfl hw h (C.dg (k := 6) rfl)
end S224
