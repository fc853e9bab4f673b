section S192
variable {p : Program} {l : Launch} {e : Env} {R : Room} {s : State} {m : MethodId} {args : Array Value} {below : List Frame} {meth : Method} {c : Code} {H : Heap} {locs : List Loc} {cells slots : Nat} {Q : State → Prop}
variable {cc : ByteArray} {pc n nL : Nat} {ls : Array Slot} {rest : List Value} {D : va_G} {cy : Nat → ClassId} {Z : Nat → Prop} {ad : Nat → Nat} {tb : List (Nat × Instr × Nat)} {lv : List (Nat × Value)}
set_option maxHeartbeats 4000000 in
set_option maxRecDepth 100000 in
theorem e_Mo_bridge_61 {I : Nat → Int32} {a1 : Int32} {a2 : Int32} {a3 : Int32} {a4 : Int32} {a5 : Int32} {P : Int32 → ((Nat → Nat → Int32)) → Prop}  (C : CX D cy R_Mo c_Mo_bridge tb_Mo_bridge 7 p s m args c Z) (hret : RetI p l e { frames := 2, cells := 0, slots := 0, locals := 43 } s m args below meth c c_Mo_bridge .int D Z Q (fun (u : (Nat → Nat → Int32)) => wM cy ad I u) P 0 0) :
    ∀ (A : Nat → Nat → Int32) (s0 : Int32) (ls : Array Slot) (H : Heap) (locs : List Loc), lv_has ls 7 [(0, .ref (ad 0)), (1, .int a1), (2, .int a2), (3, .int a3), (4, .int a4), (5, .int a5)] → HXw D Z s.heap H locs (wM cy ad I A) → g_Mo_bridge_61 I a1 a2 a3 a4 a5 P  A s0 → W p l e { frames := 2, cells := 0, slots := 0, locals := 43 } s m args below meth c H locs 0 0 Q (F0 m 61 ls [.int s0]) := by
  intro A s0 ls H locs hl h hw
  refine i_istore (lv' := [(6, .int s0), (0, .ref (ad 0)), (1, .int a1), (2, .int a2), (3, .int a3), (4, .int a4), (5, .int a5)]) (n := 63) C 29 rfl rfl hl (by decide) rfl (fun ls hl => ?_)
  refine i_iload (n := 65) C 30 rfl rfl hl 0 rfl ?_
  refine i_if_eq (tgt := 83) (n := 68) C 31 rfl rfl rfl (fun c5 => ?_) (fun c5 => ?_)
  · replace hw := hw.1 c5
    refine i_bipush (v := (-2 : Int32)) (n := 85) C 41 rfl rfl rfl ?_
    exact hret _ A _ _ _ _ rfl hw h (C.dg (k := 42) rfl)
  · replace hw := hw.2 c5
    refine i_aload_n (n := 69) C 32 rfl rfl rfl hl 1 rfl ?_
    refine i_iload_n (n := 70) C 33 rfl rfl rfl hl 2 rfl ?_
    refine i_iconst (v := (3 : Int32)) (n := 71) C 34 rfl rfl rfl ?_
    refine i_iload_n (n := 72) C 35 rfl rfl rfl hl 3 rfl ?_
    refine i_iload_n (n := 73) C 36 rfl rfl rfl hl 4 rfl ?_
    refine i_iload (n := 75) C 37 rfl rfl hl 5 rfl ?_
    refine i_iload (n := 77) C 38 rfl rfl hl 6 rfl ?_
    refine i_callVi (rest := []) (ci := 11) (qc := (R_Mo, T_Mo, 50)) (n := 80) C 39 rfl rfl hl h rfl (wM_get (h := 0) (by decide)) (kV_Mo_160 ⟨by decide, by decide⟩) (m_Mo_lay hw) rfl rfl (Nat.le_of_ble_eq_true rfl) ⟨by decide, by decide⟩ (fun r6 u7 H locs hw h => ?_)
    refine i_goto (tgt := 85) C 40 rfl rfl ?_
    exact hret _ u7 _ _ _ _ rfl hw h (C.dg (k := 42) rfl)
set_option maxHeartbeats 4000000 in
set_option maxRecDepth 100000 in
theorem e_Mo_bridge_60 {I : Nat → Int32} {a1 : Int32} {a2 : Int32} {a3 : Int32} {a4 : Int32} {a5 : Int32} {P : Int32 → ((Nat → Nat → Int32)) → Prop}  (C : CX D cy R_Mo c_Mo_bridge tb_Mo_bridge 7 p s m args c Z) (hret : RetI p l e { frames := 2, cells := 0, slots := 0, locals := 43 } s m args below meth c c_Mo_bridge .int D Z Q (fun (u : (Nat → Nat → Int32)) => wM cy ad I u) P 0 0) :
    ∀ (A : Nat → Nat → Int32) (ls : Array Slot) (H : Heap) (locs : List Loc), lv_has ls 7 [(0, .ref (ad 0)), (1, .int a1), (2, .int a2), (3, .int a3), (4, .int a4), (5, .int a5)] → HXw D Z s.heap H locs (wM cy ad I A) → g_Mo_bridge_60 I a1 a2 a3 a4 a5 P  A → W p l e { frames := 2, cells := 0, slots := 0, locals := 43 } s m args below meth c H locs 0 0 Q (F0 m 60 ls []) := by
  intro A ls H locs hl h hw
  refine i_iconst (v := (0 : Int32)) (n := 61) C 28 rfl rfl rfl ?_
  exact e_Mo_bridge_61 C hret  A (0 : Int32) ls _ _ hl h hw
set_option maxHeartbeats 4000000 in
set_option maxRecDepth 100000 in
theorem m_Mo_bridge {l : Launch} {D : va_G} {cy : Nat → ClassId} {ad : Nat → Nat} {I : Nat → Int32} {A : Nat → Nat → Int32} {a1 : Int32} {a2 : Int32} {a3 : Int32} {a4 : Int32} {a5 : Int32} {P : Int32 → ((Nat → Nat → Int32)) → Prop} (hw : g_Mo_bridge I A a1 a2 a3 a4 a5 P) : ∀ sz, Met l y_Mo_bridge (WL y_Mo_bridge c_Mo_bridge 7 (some .int)) { frames := 2, cells := 0, slots := 0, locals := 43 } (va_Pc [.ref (ad 0), .int a1, .int a2, .int a3, .int a4, .int a5] (PreW D cy (wM cy ad I A) sz)) (va_Qi P (fun u t => PostW D (va_A (wM cy ad I A) sz) ((fun (u : (Nat → Nat → Int32)) => wM cy ad I u) u) t) (va_A (wM cy ad I A) sz)) 0 0 (va_A (wM cy ad I A) sz) := by
  refine met_i (wf := fun (u : (Nat → Nat → Int32)) => wM cy ad I u) R_Mo .int db_Mo_bridge (by decide) rfl rfl (Nat.le_of_ble_eq_true rfl) ?_
  intro p e s m below meth c Z Q ls C h hl hret
  have hl : lv_has ls 7 [(0, .ref (ad 0)), (1, .int a1), (2, .int a2), (3, .int a3), (4, .int a4), (5, .int a5)] := hl
  refine i_aload_n (n := 1) C 0 rfl rfl rfl hl 0 rfl ?_
  refine i_iload_n (n := 2) C 1 rfl rfl rfl hl 1 rfl ?_
  refine i_callVp (rest := []) (ci := 11) (qc := (R_Mo, T_Mo, 50)) (n := 5) C 2 rfl rfl hl h rfl (wM_get (h := 0) (by decide)) (kV_Mo_136 ⟨by decide, by decide⟩) (m_Mo_isNode hw) rfl rfl (Nat.le_of_ble_eq_true rfl) ⟨by decide, by decide⟩ (fun r1 hw => ?_)
  refine i_if_ne (tgt := 10) (n := 8) C 3 rfl rfl rfl (fun c2 => ?_) (fun c2 => ?_)
  · replace hw := hw.1 c2
    refine i_iload_n (n := 11) C 6 rfl rfl rfl hl 2 rfl ?_
    refine i_iconst (v := (0 : Int32)) (n := 12) C 7 rfl rfl rfl ?_
    refine i_sipush (v := (1000 : Int32)) (n := 15) C 8 rfl rfl rfl ?_
    refine i_callSp (rest := []) (n := 18) C 9 rfl rfl hl h (kS_Mo_126 ⟨by decide, by decide⟩) (m_Mo_in hw) rfl rfl (Nat.le_of_ble_eq_true rfl) ⟨by decide, by decide⟩ (fun r3 hw => ?_)
    refine i_if_eq (tgt := 60) (n := 21) C 10 rfl rfl rfl (fun c4 => ?_) (fun c4 => ?_)
    · replace hw := hw.1 c4
      exact e_Mo_bridge_60 C hret  A ls _ _ hl h hw
    · replace hw := hw.2 c4
      refine i_iload_n (n := 22) C 11 rfl rfl rfl hl 3 rfl ?_
      refine i_iconst (v := (1 : Int32)) (n := 23) C 12 rfl rfl rfl ?_
      refine i_sipush (v := (720 : Int32)) (n := 26) C 13 rfl rfl rfl ?_
      refine i_callSp (rest := []) (n := 29) C 14 rfl rfl hl h (kS_Mo_126 ⟨by decide, by decide⟩) (m_Mo_in hw) rfl rfl (Nat.le_of_ble_eq_true rfl) ⟨by decide, by decide⟩ (fun r8 hw => ?_)
      refine i_if_eq (tgt := 60) (n := 32) C 15 rfl rfl rfl (fun c9 => ?_) (fun c9 => ?_)
      · replace hw := hw.1 c9
        exact e_Mo_bridge_60 C hret  A ls _ _ hl h hw
      · replace hw := hw.2 c9
        refine i_iload (n := 34) C 16 rfl rfl hl 4 rfl ?_
        refine i_iconst (v := (0 : Int32)) (n := 35) C 17 rfl rfl rfl ?_
        refine i_sipush (v := (720 : Int32)) (n := 38) C 18 rfl rfl rfl ?_
        refine i_callSp (rest := []) (n := 41) C 19 rfl rfl hl h (kS_Mo_126 ⟨by decide, by decide⟩) (m_Mo_in hw) rfl rfl (Nat.le_of_ble_eq_true rfl) ⟨by decide, by decide⟩ (fun r10 hw => ?_)
        refine i_if_eq (tgt := 60) (n := 44) C 20 rfl rfl rfl (fun c11 => ?_) (fun c11 => ?_)
        · replace hw := hw.1 c11
          exact e_Mo_bridge_60 C hret  A ls _ _ hl h hw
        · replace hw := hw.2 c11
          refine i_iload (n := 46) C 21 rfl rfl hl 5 rfl ?_
          refine i_iconst (v := (0 : Int32)) (n := 47) C 22 rfl rfl rfl ?_
          refine i_sipush (v := (720 : Int32)) (n := 50) C 23 rfl rfl rfl ?_
          refine i_callSp (rest := []) (n := 53) C 24 rfl rfl hl h (kS_Mo_126 ⟨by decide, by decide⟩) (m_Mo_in hw) rfl rfl (Nat.le_of_ble_eq_true rfl) ⟨by decide, by decide⟩ (fun r12 hw => ?_)
          refine i_if_eq (tgt := 60) (n := 56) C 25 rfl rfl rfl (fun c13 => ?_) (fun c13 => ?_)
          · replace hw := hw.1 c13
            exact e_Mo_bridge_60 C hret  A ls _ _ hl h hw
          · replace hw := hw.2 c13
            refine i_iconst (v := (1 : Int32)) (n := 57) C 26 rfl rfl rfl ?_
            refine i_goto (tgt := 61) C 27 rfl rfl ?_
            exact e_Mo_bridge_61 C hret  A (1 : Int32) ls _ _ hl h hw
  · replace hw := hw.2 c2
    refine i_iconst (v := (-1 : Int32)) (n := 9) C 4 rfl rfl rfl ?_
    exact hret _ A _ _ _ _ rfl hw h (C.dg (k := 5) rfl)
end S192
section S193
variable {p : Program} {l : Launch} {e : Env} {R : Room} {s : State} {m : MethodId} {args : Array Value} {below : List Frame} {meth : Method} {c : Code} {H : Heap} {locs : List Loc} {cells slots : Nat} {Q : State → Prop}
variable {cc : ByteArray} {pc n nL : Nat} {ls : Array Slot} {rest : List Value} {D : va_G} {cy : Nat → ClassId} {Z : Nat → Prop} {ad : Nat → Nat} {tb : List (Nat × Instr × Nat)} {lv : List (Nat × Value)}
set_option maxHeartbeats 4000000 in
set_option maxRecDepth 100000 in
theorem m_Mo_tower {l : Launch} {D : va_G} {cy : Nat → ClassId} {ad : Nat → Nat} {I : Nat → Int32} {A : Nat → Nat → Int32} {a1 : Int32} {a2 : Int32} {a3 : Int32} {a4 : Int32} {P : Int32 → ((Nat → Nat → Int32)) → Prop} (hw : g_Mo_tower I A a1 a2 a3 a4 P) : ∀ sz, Met l y_Mo_tower (WL y_Mo_tower c_Mo_tower 6 (some .int)) { frames := 2, cells := 0, slots := 0, locals := 43 } (va_Pc [.ref (ad 0), .int a1, .int a2, .int a3, .int a4] (PreW D cy (wM cy ad I A) sz)) (va_Qi P (fun u t => PostW D (va_A (wM cy ad I A) sz) ((fun (u : (Nat → Nat → Int32)) => wM cy ad I u) u) t) (va_A (wM cy ad I A) sz)) 0 0 (va_A (wM cy ad I A) sz) := by
  refine met_i (wf := fun (u : (Nat → Nat → Int32)) => wM cy ad I u) R_Mo .int db_Mo_tower (by decide) rfl rfl (Nat.le_of_ble_eq_true rfl) ?_
  intro p e s m below meth c Z Q ls C h hl hret
  have hl : lv_has ls 6 [(0, .ref (ad 0)), (1, .int a1), (2, .int a2), (3, .int a3), (4, .int a4)] := hl
  refine i_aload_n (n := 1) C 0 rfl rfl rfl hl 0 rfl ?_
  refine i_iload_n (n := 2) C 1 rfl rfl rfl hl 1 rfl ?_
  refine i_callVp (rest := []) (ci := 11) (qc := (R_Mo, T_Mo, 50)) (n := 5) C 2 rfl rfl hl h rfl (wM_get (h := 0) (by decide)) (kV_Mo_136 ⟨by decide, by decide⟩) (m_Mo_isNode hw) rfl rfl (Nat.le_of_ble_eq_true rfl) ⟨by decide, by decide⟩ (fun r1 hw => ?_)
  refine i_if_ne (tgt := 10) (n := 8) C 3 rfl rfl rfl (fun c2 => ?_) (fun c2 => ?_)
  · replace hw := hw.1 c2
    refine i_iload_n (n := 11) C 6 rfl rfl rfl hl 2 rfl ?_
    refine i_iconst (v := (0 : Int32)) (n := 12) C 7 rfl rfl rfl ?_
    refine i_sipush (v := (5000 : Int32)) (n := 15) C 8 rfl rfl rfl ?_
    refine i_callSp (rest := []) (n := 18) C 9 rfl rfl hl h (kS_Mo_126 ⟨by decide, by decide⟩) (m_Mo_in hw) rfl rfl (Nat.le_of_ble_eq_true rfl) ⟨by decide, by decide⟩ (fun r3 hw => ?_)
    refine i_if_eq (tgt := 41) (n := 21) C 10 rfl rfl rfl (fun c4 => ?_) (fun c4 => ?_)
    · replace hw := hw.1 c4
      refine i_bipush (v := (-2 : Int32)) (n := 43) C 21 rfl rfl rfl ?_
      exact hret _ A _ _ _ _ rfl hw h (C.dg (k := 22) rfl)
    · replace hw := hw.2 c4
      refine i_iload_n (n := 22) C 11 rfl rfl rfl hl 3 rfl ?_
      refine i_iconst (v := (1 : Int32)) (n := 23) C 12 rfl rfl rfl ?_
      refine i_ldc (n := 25) C 13 rfl rfl w_6_94 ?_
      refine i_callSp (rest := []) (n := 28) C 14 rfl rfl hl h (kS_Mo_126 ⟨by decide, by decide⟩) (m_Mo_in hw) rfl rfl (Nat.le_of_ble_eq_true rfl) ⟨by decide, by decide⟩ (fun r5 hw => ?_)
      refine i_if_eq (tgt := 41) (n := 31) C 15 rfl rfl rfl (fun c6 => ?_) (fun c6 => ?_)
      · replace hw := hw.1 c6
        refine i_bipush (v := (-2 : Int32)) (n := 43) C 21 rfl rfl rfl ?_
        exact hret _ A _ _ _ _ rfl hw h (C.dg (k := 22) rfl)
      · replace hw := hw.2 c6
        refine i_iload (n := 33) C 16 rfl rfl hl 4 rfl ?_
        refine i_iconst (v := (0 : Int32)) (n := 34) C 17 rfl rfl rfl ?_
        refine i_iload_n (n := 35) C 18 rfl rfl rfl hl 3 rfl ?_
        refine i_callSp (rest := []) (n := 38) C 19 rfl rfl hl h (kS_Mo_126 ⟨by decide, by decide⟩) (m_Mo_in hw) rfl rfl (Nat.le_of_ble_eq_true rfl) ⟨by decide, by decide⟩ (fun r7 hw => ?_)
        refine i_if_ne (tgt := 44) (n := 41) C 20 rfl rfl rfl (fun c8 => ?_) (fun c8 => ?_)
        · replace hw := hw.1 c8
          refine i_aload_n (n := 45) C 23 rfl rfl rfl hl 0 rfl ?_
          refine i_iload_n (n := 46) C 24 rfl rfl rfl hl 1 rfl ?_
          refine i_iconst (v := (4 : Int32)) (n := 47) C 25 rfl rfl rfl ?_
          refine i_iload_n (n := 48) C 26 rfl rfl rfl hl 2 rfl ?_
          refine i_iload_n (n := 49) C 27 rfl rfl rfl hl 3 rfl ?_
          refine i_iconst (v := (0 : Int32)) (n := 50) C 28 rfl rfl rfl ?_
          refine i_iconst (v := (0 : Int32)) (n := 51) C 29 rfl rfl rfl ?_
          refine i_callVi (rest := []) (ci := 11) (qc := (R_Mo, T_Mo, 50)) (n := 54) C 30 rfl rfl hl h rfl (wM_get (h := 0) (by decide)) (kV_Mo_160 ⟨by decide, by decide⟩) (m_Mo_lay hw) rfl rfl (Nat.le_of_ble_eq_true rfl) ⟨by decide, by decide⟩ (fun r9 u10 H locs hw h => ?_)
          refine i_istore (lv' := [(5, .int r9), (0, .ref (ad 0)), (1, .int a1), (2, .int a2), (3, .int a3), (4, .int a4)]) (n := 56) C 31 rfl rfl hl (by decide) rfl (fun ls hl => ?_)
          refine i_aload_n (n := 57) C 32 rfl rfl rfl hl 1 rfl ?_
          refine fgM_Mo_31 (n := 60) C 33 rfl rfl h ?_
          refine i_iload_n (n := 61) C 34 rfl rfl rfl hl 2 rfl ?_
          refine i_iload (n := 63) C 35 rfl rfl hl 0 rfl ?_
          refine i_iconst (v := (1 : Int32)) (n := 64) C 36 rfl rfl rfl ?_
          refine i_icmp_ne (tgt := 72) (n := 67) C 37 rfl rfl rfl (fun c11 => ?_) (fun c11 => ?_)
          · replace hw := hw.1 c11
            refine i_aload_n (n := 73) C 40 rfl rfl rfl hl 1 rfl ?_
            refine fgM_Mo_31 (n := 76) C 41 rfl rfl h ?_
            refine i_iload_n (n := 77) C 42 rfl rfl rfl hl 2 rfl ?_
            obtain ⟨hb, hw⟩ := hw
            refine i_iald (n := 78) C 43 rfl rfl h (wM_arr 7 (by decide) rfl) hb ?_
            obtain ⟨hb, hw⟩ := hw
            refine i_iast (n := 79) C 44 rfl rfl h (wM_arr 7 (by decide) rfl) hb (wM_sA 7 (by decide) rfl _ _) (fun H locs h => ?_)
            refine i_iload (n := 81) C 45 rfl rfl hl 0 rfl ?_
            exact hret _ (sA u10 7 a1 (u10 7 a1.toNatClampNeg)) _ _ _ _ rfl hw h (C.dg (k := 46) rfl)
          · replace hw := hw.2 c11
            refine i_iload (n := 69) C 38 rfl rfl hl 5 rfl ?_
            refine i_goto (tgt := 78) C 39 rfl rfl ?_
            obtain ⟨hb, hw⟩ := hw
            refine i_iast (n := 79) C 44 rfl rfl h (wM_arr 7 (by decide) rfl) hb (wM_sA 7 (by decide) rfl _ _) (fun H locs h => ?_)
            refine i_iload (n := 81) C 45 rfl rfl hl 0 rfl ?_
            exact hret _ (sA u10 7 a1 a4) _ _ _ _ rfl hw h (C.dg (k := 46) rfl)
        · replace hw := hw.2 c8
          refine i_bipush (v := (-2 : Int32)) (n := 43) C 21 rfl rfl rfl ?_
          exact hret _ A _ _ _ _ rfl hw h (C.dg (k := 22) rfl)
  · replace hw := hw.2 c2
    refine i_iconst (v := (-1 : Int32)) (n := 9) C 4 rfl rfl rfl ?_
    exact hret _ A _ _ _ _ rfl hw h (C.dg (k := 5) rfl)
end S193
section S194
variable {p : Program} {l : Launch} {e : Env} {R : Room} {s : State} {m : MethodId} {args : Array Value} {below : List Frame} {meth : Method} {c : Code} {H : Heap} {locs : List Loc} {cells slots : Nat} {Q : State → Prop}
variable {cc : ByteArray} {pc n nL : Nat} {ls : Array Slot} {rest : List Value} {D : va_G} {cy : Nat → ClassId} {Z : Nat → Prop} {ad : Nat → Nat} {tb : List (Nat × Instr × Nat)} {lv : List (Nat × Value)}
set_option maxHeartbeats 4000000 in
set_option maxRecDepth 100000 in
theorem m_Mo_house {l : Launch} {D : va_G} {cy : Nat → ClassId} {ad : Nat → Nat} {I : Nat → Int32} {A : Nat → Nat → Int32} {a1 : Int32} {a2 : Int32} {a3 : Int32} {a4 : Int32} {P : Int32 → ((Nat → Nat → Int32)) → Prop} (hw : g_Mo_house I A a1 a2 a3 a4 P) : ∀ sz, Met l y_Mo_house (WL y_Mo_house c_Mo_house 5 (some .int)) { frames := 2, cells := 0, slots := 0, locals := 43 } (va_Pc [.ref (ad 0), .int a1, .int a2, .int a3, .int a4] (PreW D cy (wM cy ad I A) sz)) (va_Qi P (fun u t => PostW D (va_A (wM cy ad I A) sz) ((fun (u : (Nat → Nat → Int32)) => wM cy ad I u) u) t) (va_A (wM cy ad I A) sz)) 0 0 (va_A (wM cy ad I A) sz) := by
  refine met_i (wf := fun (u : (Nat → Nat → Int32)) => wM cy ad I u) R_Mo .int db_Mo_house (by decide) rfl rfl (Nat.le_of_ble_eq_true rfl) ?_
  intro p e s m below meth c Z Q ls C h hl hret
  have hl : lv_has ls 5 [(0, .ref (ad 0)), (1, .int a1), (2, .int a2), (3, .int a3), (4, .int a4)] := hl
  refine i_aload_n (n := 1) C 0 rfl rfl rfl hl 0 rfl ?_
  refine i_iload_n (n := 2) C 1 rfl rfl rfl hl 1 rfl ?_
  refine i_callVp (rest := []) (ci := 11) (qc := (R_Mo, T_Mo, 50)) (n := 5) C 2 rfl rfl hl h rfl (wM_get (h := 0) (by decide)) (kV_Mo_136 ⟨by decide, by decide⟩) (m_Mo_isNode hw) rfl rfl (Nat.le_of_ble_eq_true rfl) ⟨by decide, by decide⟩ (fun r1 hw => ?_)
  refine i_if_ne (tgt := 10) (n := 8) C 3 rfl rfl rfl (fun c2 => ?_) (fun c2 => ?_)
  · replace hw := hw.1 c2
    refine i_iload_n (n := 11) C 6 rfl rfl rfl hl 2 rfl ?_
    refine i_iconst (v := (0 : Int32)) (n := 12) C 7 rfl rfl rfl ?_
    refine i_sipush (v := (5000 : Int32)) (n := 15) C 8 rfl rfl rfl ?_
    refine i_callSp (rest := []) (n := 18) C 9 rfl rfl hl h (kS_Mo_126 ⟨by decide, by decide⟩) (m_Mo_in hw) rfl rfl (Nat.le_of_ble_eq_true rfl) ⟨by decide, by decide⟩ (fun r3 hw => ?_)
    refine i_if_eq (tgt := 56) (n := 21) C 10 rfl rfl rfl (fun c4 => ?_) (fun c4 => ?_)
    · replace hw := hw.1 c4
      refine i_bipush (v := (-2 : Int32)) (n := 58) C 30 rfl rfl rfl ?_
      exact hret _ A _ _ _ _ rfl hw h (C.dg (k := 31) rfl)
    · replace hw := hw.2 c4
      refine i_iload_n (n := 22) C 11 rfl rfl rfl hl 3 rfl ?_
      refine i_iconst (v := (0 : Int32)) (n := 23) C 12 rfl rfl rfl ?_
      refine i_bipush (v := (120 : Int32)) (n := 25) C 13 rfl rfl rfl ?_
      refine i_callSp (rest := []) (n := 28) C 14 rfl rfl hl h (kS_Mo_126 ⟨by decide, by decide⟩) (m_Mo_in hw) rfl rfl (Nat.le_of_ble_eq_true rfl) ⟨by decide, by decide⟩ (fun r5 hw => ?_)
      refine i_if_eq (tgt := 56) (n := 31) C 15 rfl rfl rfl (fun c6 => ?_) (fun c6 => ?_)
      · replace hw := hw.1 c6
        refine i_bipush (v := (-2 : Int32)) (n := 58) C 30 rfl rfl rfl ?_
        exact hret _ A _ _ _ _ rfl hw h (C.dg (k := 31) rfl)
      · replace hw := hw.2 c6
        refine i_iload (n := 33) C 16 rfl rfl hl 4 rfl ?_
        refine i_iconst (v := (0 : Int32)) (n := 34) C 17 rfl rfl rfl ?_
        refine i_bipush (v := (100 : Int32)) (n := 36) C 18 rfl rfl rfl ?_
        refine i_callSp (rest := []) (n := 39) C 19 rfl rfl hl h (kS_Mo_126 ⟨by decide, by decide⟩) (m_Mo_in hw) rfl rfl (Nat.le_of_ble_eq_true rfl) ⟨by decide, by decide⟩ (fun r7 hw => ?_)
        refine i_if_eq (tgt := 56) (n := 42) C 20 rfl rfl rfl (fun c8 => ?_) (fun c8 => ?_)
        · replace hw := hw.1 c8
          refine i_bipush (v := (-2 : Int32)) (n := 58) C 30 rfl rfl rfl ?_
          exact hret _ A _ _ _ _ rfl hw h (C.dg (k := 31) rfl)
        · replace hw := hw.2 c8
          refine i_aload_n (n := 43) C 21 rfl rfl rfl hl 0 rfl ?_
          refine i_iload_n (n := 44) C 22 rfl rfl rfl hl 1 rfl ?_
          refine i_iconst (v := (5 : Int32)) (n := 45) C 23 rfl rfl rfl ?_
          refine i_iload_n (n := 46) C 24 rfl rfl rfl hl 2 rfl ?_
          refine i_iload_n (n := 47) C 25 rfl rfl rfl hl 3 rfl ?_
          refine i_iload (n := 49) C 26 rfl rfl hl 4 rfl ?_
          refine i_iconst (v := (0 : Int32)) (n := 50) C 27 rfl rfl rfl ?_
          refine i_callVi (rest := []) (ci := 11) (qc := (R_Mo, T_Mo, 50)) (n := 53) C 28 rfl rfl hl h rfl (wM_get (h := 0) (by decide)) (kV_Mo_160 ⟨by decide, by decide⟩) (m_Mo_lay hw) rfl rfl (Nat.le_of_ble_eq_true rfl) ⟨by decide, by decide⟩ (fun r9 u10 H locs hw h => ?_)
          refine i_goto (tgt := 58) C 29 rfl rfl ?_
          exact hret _ u10 _ _ _ _ rfl hw h (C.dg (k := 31) rfl)
  · replace hw := hw.2 c2
    refine i_iconst (v := (-1 : Int32)) (n := 9) C 4 rfl rfl rfl ?_
    exact hret _ A _ _ _ _ rfl hw h (C.dg (k := 5) rfl)
end S194
section S195
variable {p : Program} {l : Launch} {e : Env} {R : Room} {s : State} {m : MethodId} {args : Array Value} {below : List Frame} {meth : Method} {c : Code} {H : Heap} {locs : List Loc} {cells slots : Nat} {Q : State → Prop}
variable {cc : ByteArray} {pc n nL : Nat} {ls : Array Slot} {rest : List Value} {D : va_G} {cy : Nat → ClassId} {Z : Nat → Prop} {ad : Nat → Nat} {tb : List (Nat × Instr × Nat)} {lv : List (Nat × Value)}
set_option maxHeartbeats 4000000 in
set_option maxRecDepth 100000 in
theorem e_Mo_leak_34 {I : Nat → Int32} {a1 : Int32} {a2 : Int32} {a3 : Int32} {P : Int32 → ((Nat → Nat → Int32)) → Prop}  (C : CX D cy R_Mo c_Mo_leak tb_Mo_leak 4 p s m args c Z) (hret : RetI p l e { frames := 2, cells := 0, slots := 0, locals := 43 } s m args below meth c c_Mo_leak .int D Z Q (fun (u : (Nat → Nat → Int32)) => wM cy ad I u) P 0 0) :
    ∀ (A : Nat → Nat → Int32) (s1 : Int32) (s2 : Int32) (ls : Array Slot) (H : Heap) (locs : List Loc), lv_has ls 4 [(2, .int a2)] → HXw D Z s.heap H locs (wM cy ad I A) → g_Mo_leak_34 I a1 a2 a3 P  A s1 s2 → W p l e { frames := 2, cells := 0, slots := 0, locals := 43 } s m args below meth c H locs 0 0 Q (F0 m 34 ls [.int s2, .int s1, .ref (ad 0)]) := by
  intro A s1 s2 ls H locs hl h hw
  refine i_iload_n (n := 35) C 18 rfl rfl rfl hl 0 rfl ?_
  refine i_iconst (v := (0 : Int32)) (n := 36) C 19 rfl rfl rfl ?_
  refine i_iconst (v := (0 : Int32)) (n := 37) C 20 rfl rfl rfl ?_
  refine i_iconst (v := (0 : Int32)) (n := 38) C 21 rfl rfl rfl ?_
  refine i_callVi (rest := []) (ci := 11) (qc := (R_Mo, T_Mo, 50)) (n := 41) C 22 rfl rfl hl h rfl (wM_get (h := 0) (by decide)) (kV_Mo_160 ⟨by decide, by decide⟩) (m_Mo_lay hw) rfl rfl (Nat.le_of_ble_eq_true rfl) ⟨by decide, by decide⟩ (fun r6 u7 H locs hw h => ?_)
  refine i_goto (tgt := 46) C 23 rfl rfl ?_
  exact hret _ u7 _ _ _ _ rfl hw h (C.dg (k := 25) rfl)
set_option maxHeartbeats 4000000 in
set_option maxRecDepth 100000 in
theorem m_Mo_leak {l : Launch} {D : va_G} {cy : Nat → ClassId} {ad : Nat → Nat} {I : Nat → Int32} {A : Nat → Nat → Int32} {a1 : Int32} {a2 : Int32} {a3 : Int32} {P : Int32 → ((Nat → Nat → Int32)) → Prop} (hw : g_Mo_leak I A a1 a2 a3 P) : ∀ sz, Met l y_Mo_leak (WL y_Mo_leak c_Mo_leak 4 (some .int)) { frames := 2, cells := 0, slots := 0, locals := 43 } (va_Pc [.ref (ad 0), .int a1, .int a2, .int a3] (PreW D cy (wM cy ad I A) sz)) (va_Qi P (fun u t => PostW D (va_A (wM cy ad I A) sz) ((fun (u : (Nat → Nat → Int32)) => wM cy ad I u) u) t) (va_A (wM cy ad I A) sz)) 0 0 (va_A (wM cy ad I A) sz) := by
  refine met_i (wf := fun (u : (Nat → Nat → Int32)) => wM cy ad I u) R_Mo .int db_Mo_leak (by decide) rfl rfl (Nat.le_of_ble_eq_true rfl) ?_
  intro p e s m below meth c Z Q ls C h hl hret
  have hl : lv_has ls 4 [(0, .ref (ad 0)), (1, .int a1), (2, .int a2), (3, .int a3)] := hl
  refine i_aload_n (n := 1) C 0 rfl rfl rfl hl 0 rfl ?_
  refine i_iload_n (n := 2) C 1 rfl rfl rfl hl 1 rfl ?_
  refine i_callVp (rest := []) (ci := 11) (qc := (R_Mo, T_Mo, 50)) (n := 5) C 2 rfl rfl hl h rfl (wM_get (h := 0) (by decide)) (kV_Mo_136 ⟨by decide, by decide⟩) (m_Mo_isNode hw) rfl rfl (Nat.le_of_ble_eq_true rfl) ⟨by decide, by decide⟩ (fun r1 hw => ?_)
  refine i_if_ne (tgt := 10) (n := 8) C 3 rfl rfl rfl (fun c2 => ?_) (fun c2 => ?_)
  · replace hw := hw.1 c2
    refine i_iload_n (n := 11) C 6 rfl rfl rfl hl 2 rfl ?_
    refine i_iconst (v := (1 : Int32)) (n := 12) C 7 rfl rfl rfl ?_
    refine i_sipush (v := (1000 : Int32)) (n := 15) C 8 rfl rfl rfl ?_
    refine i_callSp (rest := []) (n := 18) C 9 rfl rfl hl h (kS_Mo_126 ⟨by decide, by decide⟩) (m_Mo_in hw) rfl rfl (Nat.le_of_ble_eq_true rfl) ⟨by decide, by decide⟩ (fun r3 hw => ?_)
    refine i_if_eq (tgt := 44) (n := 21) C 10 rfl rfl rfl (fun c4 => ?_) (fun c4 => ?_)
    · replace hw := hw.1 c4
      refine i_bipush (v := (-2 : Int32)) (n := 46) C 24 rfl rfl rfl ?_
      exact hret _ A _ _ _ _ rfl hw h (C.dg (k := 25) rfl)
    · replace hw := hw.2 c4
      refine i_aload_n (n := 22) C 11 rfl rfl rfl hl 0 rfl ?_
      refine i_iload_n (n := 23) C 12 rfl rfl rfl hl 1 rfl ?_
      refine i_iload_n (n := 24) C 13 rfl rfl rfl hl 3 rfl ?_
      refine i_if_eq (tgt := 32) (n := 27) C 14 rfl rfl rfl (fun c5 => ?_) (fun c5 => ?_)
      · replace hw := hw.1 c5
        refine i_bipush (v := (6 : Int32)) (n := 34) C 17 rfl rfl rfl ?_
        exact e_Mo_leak_34 C hret  A a1 (6 : Int32) ls _ _ (lv_sub hl [2] rfl) h hw
      · replace hw := hw.2 c5
        refine i_bipush (v := (7 : Int32)) (n := 29) C 15 rfl rfl rfl ?_
        refine i_goto (tgt := 34) C 16 rfl rfl ?_
        exact e_Mo_leak_34 C hret  A a1 (7 : Int32) ls _ _ (lv_sub hl [2] rfl) h hw
  · replace hw := hw.2 c2
    refine i_iconst (v := (-1 : Int32)) (n := 9) C 4 rfl rfl rfl ?_
    exact hret _ A _ _ _ _ rfl hw h (C.dg (k := 5) rfl)
end S195
section S196
variable {p : Program} {l : Launch} {e : Env} {R : Room} {s : State} {m : MethodId} {args : Array Value} {below : List Frame} {meth : Method} {c : Code} {H : Heap} {locs : List Loc} {cells slots : Nat} {Q : State → Prop}
variable {cc : ByteArray} {pc n nL : Nat} {ls : Array Slot} {rest : List Value} {D : va_G} {cy : Nat → ClassId} {Z : Nat → Prop} {ad : Nat → Nat} {tb : List (Nat × Instr × Nat)} {lv : List (Nat × Value)}
set_option maxHeartbeats 4000000 in
set_option maxRecDepth 100000 in
theorem m_Mo_clear {l : Launch} {D : va_G} {cy : Nat → ClassId} {ad : Nat → Nat} {I : Nat → Int32} {A : Nat → Nat → Int32} {a1 : Int32} {P : Int32 → ((Nat → Nat → Int32)) → Prop} (hw : g_Mo_clear I A a1 P) : ∀ sz, Met l y_Mo_clear (WL y_Mo_clear c_Mo_clear 3 (some .int)) { frames := 2, cells := 0, slots := 0, locals := 43 } (va_Pc [.ref (ad 0), .int a1] (PreW D cy (wM cy ad I A) sz)) (va_Qi P (fun u t => PostW D (va_A (wM cy ad I A) sz) ((fun (u : (Nat → Nat → Int32)) => wM cy ad I u) u) t) (va_A (wM cy ad I A) sz)) 0 0 (va_A (wM cy ad I A) sz) := by
  refine met_i (wf := fun (u : (Nat → Nat → Int32)) => wM cy ad I u) R_Mo .int db_Mo_clear (by decide) rfl rfl (Nat.le_of_ble_eq_true rfl) ?_
  intro p e s m below meth c Z Q ls C h hl hret
  have hl : lv_has ls 3 [(0, .ref (ad 0)), (1, .int a1)] := hl
  refine i_aload_n (n := 1) C 0 rfl rfl rfl hl 0 rfl ?_
  refine i_iload_n (n := 2) C 1 rfl rfl rfl hl 1 rfl ?_
  refine i_callVp (rest := []) (ci := 11) (qc := (R_Mo, T_Mo, 50)) (n := 5) C 2 rfl rfl hl h rfl (wM_get (h := 0) (by decide)) (kV_Mo_136 ⟨by decide, by decide⟩) (m_Mo_isNode hw) rfl rfl (Nat.le_of_ble_eq_true rfl) ⟨by decide, by decide⟩ (fun r1 hw => ?_)
  refine i_if_ne (tgt := 10) (n := 8) C 3 rfl rfl rfl (fun c2 => ?_) (fun c2 => ?_)
  · replace hw := hw.1 c2
    refine i_aload_n (n := 11) C 6 rfl rfl rfl hl 0 rfl ?_
    refine fgM_Mo_16 (n := 14) C 7 rfl rfl h ?_
    refine i_iload_n (n := 15) C 8 rfl rfl rfl hl 1 rfl ?_
    obtain ⟨hb, hw⟩ := hw
    refine i_iald (n := 16) C 9 rfl rfl h (wM_arr 2 (by decide) rfl) hb ?_
    refine i_if_ne (tgt := 22) (n := 19) C 10 rfl rfl rfl (fun c3 => ?_) (fun c3 => ?_)
    · replace hw := hw.1 c3
      refine i_aload_n (n := 23) C 13 rfl rfl rfl hl 0 rfl ?_
      refine fgM_Mo_16 (n := 26) C 14 rfl rfl h ?_
      refine i_iload_n (n := 27) C 15 rfl rfl rfl hl 1 rfl ?_
      obtain ⟨hb, hw⟩ := hw
      refine i_iald (n := 28) C 16 rfl rfl h (wM_arr 2 (by decide) rfl) hb ?_
      refine lv_topi (fun y4 ey4 => ?_)
      replace hw := hw y4 ey4
      refine i_istore_n (lv' := [(2, .int y4), (0, .ref (ad 0)), (1, .int a1)]) (n := 29) C 17 rfl rfl rfl hl (by decide) rfl (fun ls hl => ?_)
      refine i_aload_n (n := 30) C 18 rfl rfl rfl hl 1 rfl ?_
      refine fgM_Mo_16 (n := 33) C 19 rfl rfl h ?_
      refine i_iload_n (n := 34) C 20 rfl rfl rfl hl 2 rfl ?_
      refine i_iconst (v := (0 : Int32)) (n := 35) C 21 rfl rfl rfl ?_
      obtain ⟨hb, hw⟩ := hw
      refine i_iast (n := 36) C 22 rfl rfl h (wM_arr 2 (by decide) rfl) hb (wM_sA 2 (by decide) rfl _ _) (fun H locs h => ?_)
      refine i_aload_n (n := 37) C 23 rfl rfl rfl hl 1 rfl ?_
      refine fgM_Mo_31 (n := 40) C 24 rfl rfl h ?_
      refine i_iload_n (n := 41) C 25 rfl rfl rfl hl 2 rfl ?_
      refine i_iconst (v := (0 : Int32)) (n := 42) C 26 rfl rfl rfl ?_
      obtain ⟨hb, hw⟩ := hw
      refine i_iast (n := 43) C 27 rfl rfl h (wM_arr 7 (by decide) rfl) hb (wM_sA 7 (by decide) rfl _ _) (fun H locs h => ?_)
      refine i_aload_n (n := 44) C 28 rfl rfl rfl hl 1 rfl ?_
      refine fgM_Mo_34 (n := 47) C 29 rfl rfl h ?_
      refine i_iload_n (n := 48) C 30 rfl rfl rfl hl 2 rfl ?_
      refine i_iconst (v := (0 : Int32)) (n := 49) C 31 rfl rfl rfl ?_
      obtain ⟨hb, hw⟩ := hw
      refine i_zast (n := 50) C 32 rfl rfl h (wM_arr 8 (by decide) rfl) hb (wM_sA 8 (by decide) rfl _ _) (fun H locs h => ?_)
      refine i_iload_n (n := 51) C 33 rfl rfl rfl hl 0 rfl ?_
      exact hret _ (sA (sA (sA A 2 a1 (0 : Int32)) 7 a1 (0 : Int32)) 8 a1 (vp_nar .boolean (0 : Int32))) _ _ _ _ rfl hw h (C.dg (k := 34) rfl)
    · replace hw := hw.2 c3
      refine i_bipush (v := (-5 : Int32)) (n := 21) C 11 rfl rfl rfl ?_
      exact hret _ A _ _ _ _ rfl hw h (C.dg (k := 12) rfl)
  · replace hw := hw.2 c2
    refine i_iconst (v := (-1 : Int32)) (n := 9) C 4 rfl rfl rfl ?_
    exact hret _ A _ _ _ _ rfl hw h (C.dg (k := 5) rfl)
end S196
section S197
variable {p : Program} {l : Launch} {e : Env} {R : Room} {s : State} {m : MethodId} {args : Array Value} {below : List Frame} {meth : Method} {c : Code} {H : Heap} {locs : List Loc} {cells slots : Nat} {Q : State → Prop}
variable {cc : ByteArray} {pc n nL : Nat} {ls : Array Slot} {rest : List Value} {D : va_G} {cy : Nat → ClassId} {Z : Nat → Prop} {ad : Nat → Nat} {tb : List (Nat × Instr × Nat)} {lv : List (Nat × Value)}
set_option maxHeartbeats 4000000 in
set_option maxRecDepth 100000 in
theorem e_Mo_isSource_60 {I : Nat → Int32} {A : Nat → Nat → Int32} {a1 : Int32} {P : Int32 → Prop}  (C : CX D cy R_Mo c_Mo_isSource tb_Mo_isSource 2 p s m args c Z) (h : HXw D Z s.heap H locs (wM cy ad I A)) (hret : RetP p l e { frames := 0, cells := 0, slots := 0, locals := 0 } s m args below meth c c_Mo_isSource .boolean H locs Q P) :
    ∀ (ls : Array Slot), lv_has ls 2 [] → g_Mo_isSource_60 I A a1 P   → W p l e { frames := 0, cells := 0, slots := 0, locals := 0 } s m args below meth c H locs 0 0 Q (F0 m 60 ls []) := by
  intro  ls hl hw
  refine i_iconst (v := (1 : Int32)) (n := 61) C 36 rfl rfl rfl ?_
  refine i_goto (tgt := 65) C 37 rfl rfl ?_
  exact hret _ _ _ rfl hw (C.dg (k := 39) rfl)
set_option maxHeartbeats 4000000 in
set_option maxRecDepth 100000 in
theorem e_Mo_isSource_19 {I : Nat → Int32} {A : Nat → Nat → Int32} {a1 : Int32} {P : Int32 → Prop}  (C : CX D cy R_Mo c_Mo_isSource tb_Mo_isSource 2 p s m args c Z) (h : HXw D Z s.heap H locs (wM cy ad I A)) (hret : RetP p l e { frames := 0, cells := 0, slots := 0, locals := 0 } s m args below meth c c_Mo_isSource .boolean H locs Q P) :
    ∀ (ls : Array Slot), lv_has ls 2 [(0, .ref (ad 0)), (1, .int a1)] → g_Mo_isSource_19 I A a1 P   → W p l e { frames := 0, cells := 0, slots := 0, locals := 0 } s m args below meth c H locs 0 0 Q (F0 m 19 ls []) := by
  intro  ls hl hw
  refine i_aload_n (n := 20) C 11 rfl rfl rfl hl 0 rfl ?_
  refine fgM_Mo_16 (n := 23) C 12 rfl rfl h ?_
  refine i_iload_n (n := 24) C 13 rfl rfl rfl hl 1 rfl ?_
  obtain ⟨hb, hw⟩ := hw
  refine i_iald (n := 25) C 14 rfl rfl h (wM_arr 2 (by decide) rfl) hb ?_
  refine i_iconst (v := (5 : Int32)) (n := 26) C 15 rfl rfl rfl ?_
  refine i_icmp_ne (tgt := 64) (n := 29) C 16 rfl rfl rfl (fun c2 => ?_) (fun c2 => ?_)
  · replace hw := hw.1 c2
    refine i_iconst (v := (0 : Int32)) (n := 65) C 38 rfl rfl rfl ?_
    exact hret _ _ _ rfl hw (C.dg (k := 39) rfl)
  · replace hw := hw.2 c2
    refine i_aload_n (n := 30) C 17 rfl rfl rfl hl 0 rfl ?_
    refine fgM_Mo_34 (n := 33) C 18 rfl rfl h ?_
    refine i_iload_n (n := 34) C 19 rfl rfl rfl hl 1 rfl ?_
    obtain ⟨hb, hw⟩ := hw
    refine i_zald (n := 35) C 20 rfl rfl h (wM_arr 8 (by decide) rfl) hb ?_
    refine i_if_eq (tgt := 64) (n := 38) C 21 rfl rfl rfl (fun c3 => ?_) (fun c3 => ?_)
    · replace hw := hw.1 c3
      refine i_iconst (v := (0 : Int32)) (n := 65) C 38 rfl rfl rfl ?_
      exact hret _ _ _ rfl hw (C.dg (k := 39) rfl)
    · replace hw := hw.2 c3
      refine i_aload_n (n := 39) C 22 rfl rfl rfl hl 0 rfl ?_
      refine fgM_Mo_165 (n := 42) C 23 rfl rfl h ?_
      refine i_aload_n (n := 43) C 24 rfl rfl rfl hl 0 rfl ?_
      refine fgM_Mo_38 (n := 46) C 25 rfl rfl h ?_
      refine i_iload_n (n := 47) C 26 rfl rfl rfl hl 1 rfl ?_
      obtain ⟨hb, hw⟩ := hw
      refine i_iald (n := 48) C 27 rfl rfl h (wM_arr 9 (by decide) rfl) hb ?_
      refine i_isub (n := 49) C 28 rfl rfl ?_
      refine i_iconst (v := (4 : Int32)) (n := 50) C 29 rfl rfl rfl ?_
      refine i_aload_n (n := 51) C 30 rfl rfl rfl hl 0 rfl ?_
      refine fgM_Mo_22 (n := 54) C 31 rfl rfl h ?_
      refine i_iload_n (n := 55) C 32 rfl rfl rfl hl 1 rfl ?_
      obtain ⟨hb, hw⟩ := hw
      refine i_iald (n := 56) C 33 rfl rfl h (wM_arr 4 (by decide) rfl) hb ?_
      refine i_imul (n := 57) C 34 rfl rfl ?_
      refine i_icmp_lt (tgt := 64) (n := 60) C 35 rfl rfl rfl (fun c4 => ?_) (fun c4 => ?_)
      · replace hw := hw.1 c4
        refine i_iconst (v := (0 : Int32)) (n := 65) C 38 rfl rfl rfl ?_
        exact hret _ _ _ rfl hw (C.dg (k := 39) rfl)
      · replace hw := hw.2 c4
        exact e_Mo_isSource_60 C h hret   ls (lv_sub hl [] rfl) hw
set_option maxHeartbeats 4000000 in
set_option maxRecDepth 100000 in
theorem m_Mo_isSource {l : Launch} {D : va_G} {cy : Nat → ClassId} {ad : Nat → Nat} {I : Nat → Int32} {A : Nat → Nat → Int32} {a1 : Int32} {P : Int32 → Prop} (hw : g_Mo_isSource I A a1 P) : ∀ sz, Met l y_Mo_isSource (WL y_Mo_isSource c_Mo_isSource 2 (some .boolean)) { frames := 0, cells := 0, slots := 0, locals := 0 } (va_Pc [.ref (ad 0), .int a1] (PreW D cy (wM cy ad I A) sz)) (vp_Si P) 0 0 (fun _ => False) := by
  refine met_p R_Mo .boolean db_Mo_isSource (by decide) rfl rfl (Nat.le_of_ble_eq_true rfl) ?_
  intro p e s m below meth c Z Q ls C h hl hret
  have hl : lv_has ls 2 [(0, .ref (ad 0)), (1, .int a1)] := hl
  refine i_aload_n (n := 1) C 0 rfl rfl rfl hl 0 rfl ?_
  refine fgM_Mo_16 (n := 4) C 1 rfl rfl h ?_
  refine i_iload_n (n := 5) C 2 rfl rfl rfl hl 1 rfl ?_
  obtain ⟨hb, hw⟩ := hw
  refine i_iald (n := 6) C 3 rfl rfl h (wM_arr 2 (by decide) rfl) hb ?_
  refine i_iconst (v := (4 : Int32)) (n := 7) C 4 rfl rfl rfl ?_
  refine i_icmp_ne (tgt := 19) (n := 10) C 5 rfl rfl rfl (fun c1 => ?_) (fun c1 => ?_)
  · replace hw := hw.1 c1
    exact e_Mo_isSource_19 C h hret   ls hl hw
  · replace hw := hw.2 c1
    refine i_aload_n (n := 11) C 6 rfl rfl rfl hl 0 rfl ?_
    refine fgM_Mo_31 (n := 14) C 7 rfl rfl h ?_
    refine i_iload_n (n := 15) C 8 rfl rfl rfl hl 1 rfl ?_
    obtain ⟨hb, hw⟩ := hw
    refine i_iald (n := 16) C 9 rfl rfl h (wM_arr 7 (by decide) rfl) hb ?_
    refine i_if_gt (tgt := 60) (n := 19) C 10 rfl rfl rfl (fun c5 => ?_) (fun c5 => ?_)
    · replace hw := hw.1 c5
      exact e_Mo_isSource_60 C h hret   ls (lv_sub hl [] rfl) hw
    · replace hw := hw.2 c5
      exact e_Mo_isSource_19 C h hret   ls hl hw
end S197
section S198
variable {p : Program} {l : Launch} {e : Env} {R : Room} {s : State} {m : MethodId} {args : Array Value} {below : List Frame} {meth : Method} {c : Code} {H : Heap} {locs : List Loc} {cells slots : Nat} {Q : State → Prop}
variable {cc : ByteArray} {pc n nL : Nat} {ls : Array Slot} {rest : List Value} {D : va_G} {cy : Nat → ClassId} {Z : Nat → Prop} {ad : Nat → Nat} {tb : List (Nat × Instr × Nat)} {lv : List (Nat × Value)}
set_option maxHeartbeats 4000000 in
set_option maxRecDepth 100000 in
theorem m_Mo_pressOf {l : Launch} {D : va_G} {cy : Nat → ClassId} {ad : Nat → Nat} {I : Nat → Int32} {A : Nat → Nat → Int32} {a1 : Int32} {P : Int32 → Prop} (hw : g_Mo_pressOf A a1 P) : ∀ sz, Met l y_Mo_pressOf (WL y_Mo_pressOf c_Mo_pressOf 2 (some .int)) { frames := 0, cells := 0, slots := 0, locals := 0 } (va_Pc [.ref (ad 0), .int a1] (PreW D cy (wM cy ad I A) sz)) (vp_Si P) 0 0 (fun _ => False) := by
  refine met_p R_Mo .int db_Mo_pressOf (by decide) rfl rfl (Nat.le_of_ble_eq_true rfl) ?_
  intro p e s m below meth c Z Q ls C h hl hret
  have hl : lv_has ls 2 [(0, .ref (ad 0)), (1, .int a1)] := hl
  refine i_aload_n (n := 1) C 0 rfl rfl rfl hl 0 rfl ?_
  refine fgM_Mo_50 (n := 4) C 1 rfl rfl h ?_
  refine i_iload_n (n := 5) C 2 rfl rfl rfl hl 1 rfl ?_
  obtain ⟨hb, hw⟩ := hw
  refine i_iald (n := 6) C 3 rfl rfl h (wM_arr 13 (by decide) rfl) hb ?_
  refine i_bipush (v := (10 : Int32)) (n := 8) C 4 rfl rfl rfl ?_
  refine i_aload_n (n := 9) C 5 rfl rfl rfl hl 0 rfl ?_
  refine fgM_Mo_7 (n := 12) C 6 rfl rfl h ?_
  refine i_iload_n (n := 13) C 7 rfl rfl rfl hl 1 rfl ?_
  obtain ⟨hb, hw⟩ := hw
  refine i_iald (n := 14) C 8 rfl rfl h (wM_arr 0 (by decide) rfl) hb ?_
  refine i_imul (n := 15) C 9 rfl rfl ?_
  refine i_isub (n := 16) C 10 rfl rfl ?_
  exact hret _ _ _ rfl hw (C.dg (k := 11) rfl)
end S198
theorem kV_Mo_168 {R : Room} {s : State} {args : Array Value} (hR : 0 + 1 ≤ R.frames ∧ 8 + (2 + 11) + 0 ≤ R.locals) (ht : ∀ w ∈ GW, w.before args s = true) : CallW R s args R_Mo R_Mo 168 y_Mo_pressOf c_Mo_pressOf 2 (some .int) (WL y_Mo_pressOf c_Mo_pressOf 2 (some .int)) { frames := 0, cells := 0, slots := 0, locals := 0 } 0 0 1 := cwV 1 ht (GW_v w_6_115 w_6_117 w_0_36 w_1_7 (GW_wl w_6_118)) rfl rfl rfl (by decide +kernel) hR
section S199
variable {p : Program} {l : Launch} {e : Env} {R : Room} {s : State} {m : MethodId} {args : Array Value} {below : List Frame} {meth : Method} {c : Code} {H : Heap} {locs : List Loc} {cells slots : Nat} {Q : State → Prop}
variable {cc : ByteArray} {pc n nL : Nat} {ls : Array Slot} {rest : List Value} {D : va_G} {cy : Nat → ClassId} {Z : Nat → Prop} {ad : Nat → Nat} {tb : List (Nat × Instr × Nat)} {lv : List (Nat × Value)}
set_option maxHeartbeats 4000000 in
set_option maxRecDepth 100000 in
theorem e_Mo_takes_57 {I : Nat → Int32} {A : Nat → Nat → Int32} {a1 : Int32} {P : Int32 → Prop}  (C : CX D cy R_Mo c_Mo_takes tb_Mo_takes 6 p s m args c Z) (h : HXw D Z s.heap H locs (wM cy ad I A)) (hret : RetP p l e { frames := 1, cells := 0, slots := 0, locals := 21 } s m args below meth c c_Mo_takes .int H locs Q P) :
    ∀ (x2 : Int32) (x3 : Int32) (x4 : Int32) (s0 : Int32) (ls : Array Slot), lv_has ls 6 [(0, .ref (ad 0)), (1, .int a1), (2, .int x2), (3, .int x3), (4, .int x4)] → g_Mo_takes_57 I A a1 P  x2 x3 x4 s0 → W p l e { frames := 1, cells := 0, slots := 0, locals := 21 } s m args below meth c H locs 0 0 Q (F0 m 57 ls [.int s0]) := by
  intro x2 x3 x4 s0 ls hl hw
  refine i_istore (lv' := [(5, .int s0), (0, .ref (ad 0)), (1, .int a1), (2, .int x2), (3, .int x3), (4, .int x4)]) (n := 59) C 34 rfl rfl hl (by decide) rfl (fun ls hl => ?_)
  refine i_aload_n (n := 60) C 35 rfl rfl rfl hl 1 rfl ?_
  refine fgM_Mo_16 (n := 63) C 36 rfl rfl h ?_
  refine i_iload_n (n := 64) C 37 rfl rfl rfl hl 2 rfl ?_
  obtain ⟨hb, hw⟩ := hw
  refine i_iald (n := 65) C 38 rfl rfl h (wM_arr 2 (by decide) rfl) hb ?_
  by_cases c7 : (A 2 a1.toNatClampNeg) = (1 : Int32)
  · replace hw := hw.1 c7
    refine i_tsw (tgt := 108) C 39 rfl c7 (by decide) (by decide) rfl rfl ?_
    refine i_iload (n := 110) C 40 rfl rfl hl 5 rfl ?_
    refine i_if_eq (tgt := 122) (n := 113) C 41 rfl rfl rfl (fun c8 => ?_) (fun c8 => ?_)
    · replace hw := hw.1 c8
      refine i_iconst (v := (0 : Int32)) (n := 123) C 47 rfl rfl rfl ?_
      exact hret _ _ _ rfl hw (C.dg (k := 48) rfl)
    · replace hw := hw.2 c8
      refine i_aload_n (n := 114) C 42 rfl rfl rfl hl 1 rfl ?_
      refine fgM_Mo_19 (n := 117) C 43 rfl rfl h ?_
      refine i_iload_n (n := 118) C 44 rfl rfl rfl hl 2 rfl ?_
      obtain ⟨hb, hw⟩ := hw
      refine i_iald (n := 119) C 45 rfl rfl h (wM_arr 3 (by decide) rfl) hb ?_
      refine i_goto (tgt := 123) C 46 rfl rfl ?_
      exact hret _ _ _ rfl hw (C.dg (k := 48) rfl)
  replace hw := hw.2
  by_cases c9 : (A 2 a1.toNatClampNeg) = (2 : Int32)
  · replace hw := hw.1 c9
    refine i_tsw (tgt := 124) C 39 rfl c9 (by decide) (by decide) rfl rfl ?_
    refine i_iload (n := 126) C 49 rfl rfl hl 5 rfl ?_
    refine i_if_eq (tgt := 155) (n := 129) C 50 rfl rfl rfl (fun c10 => ?_) (fun c10 => ?_)
    · replace hw := hw.1 c10
      refine i_iconst (v := (0 : Int32)) (n := 156) C 69 rfl rfl rfl ?_
      exact hret _ _ _ rfl hw (C.dg (k := 70) rfl)
    · replace hw := hw.2 c10
      refine i_aload_n (n := 130) C 51 rfl rfl rfl hl 1 rfl ?_
      refine fgM_Mo_19 (n := 133) C 52 rfl rfl h ?_
      refine i_iload_n (n := 134) C 53 rfl rfl rfl hl 2 rfl ?_
      obtain ⟨hb, hw⟩ := hw
      refine i_iald (n := 135) C 54 rfl rfl h (wM_arr 3 (by decide) rfl) hb ?_
      refine i_aload_n (n := 136) C 55 rfl rfl rfl hl 1 rfl ?_
      refine fgM_Mo_22 (n := 139) C 56 rfl rfl h ?_
      refine i_iload_n (n := 140) C 57 rfl rfl rfl hl 2 rfl ?_
      obtain ⟨hb, hw⟩ := hw
      refine i_iald (n := 141) C 58 rfl rfl h (wM_arr 4 (by decide) rfl) hb ?_
      refine i_iconst (v := (3 : Int32)) (n := 142) C 59 rfl rfl rfl ?_
      refine i_iload_n (n := 143) C 60 rfl rfl rfl hl 4 rfl ?_
      refine i_bipush (v := (60 : Int32)) (n := 145) C 61 rfl rfl rfl ?_
      refine i_idiv (n := 146) C 62 rfl rfl (by decide) ?_
      refine i_imul (n := 147) C 63 rfl rfl ?_
      refine i_iadd (n := 148) C 64 rfl rfl ?_
      refine i_bipush (v := (7 : Int32)) (n := 150) C 65 rfl rfl rfl ?_
      refine i_irem (n := 151) C 66 rfl rfl (by decide) ?_
      refine i_imul (n := 152) C 67 rfl rfl ?_
      refine i_goto (tgt := 156) C 68 rfl rfl ?_
      exact hret _ _ _ rfl hw (C.dg (k := 70) rfl)
  replace hw := hw.2
  by_cases c11 : (A 2 a1.toNatClampNeg) = (3 : Int32)
  · replace hw := hw.1 c11
    refine i_tsw (tgt := 157) C 39 rfl c11 (by decide) (by decide) rfl rfl ?_
    refine i_iload_n (n := 158) C 71 rfl rfl rfl hl 3 rfl ?_
    refine i_aload_n (n := 159) C 72 rfl rfl rfl hl 1 rfl ?_
    refine fgM_Mo_25 (n := 162) C 73 rfl rfl h ?_
    refine i_iload_n (n := 163) C 74 rfl rfl rfl hl 2 rfl ?_
    obtain ⟨hb, hw⟩ := hw
    refine i_iald (n := 164) C 75 rfl rfl h (wM_arr 5 (by decide) rfl) hb ?_
    refine i_iadd (n := 165) C 76 rfl rfl ?_
    refine i_aload_n (n := 166) C 77 rfl rfl rfl hl 1 rfl ?_
    refine fgM_Mo_22 (n := 169) C 78 rfl rfl h ?_
    refine i_iload_n (n := 170) C 79 rfl rfl rfl hl 2 rfl ?_
    obtain ⟨hb, hw⟩ := hw
    refine i_iald (n := 171) C 80 rfl rfl h (wM_arr 4 (by decide) rfl) hb ?_
    obtain ⟨hd, hw⟩ := hw
    refine i_irem (n := 172) C 81 rfl rfl hd ?_
    refine i_aload_n (n := 173) C 82 rfl rfl rfl hl 1 rfl ?_
    refine fgM_Mo_28 (n := 176) C 83 rfl rfl h ?_
    refine i_iload_n (n := 177) C 84 rfl rfl rfl hl 2 rfl ?_
    obtain ⟨hb, hw⟩ := hw
    refine i_iald (n := 178) C 85 rfl rfl h (wM_arr 6 (by decide) rfl) hb ?_
    refine i_icmp_ge (tgt := 190) (n := 181) C 86 rfl rfl rfl (fun c12 => ?_) (fun c12 => ?_)
    · replace hw := hw.1 c12
      refine i_iconst (v := (0 : Int32)) (n := 191) C 92 rfl rfl rfl ?_
      exact hret _ _ _ rfl hw (C.dg (k := 93) rfl)
    · replace hw := hw.2 c12
      refine i_aload_n (n := 182) C 87 rfl rfl rfl hl 1 rfl ?_
      refine fgM_Mo_19 (n := 185) C 88 rfl rfl h ?_
      refine i_iload_n (n := 186) C 89 rfl rfl rfl hl 2 rfl ?_
      obtain ⟨hb, hw⟩ := hw
      refine i_iald (n := 187) C 90 rfl rfl h (wM_arr 3 (by decide) rfl) hb ?_
      refine i_goto (tgt := 191) C 91 rfl rfl ?_
      exact hret _ _ _ rfl hw (C.dg (k := 93) rfl)
  replace hw := hw.2
  by_cases c13 : (A 2 a1.toNatClampNeg) = (4 : Int32)
  · replace hw := hw.1 c13
    refine i_tsw (tgt := 192) C 39 rfl c13 (by decide) (by decide) rfl rfl ?_
    refine i_aload_n (n := 193) C 94 rfl rfl rfl hl 1 rfl ?_
    refine fgM_Mo_31 (n := 196) C 95 rfl rfl h ?_
    refine i_iload_n (n := 197) C 96 rfl rfl rfl hl 2 rfl ?_
    obtain ⟨hb, hw⟩ := hw
    refine i_iald (n := 198) C 97 rfl rfl h (wM_arr 7 (by decide) rfl) hb ?_
    refine i_if_ne (tgt := 206) (n := 201) C 98 rfl rfl rfl (fun c14 => ?_) (fun c14 => ?_)
    · replace hw := hw.1 c14
      refine i_iconst (v := (0 : Int32)) (n := 207) C 101 rfl rfl rfl ?_
      exact hret _ _ _ rfl hw (C.dg (k := 102) rfl)
    · replace hw := hw.2 c14
      refine i_bipush (v := (10 : Int32)) (n := 203) C 99 rfl rfl rfl ?_
      refine i_goto (tgt := 207) C 100 rfl rfl ?_
      exact hret _ _ _ rfl hw (C.dg (k := 102) rfl)
  replace hw := hw.2
  by_cases c15 : (A 2 a1.toNatClampNeg) = (5 : Int32)
  · replace hw := hw.1 c15
    refine i_tsw (tgt := 238) C 39 rfl c15 (by decide) (by decide) rfl rfl ?_
    refine i_iconst (v := (0 : Int32)) (n := 239) C 123 rfl rfl rfl ?_
    exact hret _ _ _ rfl hw (C.dg (k := 124) rfl)
  replace hw := hw.2
  by_cases c16 : (A 2 a1.toNatClampNeg) = (6 : Int32)
  · replace hw := hw.1 c16
    refine i_tsw (tgt := 208) C 39 rfl c16 (by decide) (by decide) rfl rfl ?_
    refine i_aload_n (n := 209) C 103 rfl rfl rfl hl 1 rfl ?_
    refine fgM_Mo_19 (n := 212) C 104 rfl rfl h ?_
    refine i_iload_n (n := 213) C 105 rfl rfl rfl hl 2 rfl ?_
    obtain ⟨hb, hw⟩ := hw
    refine i_iald (n := 214) C 106 rfl rfl h (wM_arr 3 (by decide) rfl) hb ?_
    refine i_iload (n := 216) C 107 rfl rfl hl 0 rfl ?_
    refine i_imul (n := 217) C 108 rfl rfl ?_
    refine i_sipush (v := (1000 : Int32)) (n := 220) C 109 rfl rfl rfl ?_
    refine i_idiv (n := 221) C 110 rfl rfl (by decide) ?_
    exact hret _ _ _ rfl hw (C.dg (k := 111) rfl)
  replace hw := hw.2
  by_cases c17 : (A 2 a1.toNatClampNeg) = (7 : Int32)
  · replace hw := hw.1 c17
    refine i_tsw (tgt := 222) C 39 rfl c17 (by decide) (by decide) rfl rfl ?_
    refine i_iconst (v := (2 : Int32)) (n := 223) C 112 rfl rfl rfl ?_
    refine i_aload_n (n := 224) C 113 rfl rfl rfl hl 1 rfl ?_
    refine fgM_Mo_19 (n := 227) C 114 rfl rfl h ?_
    refine i_iload_n (n := 228) C 115 rfl rfl rfl hl 2 rfl ?_
    obtain ⟨hb, hw⟩ := hw
    refine i_iald (n := 229) C 116 rfl rfl h (wM_arr 3 (by decide) rfl) hb ?_
    refine i_iload (n := 231) C 117 rfl rfl hl 0 rfl ?_
    refine i_imul (n := 232) C 118 rfl rfl ?_
    refine i_sipush (v := (1000 : Int32)) (n := 235) C 119 rfl rfl rfl ?_
    refine i_idiv (n := 236) C 120 rfl rfl (by decide) ?_
    refine i_imul (n := 237) C 121 rfl rfl ?_
    exact hret _ _ _ rfl hw (C.dg (k := 122) rfl)
  replace hw := hw.2
  replace hw := hw c7
  replace hw := hw c9
  replace hw := hw c11
  replace hw := hw c13
  replace hw := hw c15
  replace hw := hw c16
  replace hw := hw c17
  refine i_tswd (tgt := 238) C 39 rfl (fun j hj => match j, hj with | 0, _ => lv_neT c7 rfl | 1, _ => lv_neT c9 rfl | 2, _ => lv_neT c11 rfl | 3, _ => lv_neT c13 rfl | 4, _ => lv_neT c15 rfl | 5, _ => lv_neT c16 rfl | 6, _ => lv_neT c17 rfl | j + 7, hj => absurd hj (by omega)) rfl ?_
  refine i_iconst (v := (0 : Int32)) (n := 239) C 123 rfl rfl rfl ?_
  exact hret _ _ _ rfl hw (C.dg (k := 124) rfl)
set_option maxHeartbeats 4000000 in
set_option maxRecDepth 100000 in
theorem e_Mo_takes_38 {I : Nat → Int32} {A : Nat → Nat → Int32} {a1 : Int32} {P : Int32 → Prop}  (C : CX D cy R_Mo c_Mo_takes tb_Mo_takes 6 p s m args c Z) (h : HXw D Z s.heap H locs (wM cy ad I A)) (hret : RetP p l e { frames := 1, cells := 0, slots := 0, locals := 21 } s m args below meth c c_Mo_takes .int H locs Q P) :
    ∀ (x2 : Int32) (x3 : Int32) (s0 : Int32) (ls : Array Slot), lv_has ls 6 [(0, .ref (ad 0)), (1, .int a1), (2, .int x2), (3, .int x3)] → g_Mo_takes_38 I A a1 P  x2 x3 s0 → W p l e { frames := 1, cells := 0, slots := 0, locals := 21 } s m args below meth c H locs 0 0 Q (F0 m 38 ls [.int s0]) := by
  intro x2 x3 s0 ls hl hw
  refine i_istore (lv' := [(4, .int s0), (0, .ref (ad 0)), (1, .int a1), (2, .int x2), (3, .int x3)]) (n := 40) C 24 rfl rfl hl (by decide) rfl (fun ls hl => ?_)
  refine i_aload_n (n := 41) C 25 rfl rfl rfl hl 1 rfl ?_
  refine i_iload_n (n := 42) C 26 rfl rfl rfl hl 2 rfl ?_
  refine i_callVp (rest := []) (ci := 11) (qc := (R_Mo, T_Mo, 50)) (n := 45) C 27 rfl rfl hl h rfl (wM_get (h := 0) (by decide)) (kV_Mo_168 ⟨by decide, by decide⟩) (m_Mo_pressOf hw) rfl rfl (Nat.le_of_ble_eq_true rfl) ⟨by decide, by decide⟩ (fun r4 hw => ?_)
  refine i_if_ge (tgt := 52) (n := 48) C 28 rfl rfl rfl (fun c5 => ?_) (fun c5 => ?_)
  · replace hw := hw.1 c5
    refine i_aload_n (n := 53) C 31 rfl rfl rfl hl 1 rfl ?_
    refine i_iload_n (n := 54) C 32 rfl rfl rfl hl 2 rfl ?_
    refine i_callVp (rest := []) (ci := 11) (qc := (R_Mo, T_Mo, 50)) (n := 57) C 33 rfl rfl hl h rfl (wM_get (h := 0) (by decide)) (kV_Mo_168 ⟨by decide, by decide⟩) (m_Mo_pressOf hw) rfl rfl (Nat.le_of_ble_eq_true rfl) ⟨by decide, by decide⟩ (fun r6 hw => ?_)
    exact e_Mo_takes_57 C h hret  x2 x3 s0 r6 ls (lv_sub hl [1, 2, 3, 4, 0] rfl) hw
  · replace hw := hw.2 c5
    refine i_iconst (v := (0 : Int32)) (n := 49) C 29 rfl rfl rfl ?_
    refine i_goto (tgt := 57) C 30 rfl rfl ?_
    exact e_Mo_takes_57 C h hret  x2 x3 s0 (0 : Int32) ls (lv_sub hl [1, 2, 3, 4, 0] rfl) hw
set_option maxHeartbeats 4000000 in
set_option maxRecDepth 100000 in
theorem e_Mo_takes_37 {I : Nat → Int32} {A : Nat → Nat → Int32} {a1 : Int32} {P : Int32 → Prop}  (C : CX D cy R_Mo c_Mo_takes tb_Mo_takes 6 p s m args c Z) (h : HXw D Z s.heap H locs (wM cy ad I A)) (hret : RetP p l e { frames := 1, cells := 0, slots := 0, locals := 21 } s m args below meth c c_Mo_takes .int H locs Q P) :
    ∀ (x2 : Int32) (x3 : Int32) (ls : Array Slot), lv_has ls 6 [(0, .ref (ad 0)), (1, .int a1), (2, .int x2), (3, .int x3)] → g_Mo_takes_37 I A a1 P  x2 x3 → W p l e { frames := 1, cells := 0, slots := 0, locals := 21 } s m args below meth c H locs 0 0 Q (F0 m 37 ls []) := by
  intro x2 x3 ls hl hw
  refine i_iconst (v := (0 : Int32)) (n := 38) C 23 rfl rfl rfl ?_
  exact e_Mo_takes_38 C h hret  x2 x3 (0 : Int32) ls hl hw
set_option maxHeartbeats 4000000 in
set_option maxRecDepth 100000 in
theorem m_Mo_takes {l : Launch} {D : va_G} {cy : Nat → ClassId} {ad : Nat → Nat} {I : Nat → Int32} {A : Nat → Nat → Int32} {a1 : Int32} {P : Int32 → Prop} (hw : g_Mo_takes I A a1 P) : ∀ sz, Met l y_Mo_takes (WL y_Mo_takes c_Mo_takes 6 (some .int)) { frames := 1, cells := 0, slots := 0, locals := 21 } (va_Pc [.ref (ad 0), .int a1] (PreW D cy (wM cy ad I A) sz)) (vp_Si P) 0 0 (fun _ => False) := by
  refine met_p R_Mo .int db_Mo_takes (by decide) rfl rfl (Nat.le_of_ble_eq_true rfl) ?_
  intro p e s m below meth c Z Q ls C h hl hret
  have hl : lv_has ls 6 [(0, .ref (ad 0)), (1, .int a1)] := hl
  refine i_aload_n (n := 1) C 0 rfl rfl rfl hl 0 rfl ?_
  refine fgM_Mo_165 (n := 4) C 1 rfl rfl h ?_
  refine i_iconst (v := (4 : Int32)) (n := 5) C 2 rfl rfl rfl ?_
  refine i_idiv (n := 6) C 3 rfl rfl (by decide) ?_
  refine lv_topi (fun y1 ey1 => ?_)
  replace hw := hw y1 ey1
  refine i_istore_n (lv' := [(2, .int y1), (0, .ref (ad 0)), (1, .int a1)]) (n := 7) C 4 rfl rfl rfl hl (by decide) rfl (fun ls hl => ?_)
  refine i_iload_n (n := 8) C 5 rfl rfl rfl hl 0 rfl ?_
  refine i_sipush (v := (1440 : Int32)) (n := 11) C 6 rfl rfl rfl ?_
  refine i_irem (n := 12) C 7 rfl rfl (by decide) ?_
  refine lv_topi (fun y2 ey2 => ?_)
  replace hw := hw y2 ey2
  refine i_istore_n (lv' := [(3, .int y2), (2, .int y1), (0, .ref (ad 0)), (1, .int a1)]) (n := 13) C 8 rfl rfl rfl hl (by decide) rfl (fun ls hl => ?_)
  refine i_iload_n (n := 14) C 9 rfl rfl rfl hl 0 rfl ?_
  refine i_aload_n (n := 15) C 10 rfl rfl rfl hl 2 rfl ?_
  refine fgM_Mo_25 (n := 18) C 11 rfl rfl h ?_
  refine i_iload_n (n := 19) C 12 rfl rfl rfl hl 3 rfl ?_
  obtain ⟨hb, hw⟩ := hw
  refine i_iald (n := 20) C 13 rfl rfl h (wM_arr 5 (by decide) rfl) hb ?_
  refine i_icmp_lt (tgt := 37) (n := 23) C 14 rfl rfl rfl (fun c3 => ?_) (fun c3 => ?_)
  · replace hw := hw.1 c3
    exact e_Mo_takes_37 C h hret  y1 y2 ls (lv_sub hl [2, 3, 1, 0] rfl) hw
  · replace hw := hw.2 c3
    refine i_iload_n (n := 24) C 15 rfl rfl rfl hl 0 rfl ?_
    refine i_aload_n (n := 25) C 16 rfl rfl rfl hl 2 rfl ?_
    refine fgM_Mo_28 (n := 28) C 17 rfl rfl h ?_
    refine i_iload_n (n := 29) C 18 rfl rfl rfl hl 3 rfl ?_
    obtain ⟨hb, hw⟩ := hw
    refine i_iald (n := 30) C 19 rfl rfl h (wM_arr 6 (by decide) rfl) hb ?_
    refine i_icmp_ge (tgt := 37) (n := 33) C 20 rfl rfl rfl (fun c18 => ?_) (fun c18 => ?_)
    · replace hw := hw.1 c18
      exact e_Mo_takes_37 C h hret  y1 y2 ls (lv_sub hl [2, 3, 1, 0] rfl) hw
    · replace hw := hw.2 c18
      refine i_iconst (v := (1 : Int32)) (n := 34) C 21 rfl rfl rfl ?_
      refine i_goto (tgt := 38) C 22 rfl rfl ?_
      exact e_Mo_takes_38 C h hret  y1 y2 (1 : Int32) ls (lv_sub hl [2, 3, 1, 0] rfl) hw
end S199
theorem kV_Mo_171 {R : Room} {s : State} {args : Array Value} (hR : 1 + 1 ≤ R.frames ∧ 8 + (6 + 11) + 21 ≤ R.locals) (ht : ∀ w ∈ GW, w.before args s = true) : CallW R s args R_Mo R_Mo 171 y_Mo_takes c_Mo_takes 6 (some .int) (WL y_Mo_takes c_Mo_takes 6 (some .int)) { frames := 1, cells := 0, slots := 0, locals := 21 } 0 0 1 := cwV 1 ht (GW_v w_6_111 w_6_113 w_0_35 w_1_7 (GW_wl w_6_114)) rfl rfl rfl (by decide +kernel) hR
theorem kV_Mo_174 {R : Room} {s : State} {args : Array Value} (hR : 0 + 1 ≤ R.frames ∧ 8 + (2 + 11) + 0 ≤ R.locals) (ht : ∀ w ∈ GW, w.before args s = true) : CallW R s args R_Mo R_Mo 174 y_Mo_isSource c_Mo_isSource 2 (some .boolean) (WL y_Mo_isSource c_Mo_isSource 2 (some .boolean)) { frames := 0, cells := 0, slots := 0, locals := 0 } 0 0 1 := cwV 1 ht (GW_v w_6_119 w_6_121 w_0_37 w_1_7 (GW_wl w_6_122)) rfl rfl rfl (by decide +kernel) hR
section S200
variable {p : Program} {l : Launch} {e : Env} {R : Room} {s : State} {m : MethodId} {args : Array Value} {below : List Frame} {meth : Method} {c : Code} {H : Heap} {locs : List Loc} {cells slots : Nat} {Q : State → Prop}
variable {cc : ByteArray} {pc n nL : Nat} {ls : Array Slot} {rest : List Value} {D : va_G} {cy : Nat → ClassId} {Z : Nat → Prop} {ad : Nat → Nat} {tb : List (Nat × Instr × Nat)} {lv : List (Nat × Value)}
set_option maxHeartbeats 4000000 in
set_option maxRecDepth 100000 in
theorem m_Mo_ofNode {l : Launch} {D : va_G} {cy : Nat → ClassId} {ad : Nat → Nat} {I : Nat → Int32} {A : Nat → Nat → Int32} {a1 : Int32} {a2 : Int32} {P : Int32 → Prop} (hw : g_Mo_ofNode I A a1 a2 P) : ∀ sz, Met l y_Mo_ofNode (WL y_Mo_ofNode c_Mo_ofNode 3 (some .int)) { frames := 2, cells := 0, slots := 0, locals := 46 } (va_Pc [.ref (ad 0), .int a1, .int a2] (PreW D cy (wM cy ad I A) sz)) (vp_Si P) 0 0 (fun _ => False) := by
  refine met_p R_Mo .int db_Mo_ofNode (by decide) rfl rfl (Nat.le_of_ble_eq_true rfl) ?_
  intro p e s m below meth c Z Q ls C h hl hret
  have hl : lv_has ls 3 [(0, .ref (ad 0)), (1, .int a1), (2, .int a2)] := hl
  refine i_aload_n (n := 1) C 0 rfl rfl rfl hl 0 rfl ?_
  refine i_iload_n (n := 2) C 1 rfl rfl rfl hl 1 rfl ?_
  refine i_callVp (rest := []) (ci := 11) (qc := (R_Mo, T_Mo, 50)) (n := 5) C 2 rfl rfl hl h rfl (wM_get (h := 0) (by decide)) (kV_Mo_136 ⟨by decide, by decide⟩) (m_Mo_isNode hw) rfl rfl (Nat.le_of_ble_eq_true rfl) ⟨by decide, by decide⟩ (fun r1 hw => ?_)
  refine i_if_ne (tgt := 10) (n := 8) C 3 rfl rfl rfl (fun c2 => ?_) (fun c2 => ?_)
  · replace hw := hw.1 c2
    refine i_iload_n (n := 11) C 6 rfl rfl rfl hl 2 rfl ?_
    by_cases c3 : a2 = (0 : Int32)
    · replace hw := hw.1 c3
      refine i_tsw (tgt := 60) C 7 rfl c3 (by decide) (by decide) rfl rfl ?_
      refine i_aload_n (n := 61) C 8 rfl rfl rfl hl 0 rfl ?_
      refine fgM_Mo_16 (n := 64) C 9 rfl rfl h ?_
      refine i_iload_n (n := 65) C 10 rfl rfl rfl hl 1 rfl ?_
      obtain ⟨hb, hw⟩ := hw
      refine i_iald (n := 66) C 11 rfl rfl h (wM_arr 2 (by decide) rfl) hb ?_
      exact hret _ _ _ rfl hw (C.dg (k := 12) rfl)
    replace hw := hw.2
    by_cases c4 : a2 = (1 : Int32)
    · replace hw := hw.1 c4
      refine i_tsw (tgt := 67) C 7 rfl c4 (by decide) (by decide) rfl rfl ?_
      refine i_aload_n (n := 68) C 13 rfl rfl rfl hl 0 rfl ?_
      refine fgM_Mo_7 (n := 71) C 14 rfl rfl h ?_
      refine i_iload_n (n := 72) C 15 rfl rfl rfl hl 1 rfl ?_
      obtain ⟨hb, hw⟩ := hw
      refine i_iald (n := 73) C 16 rfl rfl h (wM_arr 0 (by decide) rfl) hb ?_
      exact hret _ _ _ rfl hw (C.dg (k := 17) rfl)
    replace hw := hw.2
    by_cases c5 : a2 = (2 : Int32)
    · replace hw := hw.1 c5
      refine i_tsw (tgt := 74) C 7 rfl c5 (by decide) (by decide) rfl rfl ?_
      refine i_aload_n (n := 75) C 18 rfl rfl rfl hl 0 rfl ?_
      refine fgM_Mo_13 (n := 78) C 19 rfl rfl h ?_
      refine i_iload_n (n := 79) C 20 rfl rfl rfl hl 1 rfl ?_
      obtain ⟨hb, hw⟩ := hw
      refine i_iald (n := 80) C 21 rfl rfl h (wM_arr 1 (by decide) rfl) hb ?_
      exact hret _ _ _ rfl hw (C.dg (k := 22) rfl)
    replace hw := hw.2
    by_cases c6 : a2 = (3 : Int32)
    · replace hw := hw.1 c6
      refine i_tsw (tgt := 81) C 7 rfl c6 (by decide) (by decide) rfl rfl ?_
      refine i_aload_n (n := 82) C 23 rfl rfl rfl hl 0 rfl ?_
      refine i_iload_n (n := 83) C 24 rfl rfl rfl hl 1 rfl ?_
      refine i_callVp (rest := []) (ci := 11) (qc := (R_Mo, T_Mo, 50)) (n := 86) C 25 rfl rfl hl h rfl (wM_get (h := 0) (by decide)) (kV_Mo_171 ⟨by decide, by decide⟩) (m_Mo_takes hw) rfl rfl (Nat.le_of_ble_eq_true rfl) ⟨by decide, by decide⟩ (fun r7 hw => ?_)
      exact hret _ _ _ rfl hw (C.dg (k := 26) rfl)
    replace hw := hw.2
    by_cases c8 : a2 = (4 : Int32)
    · replace hw := hw.1 c8
      refine i_tsw (tgt := 87) C 7 rfl c8 (by decide) (by decide) rfl rfl ?_
      refine i_aload_n (n := 88) C 27 rfl rfl rfl hl 0 rfl ?_
      refine i_iload_n (n := 89) C 28 rfl rfl rfl hl 1 rfl ?_
      refine i_callVp (rest := []) (ci := 11) (qc := (R_Mo, T_Mo, 50)) (n := 92) C 29 rfl rfl hl h rfl (wM_get (h := 0) (by decide)) (kV_Mo_174 ⟨by decide, by decide⟩) (m_Mo_isSource hw) rfl rfl (Nat.le_of_ble_eq_true rfl) ⟨by decide, by decide⟩ (fun r9 hw => ?_)
      refine i_if_eq (tgt := 99) (n := 95) C 30 rfl rfl rfl (fun c10 => ?_) (fun c10 => ?_)
      · replace hw := hw.1 c10
        refine i_iconst (v := (0 : Int32)) (n := 100) C 33 rfl rfl rfl ?_
        exact hret _ _ _ rfl hw (C.dg (k := 34) rfl)
      · replace hw := hw.2 c10
        refine i_iconst (v := (1 : Int32)) (n := 96) C 31 rfl rfl rfl ?_
        refine i_goto (tgt := 100) C 32 rfl rfl ?_
        exact hret _ _ _ rfl hw (C.dg (k := 34) rfl)
    replace hw := hw.2
    by_cases c11 : a2 = (5 : Int32)
    · replace hw := hw.1 c11
      refine i_tsw (tgt := 101) C 7 rfl c11 (by decide) (by decide) rfl rfl ?_
      refine i_aload_n (n := 102) C 35 rfl rfl rfl hl 0 rfl ?_
      refine fgM_Mo_31 (n := 105) C 36 rfl rfl h ?_
      refine i_iload_n (n := 106) C 37 rfl rfl rfl hl 1 rfl ?_
      obtain ⟨hb, hw⟩ := hw
      refine i_iald (n := 107) C 38 rfl rfl h (wM_arr 7 (by decide) rfl) hb ?_
      exact hret _ _ _ rfl hw (C.dg (k := 39) rfl)
    replace hw := hw.2
    by_cases c12 : a2 = (6 : Int32)
    · replace hw := hw.1 c12
      refine i_tsw (tgt := 108) C 7 rfl c12 (by decide) (by decide) rfl rfl ?_
      refine i_aload_n (n := 109) C 40 rfl rfl rfl hl 0 rfl ?_
      refine fgM_Mo_34 (n := 112) C 41 rfl rfl h ?_
      refine i_iload_n (n := 113) C 42 rfl rfl rfl hl 1 rfl ?_
      obtain ⟨hb, hw⟩ := hw
      refine i_zald (n := 114) C 43 rfl rfl h (wM_arr 8 (by decide) rfl) hb ?_
      refine i_if_eq (tgt := 121) (n := 117) C 44 rfl rfl rfl (fun c13 => ?_) (fun c13 => ?_)
      · replace hw := hw.1 c13
        refine i_iconst (v := (0 : Int32)) (n := 122) C 47 rfl rfl rfl ?_
        exact hret _ _ _ rfl hw (C.dg (k := 48) rfl)
      · replace hw := hw.2 c13
        refine i_iconst (v := (1 : Int32)) (n := 118) C 45 rfl rfl rfl ?_
        refine i_goto (tgt := 122) C 46 rfl rfl ?_
        exact hret _ _ _ rfl hw (C.dg (k := 48) rfl)
    replace hw := hw.2
    by_cases c14 : a2 = (7 : Int32)
    · replace hw := hw.1 c14
      refine i_tsw (tgt := 123) C 7 rfl c14 (by decide) (by decide) rfl rfl ?_
      refine i_aload_n (n := 124) C 49 rfl rfl rfl hl 0 rfl ?_
      refine fgM_Mo_41 (n := 127) C 50 rfl rfl h ?_
      refine i_iload_n (n := 128) C 51 rfl rfl rfl hl 1 rfl ?_
      obtain ⟨hb, hw⟩ := hw
      refine i_iald (n := 129) C 52 rfl rfl h (wM_arr 10 (by decide) rfl) hb ?_
      exact hret _ _ _ rfl hw (C.dg (k := 53) rfl)
    replace hw := hw.2
    by_cases c15 : a2 = (8 : Int32)
    · replace hw := hw.1 c15
      refine i_tsw (tgt := 130) C 7 rfl c15 (by decide) (by decide) rfl rfl ?_
      refine i_aload_n (n := 131) C 54 rfl rfl rfl hl 0 rfl ?_
      refine fgM_Mo_47 (n := 134) C 55 rfl rfl h ?_
      refine i_iload_n (n := 135) C 56 rfl rfl rfl hl 1 rfl ?_
      obtain ⟨hb, hw⟩ := hw
      refine i_iald (n := 136) C 57 rfl rfl h (wM_arr 12 (by decide) rfl) hb ?_
      exact hret _ _ _ rfl hw (C.dg (k := 58) rfl)
    replace hw := hw.2
    replace hw := hw c3
    replace hw := hw c4
    replace hw := hw c5
    replace hw := hw c6
    replace hw := hw c8
    replace hw := hw c11
    replace hw := hw c12
    replace hw := hw c14
    replace hw := hw c15
    refine i_tswd (tgt := 137) C 7 rfl (fun j hj => match j, hj with | 0, _ => lv_neT c3 rfl | 1, _ => lv_neT c4 rfl | 2, _ => lv_neT c5 rfl | 3, _ => lv_neT c6 rfl | 4, _ => lv_neT c8 rfl | 5, _ => lv_neT c11 rfl | 6, _ => lv_neT c12 rfl | 7, _ => lv_neT c14 rfl | 8, _ => lv_neT c15 rfl | j + 9, hj => absurd hj (by omega)) rfl ?_
    refine i_bipush (v := (-2 : Int32)) (n := 139) C 59 rfl rfl rfl ?_
    exact hret _ _ _ rfl hw (C.dg (k := 60) rfl)
  · replace hw := hw.2 c2
    refine i_iconst (v := (-1 : Int32)) (n := 9) C 4 rfl rfl rfl ?_
    exact hret _ _ _ rfl hw (C.dg (k := 5) rfl)
end S200
