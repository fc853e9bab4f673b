section S187
variable {p : Program} {l : Launch} {e : Env} {R : Room} {s : State} {m : MethodId} {args : Array Value} {below : List Frame} {meth : Method} {c : Code} {H : Heap} {locs : List Loc} {cells slots : Nat} {Q : State → Prop}
variable {cc : ByteArray} {pc n nL : Nat} {ls : Array Slot} {rest : List Value} {D : va_G} {cy : Nat → ClassId} {Z : Nat → Prop} {ad : Nat → Nat} {tb : List (Nat × Instr × Nat)} {lv : List (Nat × Value)}
def g_Mo_tower (I : Nat → Int32) (A : Nat → Nat → Int32) (a1 : Int32) (a2 : Int32) (a3 : Int32) (a4 : Int32) (P : Int32 → ((Nat → Nat → Int32)) → Prop) : Prop := g_Mo_isNode I a1 (fun r1 => ((¬ r1 = 0 → (g_Mo_in a2 (0 : Int32) (5000 : Int32) (fun r3 => ((r3 = 0 → (P (-2 : Int32) A)) ∧ (¬ r3 = 0 → (g_Mo_in a3 (1 : Int32) (100000 : Int32) (fun r5 => ((r5 = 0 → (P (-2 : Int32) A)) ∧ (¬ r5 = 0 → (g_Mo_in a4 (0 : Int32) a3 (fun r7 => ((¬ r7 = 0 → (g_Mo_lay A a1 (4 : Int32) a2 a3 (0 : Int32) (0 : Int32) (fun r9 u10 => ((¬ r9 = (1 : Int32) → (vp_in a1 12 ∧ (vp_in a1 12 ∧ (P r9 (sA u10 7 a1 (u10 7 a1.toNatClampNeg)))))) ∧ (r9 = (1 : Int32) → (vp_in a1 12 ∧ (P r9 (sA u10 7 a1 a4)))))))) ∧ (r7 = 0 → (P (-2 : Int32) A)))))))))))))) ∧ (r1 = 0 → (P (-1 : Int32) A))))
set_option maxHeartbeats 4000000 in
set_option maxRecDepth 100000 in
theorem m_Mo_tower {l : Launch} {D : va_G} {cy : Nat → ClassId} {ad : Nat → Nat} {I : Nat → Int32} {A : Nat → Nat → Int32} {a1 : Int32} {a2 : Int32} {a3 : Int32} {a4 : Int32} {P : Int32 → ((Nat → Nat → Int32)) → Prop} (hw : g_Mo_tower I A a1 a2 a3 a4 P) : ∀ sz, Met l y_Mo_tower (WL y_Mo_tower c_Mo_tower 6 (some .int)) { frames := 2, cells := 0, slots := 0, locals := 43 } (va_Pc [.ref (ad 0), .int a1, .int a2, .int a3, .int a4] (PreW D cy (wM cy ad I A) sz)) (va_Qi P (fun u t => PostW D (va_A (wM cy ad I A) sz) ((fun u => wM cy ad I u) u) t) (va_A (wM cy ad I A) sz)) 0 0 (va_A (wM cy ad I A) sz) := by
  refine met_i (wf := fun u => wM cy ad I u) R_Mo .int db_Mo_tower (by decide) rfl rfl (by decide) ?_
  intro p e s m below meth c Z Q ls C h hl hret
  have hl : lv_has ls 6 [(0, .ref (ad 0)), (1, .int a1), (2, .int a2), (3, .int a3), (4, .int a4)] := hl
  refine i_aload_n C 0 rfl rfl rfl hl 0 rfl ?_
  refine i_iload_n C 1 rfl rfl rfl hl 1 rfl ?_
  refine i_callVp (rest := []) (ci := 11) (qc := (R_Mo, T_Mo, 50)) C 2 rfl rfl hl h rfl (wM_get (h := 0) (by decide)) (kV_Mo_136 ⟨by decide, by decide⟩) (m_Mo_isNode hw) rfl rfl (by decide) ⟨by decide, by decide⟩ (fun r1 hw => ?_)
  refine i_if_ne (tgt := 10) C 3 rfl rfl rfl (fun c2 => ?_) (fun c2 => ?_)
  · replace hw := hw.1 c2
    refine i_iload_n C 6 rfl rfl rfl hl 2 rfl ?_
    refine i_iconst (v := (0 : Int32)) C 7 rfl rfl rfl ?_
    refine i_sipush (v := (5000 : Int32)) C 8 rfl rfl rfl ?_
    refine i_callSp (rest := []) C 9 rfl rfl hl h (kS_Mo_126 ⟨by decide, by decide⟩) (m_Mo_in hw) rfl rfl (by decide) ⟨by decide, by decide⟩ (fun r3 hw => ?_)
    refine i_if_eq (tgt := 41) C 10 rfl rfl rfl (fun c4 => ?_) (fun c4 => ?_)
    · replace hw := hw.1 c4
      refine i_bipush (v := (-2 : Int32)) C 21 rfl rfl rfl ?_
      exact hret _ A _ _ _ _ rfl hw h (C.dg (k := 22) rfl)
    · replace hw := hw.2 c4
      refine i_iload_n C 11 rfl rfl rfl hl 3 rfl ?_
      refine i_iconst (v := (1 : Int32)) C 12 rfl rfl rfl ?_
      refine i_ldc C 13 rfl rfl w_690 ?_
      refine i_callSp (rest := []) C 14 rfl rfl hl h (kS_Mo_126 ⟨by decide, by decide⟩) (m_Mo_in hw) rfl rfl (by decide) ⟨by decide, by decide⟩ (fun r5 hw => ?_)
      refine i_if_eq (tgt := 41) C 15 rfl rfl rfl (fun c6 => ?_) (fun c6 => ?_)
      · replace hw := hw.1 c6
        refine i_bipush (v := (-2 : Int32)) C 21 rfl rfl rfl ?_
        exact hret _ A _ _ _ _ rfl hw h (C.dg (k := 22) rfl)
      · replace hw := hw.2 c6
        refine i_iload C 16 rfl rfl hl 4 rfl ?_
        refine i_iconst (v := (0 : Int32)) C 17 rfl rfl rfl ?_
        refine i_iload_n C 18 rfl rfl rfl hl 3 rfl ?_
        refine i_callSp (rest := []) C 19 rfl rfl hl h (kS_Mo_126 ⟨by decide, by decide⟩) (m_Mo_in hw) rfl rfl (by decide) ⟨by decide, by decide⟩ (fun r7 hw => ?_)
        refine i_if_ne (tgt := 44) C 20 rfl rfl rfl (fun c8 => ?_) (fun c8 => ?_)
        · replace hw := hw.1 c8
          refine i_aload_n C 23 rfl rfl rfl hl 0 rfl ?_
          refine i_iload_n C 24 rfl rfl rfl hl 1 rfl ?_
          refine i_iconst (v := (4 : Int32)) C 25 rfl rfl rfl ?_
          refine i_iload_n C 26 rfl rfl rfl hl 2 rfl ?_
          refine i_iload_n C 27 rfl rfl rfl hl 3 rfl ?_
          refine i_iconst (v := (0 : Int32)) C 28 rfl rfl rfl ?_
          refine i_iconst (v := (0 : Int32)) C 29 rfl rfl rfl ?_
          refine i_callVi (rest := []) (ci := 11) (qc := (R_Mo, T_Mo, 50)) C 30 rfl rfl hl h rfl (wM_get (h := 0) (by decide)) (kV_Mo_160 ⟨by decide, by decide⟩) (m_Mo_lay hw) rfl rfl (by decide) ⟨by decide, by decide⟩ (fun r9 u10 H locs hw h => ?_)
          refine i_istore (lv' := [(5, .int r9), (0, .ref (ad 0)), (1, .int a1), (2, .int a2), (3, .int a3), (4, .int a4)]) C 31 rfl rfl hl (by decide) rfl (fun ls hl => ?_)
          refine i_aload_n C 32 rfl rfl rfl hl 1 rfl ?_
          refine fgM_Mo_31 C 33 rfl rfl h ?_
          refine i_iload_n C 34 rfl rfl rfl hl 2 rfl ?_
          refine i_iload C 35 rfl rfl hl 0 rfl ?_
          refine i_iconst (v := (1 : Int32)) C 36 rfl rfl rfl ?_
          refine i_icmp_ne (tgt := 72) C 37 rfl rfl rfl (fun c11 => ?_) (fun c11 => ?_)
          · replace hw := hw.1 c11
            refine i_aload_n C 40 rfl rfl rfl hl 1 rfl ?_
            refine fgM_Mo_31 C 41 rfl rfl h ?_
            refine i_iload_n C 42 rfl rfl rfl hl 2 rfl ?_
            obtain ⟨hb, hw⟩ := hw
            refine i_iald C 43 rfl rfl h (wM_arr 7 (by decide) rfl) hb ?_
            obtain ⟨hb, hw⟩ := hw
            refine i_iast C 44 rfl rfl h (wM_arr 7 (by decide) rfl) hb (wM_sA 7 (by decide) rfl _ _) (fun H locs h => ?_)
            refine i_iload C 45 rfl rfl hl 0 rfl ?_
            exact hret _ (sA u10 7 a1 (u10 7 a1.toNatClampNeg)) _ _ _ _ rfl hw h (C.dg (k := 46) rfl)
          · replace hw := hw.2 c11
            refine i_iload C 38 rfl rfl hl 5 rfl ?_
            refine i_goto (tgt := 78) C 39 rfl rfl ?_
            obtain ⟨hb, hw⟩ := hw
            refine i_iast C 44 rfl rfl h (wM_arr 7 (by decide) rfl) hb (wM_sA 7 (by decide) rfl _ _) (fun H locs h => ?_)
            refine i_iload C 45 rfl rfl hl 0 rfl ?_
            exact hret _ (sA u10 7 a1 a4) _ _ _ _ rfl hw h (C.dg (k := 46) rfl)
        · replace hw := hw.2 c8
          refine i_bipush (v := (-2 : Int32)) C 21 rfl rfl rfl ?_
          exact hret _ A _ _ _ _ rfl hw h (C.dg (k := 22) rfl)
  · replace hw := hw.2 c2
    refine i_iconst (v := (-1 : Int32)) C 4 rfl rfl rfl ?_
    exact hret _ A _ _ _ _ rfl hw h (C.dg (k := 5) rfl)
end S187
section S188
variable {p : Program} {l : Launch} {e : Env} {R : Room} {s : State} {m : MethodId} {args : Array Value} {below : List Frame} {meth : Method} {c : Code} {H : Heap} {locs : List Loc} {cells slots : Nat} {Q : State → Prop}
variable {cc : ByteArray} {pc n nL : Nat} {ls : Array Slot} {rest : List Value} {D : va_G} {cy : Nat → ClassId} {Z : Nat → Prop} {ad : Nat → Nat} {tb : List (Nat × Instr × Nat)} {lv : List (Nat × Value)}
def g_Mo_house (I : Nat → Int32) (A : Nat → Nat → Int32) (a1 : Int32) (a2 : Int32) (a3 : Int32) (a4 : Int32) (P : Int32 → ((Nat → Nat → Int32)) → Prop) : Prop := g_Mo_isNode I a1 (fun r1 => ((¬ r1 = 0 → (g_Mo_in a2 (0 : Int32) (5000 : Int32) (fun r3 => ((r3 = 0 → (P (-2 : Int32) A)) ∧ (¬ r3 = 0 → (g_Mo_in a3 (0 : Int32) (120 : Int32) (fun r5 => ((r5 = 0 → (P (-2 : Int32) A)) ∧ (¬ r5 = 0 → (g_Mo_in a4 (0 : Int32) (100 : Int32) (fun r7 => ((r7 = 0 → (P (-2 : Int32) A)) ∧ (¬ r7 = 0 → (g_Mo_lay A a1 (5 : Int32) a2 a3 a4 (0 : Int32) (fun r9 u10 => (P r9 u10)))))))))))))))) ∧ (r1 = 0 → (P (-1 : Int32) A))))
set_option maxHeartbeats 4000000 in
set_option maxRecDepth 100000 in
theorem m_Mo_house {l : Launch} {D : va_G} {cy : Nat → ClassId} {ad : Nat → Nat} {I : Nat → Int32} {A : Nat → Nat → Int32} {a1 : Int32} {a2 : Int32} {a3 : Int32} {a4 : Int32} {P : Int32 → ((Nat → Nat → Int32)) → Prop} (hw : g_Mo_house I A a1 a2 a3 a4 P) : ∀ sz, Met l y_Mo_house (WL y_Mo_house c_Mo_house 5 (some .int)) { frames := 2, cells := 0, slots := 0, locals := 43 } (va_Pc [.ref (ad 0), .int a1, .int a2, .int a3, .int a4] (PreW D cy (wM cy ad I A) sz)) (va_Qi P (fun u t => PostW D (va_A (wM cy ad I A) sz) ((fun u => wM cy ad I u) u) t) (va_A (wM cy ad I A) sz)) 0 0 (va_A (wM cy ad I A) sz) := by
  refine met_i (wf := fun u => wM cy ad I u) R_Mo .int db_Mo_house (by decide) rfl rfl (by decide) ?_
  intro p e s m below meth c Z Q ls C h hl hret
  have hl : lv_has ls 5 [(0, .ref (ad 0)), (1, .int a1), (2, .int a2), (3, .int a3), (4, .int a4)] := hl
  refine i_aload_n C 0 rfl rfl rfl hl 0 rfl ?_
  refine i_iload_n C 1 rfl rfl rfl hl 1 rfl ?_
  refine i_callVp (rest := []) (ci := 11) (qc := (R_Mo, T_Mo, 50)) C 2 rfl rfl hl h rfl (wM_get (h := 0) (by decide)) (kV_Mo_136 ⟨by decide, by decide⟩) (m_Mo_isNode hw) rfl rfl (by decide) ⟨by decide, by decide⟩ (fun r1 hw => ?_)
  refine i_if_ne (tgt := 10) C 3 rfl rfl rfl (fun c2 => ?_) (fun c2 => ?_)
  · replace hw := hw.1 c2
    refine i_iload_n C 6 rfl rfl rfl hl 2 rfl ?_
    refine i_iconst (v := (0 : Int32)) C 7 rfl rfl rfl ?_
    refine i_sipush (v := (5000 : Int32)) C 8 rfl rfl rfl ?_
    refine i_callSp (rest := []) C 9 rfl rfl hl h (kS_Mo_126 ⟨by decide, by decide⟩) (m_Mo_in hw) rfl rfl (by decide) ⟨by decide, by decide⟩ (fun r3 hw => ?_)
    refine i_if_eq (tgt := 56) C 10 rfl rfl rfl (fun c4 => ?_) (fun c4 => ?_)
    · replace hw := hw.1 c4
      refine i_bipush (v := (-2 : Int32)) C 30 rfl rfl rfl ?_
      exact hret _ A _ _ _ _ rfl hw h (C.dg (k := 31) rfl)
    · replace hw := hw.2 c4
      refine i_iload_n C 11 rfl rfl rfl hl 3 rfl ?_
      refine i_iconst (v := (0 : Int32)) C 12 rfl rfl rfl ?_
      refine i_bipush (v := (120 : Int32)) C 13 rfl rfl rfl ?_
      refine i_callSp (rest := []) C 14 rfl rfl hl h (kS_Mo_126 ⟨by decide, by decide⟩) (m_Mo_in hw) rfl rfl (by decide) ⟨by decide, by decide⟩ (fun r5 hw => ?_)
      refine i_if_eq (tgt := 56) C 15 rfl rfl rfl (fun c6 => ?_) (fun c6 => ?_)
      · replace hw := hw.1 c6
        refine i_bipush (v := (-2 : Int32)) C 30 rfl rfl rfl ?_
        exact hret _ A _ _ _ _ rfl hw h (C.dg (k := 31) rfl)
      · replace hw := hw.2 c6
        refine i_iload C 16 rfl rfl hl 4 rfl ?_
        refine i_iconst (v := (0 : Int32)) C 17 rfl rfl rfl ?_
        refine i_bipush (v := (100 : Int32)) C 18 rfl rfl rfl ?_
        refine i_callSp (rest := []) C 19 rfl rfl hl h (kS_Mo_126 ⟨by decide, by decide⟩) (m_Mo_in hw) rfl rfl (by decide) ⟨by decide, by decide⟩ (fun r7 hw => ?_)
        refine i_if_eq (tgt := 56) C 20 rfl rfl rfl (fun c8 => ?_) (fun c8 => ?_)
        · replace hw := hw.1 c8
          refine i_bipush (v := (-2 : Int32)) C 30 rfl rfl rfl ?_
          exact hret _ A _ _ _ _ rfl hw h (C.dg (k := 31) rfl)
        · replace hw := hw.2 c8
          refine i_aload_n C 21 rfl rfl rfl hl 0 rfl ?_
          refine i_iload_n C 22 rfl rfl rfl hl 1 rfl ?_
          refine i_iconst (v := (5 : Int32)) C 23 rfl rfl rfl ?_
          refine i_iload_n C 24 rfl rfl rfl hl 2 rfl ?_
          refine i_iload_n C 25 rfl rfl rfl hl 3 rfl ?_
          refine i_iload C 26 rfl rfl hl 4 rfl ?_
          refine i_iconst (v := (0 : Int32)) C 27 rfl rfl rfl ?_
          refine i_callVi (rest := []) (ci := 11) (qc := (R_Mo, T_Mo, 50)) C 28 rfl rfl hl h rfl (wM_get (h := 0) (by decide)) (kV_Mo_160 ⟨by decide, by decide⟩) (m_Mo_lay hw) rfl rfl (by decide) ⟨by decide, by decide⟩ (fun r9 u10 H locs hw h => ?_)
          refine i_goto (tgt := 58) C 29 rfl rfl ?_
          exact hret _ u10 _ _ _ _ rfl hw h (C.dg (k := 31) rfl)
  · replace hw := hw.2 c2
    refine i_iconst (v := (-1 : Int32)) C 4 rfl rfl rfl ?_
    exact hret _ A _ _ _ _ rfl hw h (C.dg (k := 5) rfl)
end S188
section S189
variable {p : Program} {l : Launch} {e : Env} {R : Room} {s : State} {m : MethodId} {args : Array Value} {below : List Frame} {meth : Method} {c : Code} {H : Heap} {locs : List Loc} {cells slots : Nat} {Q : State → Prop}
variable {cc : ByteArray} {pc n nL : Nat} {ls : Array Slot} {rest : List Value} {D : va_G} {cy : Nat → ClassId} {Z : Nat → Prop} {ad : Nat → Nat} {tb : List (Nat × Instr × Nat)} {lv : List (Nat × Value)}
def g_Mo_leak_34 (I : Nat → Int32) (a1 : Int32) (a2 : Int32) (a3 : Int32) (P : Int32 → ((Nat → Nat → Int32)) → Prop)  (A : Nat → Nat → Int32) (s1 : Int32) (s2 : Int32) : Prop := g_Mo_lay A s1 s2 a2 (0 : Int32) (0 : Int32) (0 : Int32) (fun r6 u7 => (P r6 u7))
set_option maxHeartbeats 4000000 in
set_option maxRecDepth 100000 in
theorem e_Mo_leak_34 {I : Nat → Int32} {a1 : Int32} {a2 : Int32} {a3 : Int32} {P : Int32 → ((Nat → Nat → Int32)) → Prop}  (C : CX D cy R_Mo c_Mo_leak tb_Mo_leak 4 p s m args c Z) (hret : RetI p l e { frames := 2, cells := 0, slots := 0, locals := 43 } s m args below meth c c_Mo_leak .int D Z Q (fun u => wM cy ad I u) P 0 0) :
    ∀ (A : Nat → Nat → Int32) (s1 : Int32) (s2 : Int32) (ls : Array Slot) (H : Heap) (locs : List Loc), lv_has ls 4 [(2, .int a2)] → HXw D Z s.heap H locs (wM cy ad I A) → g_Mo_leak_34 I a1 a2 a3 P  A s1 s2 → W p l e { frames := 2, cells := 0, slots := 0, locals := 43 } s m args below meth c H locs 0 0 Q (F0 m 34 ls [.int s2, .int s1, .ref (ad 0)]) := by
  intro A s1 s2 ls H locs hl h hw
  refine i_iload_n C 18 rfl rfl rfl hl 0 rfl ?_
  refine i_iconst (v := (0 : Int32)) C 19 rfl rfl rfl ?_
  refine i_iconst (v := (0 : Int32)) C 20 rfl rfl rfl ?_
  refine i_iconst (v := (0 : Int32)) C 21 rfl rfl rfl ?_
  refine i_callVi (rest := []) (ci := 11) (qc := (R_Mo, T_Mo, 50)) C 22 rfl rfl hl h rfl (wM_get (h := 0) (by decide)) (kV_Mo_160 ⟨by decide, by decide⟩) (m_Mo_lay hw) rfl rfl (by decide) ⟨by decide, by decide⟩ (fun r6 u7 H locs hw h => ?_)
  refine i_goto (tgt := 46) C 23 rfl rfl ?_
  exact hret _ u7 _ _ _ _ rfl hw h (C.dg (k := 25) rfl)
def g_Mo_leak (I : Nat → Int32) (A : Nat → Nat → Int32) (a1 : Int32) (a2 : Int32) (a3 : Int32) (P : Int32 → ((Nat → Nat → Int32)) → Prop) : Prop := g_Mo_isNode I a1 (fun r1 => ((¬ r1 = 0 → (g_Mo_in a2 (1 : Int32) (1000 : Int32) (fun r3 => ((r3 = 0 → (P (-2 : Int32) A)) ∧ (¬ r3 = 0 → ((a3 = 0 → (g_Mo_leak_34 I a1 a2 a3 P  A a1 (6 : Int32))) ∧ (¬ a3 = 0 → (g_Mo_leak_34 I a1 a2 a3 P  A a1 (7 : Int32))))))))) ∧ (r1 = 0 → (P (-1 : Int32) A))))
set_option maxHeartbeats 4000000 in
set_option maxRecDepth 100000 in
theorem m_Mo_leak {l : Launch} {D : va_G} {cy : Nat → ClassId} {ad : Nat → Nat} {I : Nat → Int32} {A : Nat → Nat → Int32} {a1 : Int32} {a2 : Int32} {a3 : Int32} {P : Int32 → ((Nat → Nat → Int32)) → Prop} (hw : g_Mo_leak I A a1 a2 a3 P) : ∀ sz, Met l y_Mo_leak (WL y_Mo_leak c_Mo_leak 4 (some .int)) { frames := 2, cells := 0, slots := 0, locals := 43 } (va_Pc [.ref (ad 0), .int a1, .int a2, .int a3] (PreW D cy (wM cy ad I A) sz)) (va_Qi P (fun u t => PostW D (va_A (wM cy ad I A) sz) ((fun u => wM cy ad I u) u) t) (va_A (wM cy ad I A) sz)) 0 0 (va_A (wM cy ad I A) sz) := by
  refine met_i (wf := fun u => wM cy ad I u) R_Mo .int db_Mo_leak (by decide) rfl rfl (by decide) ?_
  intro p e s m below meth c Z Q ls C h hl hret
  have hl : lv_has ls 4 [(0, .ref (ad 0)), (1, .int a1), (2, .int a2), (3, .int a3)] := hl
  refine i_aload_n C 0 rfl rfl rfl hl 0 rfl ?_
  refine i_iload_n C 1 rfl rfl rfl hl 1 rfl ?_
  refine i_callVp (rest := []) (ci := 11) (qc := (R_Mo, T_Mo, 50)) C 2 rfl rfl hl h rfl (wM_get (h := 0) (by decide)) (kV_Mo_136 ⟨by decide, by decide⟩) (m_Mo_isNode hw) rfl rfl (by decide) ⟨by decide, by decide⟩ (fun r1 hw => ?_)
  refine i_if_ne (tgt := 10) C 3 rfl rfl rfl (fun c2 => ?_) (fun c2 => ?_)
  · replace hw := hw.1 c2
    refine i_iload_n C 6 rfl rfl rfl hl 2 rfl ?_
    refine i_iconst (v := (1 : Int32)) C 7 rfl rfl rfl ?_
    refine i_sipush (v := (1000 : Int32)) C 8 rfl rfl rfl ?_
    refine i_callSp (rest := []) C 9 rfl rfl hl h (kS_Mo_126 ⟨by decide, by decide⟩) (m_Mo_in hw) rfl rfl (by decide) ⟨by decide, by decide⟩ (fun r3 hw => ?_)
    refine i_if_eq (tgt := 44) C 10 rfl rfl rfl (fun c4 => ?_) (fun c4 => ?_)
    · replace hw := hw.1 c4
      refine i_bipush (v := (-2 : Int32)) C 24 rfl rfl rfl ?_
      exact hret _ A _ _ _ _ rfl hw h (C.dg (k := 25) rfl)
    · replace hw := hw.2 c4
      refine i_aload_n C 11 rfl rfl rfl hl 0 rfl ?_
      refine i_iload_n C 12 rfl rfl rfl hl 1 rfl ?_
      refine i_iload_n C 13 rfl rfl rfl hl 3 rfl ?_
      refine i_if_eq (tgt := 32) C 14 rfl rfl rfl (fun c5 => ?_) (fun c5 => ?_)
      · replace hw := hw.1 c5
        refine i_bipush (v := (6 : Int32)) C 17 rfl rfl rfl ?_
        exact e_Mo_leak_34 C hret  A a1 (6 : Int32) ls _ _ (lv_sub hl [2] rfl) h hw
      · replace hw := hw.2 c5
        refine i_bipush (v := (7 : Int32)) C 15 rfl rfl rfl ?_
        refine i_goto (tgt := 34) C 16 rfl rfl ?_
        exact e_Mo_leak_34 C hret  A a1 (7 : Int32) ls _ _ (lv_sub hl [2] rfl) h hw
  · replace hw := hw.2 c2
    refine i_iconst (v := (-1 : Int32)) C 4 rfl rfl rfl ?_
    exact hret _ A _ _ _ _ rfl hw h (C.dg (k := 5) rfl)
end S189
section S190
variable {p : Program} {l : Launch} {e : Env} {R : Room} {s : State} {m : MethodId} {args : Array Value} {below : List Frame} {meth : Method} {c : Code} {H : Heap} {locs : List Loc} {cells slots : Nat} {Q : State → Prop}
variable {cc : ByteArray} {pc n nL : Nat} {ls : Array Slot} {rest : List Value} {D : va_G} {cy : Nat → ClassId} {Z : Nat → Prop} {ad : Nat → Nat} {tb : List (Nat × Instr × Nat)} {lv : List (Nat × Value)}
def g_Mo_clear (I : Nat → Int32) (A : Nat → Nat → Int32) (a1 : Int32) (P : Int32 → ((Nat → Nat → Int32)) → Prop) : Prop := g_Mo_isNode I a1 (fun r1 => ((¬ r1 = 0 → (vp_in a1 12 ∧ ((¬ (A 2 a1.toNatClampNeg) = 0 → (vp_in a1 12 ∧ (∀ y4 : Int32, y4 = A 2 a1.toNatClampNeg → (vp_in a1 12 ∧ (vp_in a1 12 ∧ (vp_in a1 12 ∧ (P y4 (sA (sA (sA A 2 a1 (0 : Int32)) 7 a1 (0 : Int32)) 8 a1 (vp_nar .boolean (0 : Int32)))))))))) ∧ ((A 2 a1.toNatClampNeg) = 0 → (P (-5 : Int32) A))))) ∧ (r1 = 0 → (P (-1 : Int32) A))))
set_option maxHeartbeats 4000000 in
set_option maxRecDepth 100000 in
theorem m_Mo_clear {l : Launch} {D : va_G} {cy : Nat → ClassId} {ad : Nat → Nat} {I : Nat → Int32} {A : Nat → Nat → Int32} {a1 : Int32} {P : Int32 → ((Nat → Nat → Int32)) → Prop} (hw : g_Mo_clear I A a1 P) : ∀ sz, Met l y_Mo_clear (WL y_Mo_clear c_Mo_clear 3 (some .int)) { frames := 2, cells := 0, slots := 0, locals := 43 } (va_Pc [.ref (ad 0), .int a1] (PreW D cy (wM cy ad I A) sz)) (va_Qi P (fun u t => PostW D (va_A (wM cy ad I A) sz) ((fun u => wM cy ad I u) u) t) (va_A (wM cy ad I A) sz)) 0 0 (va_A (wM cy ad I A) sz) := by
  refine met_i (wf := fun u => wM cy ad I u) R_Mo .int db_Mo_clear (by decide) rfl rfl (by decide) ?_
  intro p e s m below meth c Z Q ls C h hl hret
  have hl : lv_has ls 3 [(0, .ref (ad 0)), (1, .int a1)] := hl
  refine i_aload_n C 0 rfl rfl rfl hl 0 rfl ?_
  refine i_iload_n C 1 rfl rfl rfl hl 1 rfl ?_
  refine i_callVp (rest := []) (ci := 11) (qc := (R_Mo, T_Mo, 50)) C 2 rfl rfl hl h rfl (wM_get (h := 0) (by decide)) (kV_Mo_136 ⟨by decide, by decide⟩) (m_Mo_isNode hw) rfl rfl (by decide) ⟨by decide, by decide⟩ (fun r1 hw => ?_)
  refine i_if_ne (tgt := 10) C 3 rfl rfl rfl (fun c2 => ?_) (fun c2 => ?_)
  · replace hw := hw.1 c2
    refine i_aload_n C 6 rfl rfl rfl hl 0 rfl ?_
    refine fgM_Mo_16 C 7 rfl rfl h ?_
    refine i_iload_n C 8 rfl rfl rfl hl 1 rfl ?_
    obtain ⟨hb, hw⟩ := hw
    refine i_iald C 9 rfl rfl h (wM_arr 2 (by decide) rfl) hb ?_
    refine i_if_ne (tgt := 22) C 10 rfl rfl rfl (fun c3 => ?_) (fun c3 => ?_)
    · replace hw := hw.1 c3
      refine i_aload_n C 13 rfl rfl rfl hl 0 rfl ?_
      refine fgM_Mo_16 C 14 rfl rfl h ?_
      refine i_iload_n C 15 rfl rfl rfl hl 1 rfl ?_
      obtain ⟨hb, hw⟩ := hw
      refine i_iald C 16 rfl rfl h (wM_arr 2 (by decide) rfl) hb ?_
      refine lv_topi (fun y4 ey4 => ?_)
      replace hw := hw y4 ey4
      refine i_istore_n (lv' := [(2, .int y4), (0, .ref (ad 0)), (1, .int a1)]) C 17 rfl rfl rfl hl (by decide) rfl (fun ls hl => ?_)
      refine i_aload_n C 18 rfl rfl rfl hl 1 rfl ?_
      refine fgM_Mo_16 C 19 rfl rfl h ?_
      refine i_iload_n C 20 rfl rfl rfl hl 2 rfl ?_
      refine i_iconst (v := (0 : Int32)) C 21 rfl rfl rfl ?_
      obtain ⟨hb, hw⟩ := hw
      refine i_iast C 22 rfl rfl h (wM_arr 2 (by decide) rfl) hb (wM_sA 2 (by decide) rfl _ _) (fun H locs h => ?_)
      refine i_aload_n C 23 rfl rfl rfl hl 1 rfl ?_
      refine fgM_Mo_31 C 24 rfl rfl h ?_
      refine i_iload_n C 25 rfl rfl rfl hl 2 rfl ?_
      refine i_iconst (v := (0 : Int32)) C 26 rfl rfl rfl ?_
      obtain ⟨hb, hw⟩ := hw
      refine i_iast C 27 rfl rfl h (wM_arr 7 (by decide) rfl) hb (wM_sA 7 (by decide) rfl _ _) (fun H locs h => ?_)
      refine i_aload_n C 28 rfl rfl rfl hl 1 rfl ?_
      refine fgM_Mo_34 C 29 rfl rfl h ?_
      refine i_iload_n C 30 rfl rfl rfl hl 2 rfl ?_
      refine i_iconst (v := (0 : Int32)) C 31 rfl rfl rfl ?_
      obtain ⟨hb, hw⟩ := hw
      refine i_zast C 32 rfl rfl h (wM_arr 8 (by decide) rfl) hb (wM_sA 8 (by decide) rfl _ _) (fun H locs h => ?_)
      refine i_iload_n C 33 rfl rfl rfl hl 0 rfl ?_
      exact hret _ (sA (sA (sA A 2 a1 (0 : Int32)) 7 a1 (0 : Int32)) 8 a1 (vp_nar .boolean (0 : Int32))) _ _ _ _ rfl hw h (C.dg (k := 34) rfl)
    · replace hw := hw.2 c3
      refine i_bipush (v := (-5 : Int32)) C 11 rfl rfl rfl ?_
      exact hret _ A _ _ _ _ rfl hw h (C.dg (k := 12) rfl)
  · replace hw := hw.2 c2
    refine i_iconst (v := (-1 : Int32)) C 4 rfl rfl rfl ?_
    exact hret _ A _ _ _ _ rfl hw h (C.dg (k := 5) rfl)
end S190
section S191
variable {p : Program} {l : Launch} {e : Env} {R : Room} {s : State} {m : MethodId} {args : Array Value} {below : List Frame} {meth : Method} {c : Code} {H : Heap} {locs : List Loc} {cells slots : Nat} {Q : State → Prop}
variable {cc : ByteArray} {pc n nL : Nat} {ls : Array Slot} {rest : List Value} {D : va_G} {cy : Nat → ClassId} {Z : Nat → Prop} {ad : Nat → Nat} {tb : List (Nat × Instr × Nat)} {lv : List (Nat × Value)}
def g_Mo_isSource_60 (I : Nat → Int32) (A : Nat → Nat → Int32) (a1 : Int32) (P : Int32 → Prop)   : Prop := P (1 : Int32)
set_option maxHeartbeats 4000000 in
set_option maxRecDepth 100000 in
theorem e_Mo_isSource_60 {I : Nat → Int32} {A : Nat → Nat → Int32} {a1 : Int32} {P : Int32 → Prop}  (C : CX D cy R_Mo c_Mo_isSource tb_Mo_isSource 2 p s m args c Z) (h : HXw D Z s.heap H locs (wM cy ad I A)) (hret : RetP p l e { frames := 0, cells := 0, slots := 0, locals := 0 } s m args below meth c c_Mo_isSource .boolean H locs Q P) :
    ∀ (ls : Array Slot), lv_has ls 2 [] → g_Mo_isSource_60 I A a1 P   → W p l e { frames := 0, cells := 0, slots := 0, locals := 0 } s m args below meth c H locs 0 0 Q (F0 m 60 ls []) := by
  intro  ls hl hw
  refine i_iconst (v := (1 : Int32)) C 36 rfl rfl rfl ?_
  refine i_goto (tgt := 65) C 37 rfl rfl ?_
  exact hret _ _ _ rfl hw (C.dg (k := 39) rfl)
def g_Mo_isSource_19 (I : Nat → Int32) (A : Nat → Nat → Int32) (a1 : Int32) (P : Int32 → Prop)   : Prop := vp_in a1 12 ∧ ((¬ (A 2 a1.toNatClampNeg) = (5 : Int32) → (P (0 : Int32))) ∧ ((A 2 a1.toNatClampNeg) = (5 : Int32) → (vp_in a1 12 ∧ (((A 8 a1.toNatClampNeg) = 0 → (P (0 : Int32))) ∧ (¬ (A 8 a1.toNatClampNeg) = 0 → (vp_in a1 12 ∧ (vp_in a1 12 ∧ ((((I 3) - (A 9 a1.toNatClampNeg)) < ((4 : Int32) * (A 4 a1.toNatClampNeg)) → (P (0 : Int32))) ∧ (¬ ((I 3) - (A 9 a1.toNatClampNeg)) < ((4 : Int32) * (A 4 a1.toNatClampNeg)) → (g_Mo_isSource_60 I A a1 P  ))))))))))
set_option maxHeartbeats 4000000 in
set_option maxRecDepth 100000 in
theorem e_Mo_isSource_19 {I : Nat → Int32} {A : Nat → Nat → Int32} {a1 : Int32} {P : Int32 → Prop}  (C : CX D cy R_Mo c_Mo_isSource tb_Mo_isSource 2 p s m args c Z) (h : HXw D Z s.heap H locs (wM cy ad I A)) (hret : RetP p l e { frames := 0, cells := 0, slots := 0, locals := 0 } s m args below meth c c_Mo_isSource .boolean H locs Q P) :
    ∀ (ls : Array Slot), lv_has ls 2 [(0, .ref (ad 0)), (1, .int a1)] → g_Mo_isSource_19 I A a1 P   → W p l e { frames := 0, cells := 0, slots := 0, locals := 0 } s m args below meth c H locs 0 0 Q (F0 m 19 ls []) := by
  intro  ls hl hw
  refine i_aload_n C 11 rfl rfl rfl hl 0 rfl ?_
  refine fgM_Mo_16 C 12 rfl rfl h ?_
  refine i_iload_n C 13 rfl rfl rfl hl 1 rfl ?_
  obtain ⟨hb, hw⟩ := hw
  refine i_iald C 14 rfl rfl h (wM_arr 2 (by decide) rfl) hb ?_
  refine i_iconst (v := (5 : Int32)) C 15 rfl rfl rfl ?_
  refine i_icmp_ne (tgt := 64) C 16 rfl rfl rfl (fun c2 => ?_) (fun c2 => ?_)
  · replace hw := hw.1 c2
    refine i_iconst (v := (0 : Int32)) C 38 rfl rfl rfl ?_
    exact hret _ _ _ rfl hw (C.dg (k := 39) rfl)
  · replace hw := hw.2 c2
    refine i_aload_n C 17 rfl rfl rfl hl 0 rfl ?_
    refine fgM_Mo_34 C 18 rfl rfl h ?_
    refine i_iload_n C 19 rfl rfl rfl hl 1 rfl ?_
    obtain ⟨hb, hw⟩ := hw
    refine i_zald C 20 rfl rfl h (wM_arr 8 (by decide) rfl) hb ?_
    refine i_if_eq (tgt := 64) C 21 rfl rfl rfl (fun c3 => ?_) (fun c3 => ?_)
    · replace hw := hw.1 c3
      refine i_iconst (v := (0 : Int32)) C 38 rfl rfl rfl ?_
      exact hret _ _ _ rfl hw (C.dg (k := 39) rfl)
    · replace hw := hw.2 c3
      refine i_aload_n C 22 rfl rfl rfl hl 0 rfl ?_
      refine fgM_Mo_165 C 23 rfl rfl h ?_
      refine i_aload_n C 24 rfl rfl rfl hl 0 rfl ?_
      refine fgM_Mo_38 C 25 rfl rfl h ?_
      refine i_iload_n C 26 rfl rfl rfl hl 1 rfl ?_
      obtain ⟨hb, hw⟩ := hw
      refine i_iald C 27 rfl rfl h (wM_arr 9 (by decide) rfl) hb ?_
      refine i_isub C 28 rfl rfl ?_
      refine i_iconst (v := (4 : Int32)) C 29 rfl rfl rfl ?_
      refine i_aload_n C 30 rfl rfl rfl hl 0 rfl ?_
      refine fgM_Mo_22 C 31 rfl rfl h ?_
      refine i_iload_n C 32 rfl rfl rfl hl 1 rfl ?_
      obtain ⟨hb, hw⟩ := hw
      refine i_iald C 33 rfl rfl h (wM_arr 4 (by decide) rfl) hb ?_
      refine i_imul C 34 rfl rfl ?_
      refine i_icmp_lt (tgt := 64) C 35 rfl rfl rfl (fun c4 => ?_) (fun c4 => ?_)
      · replace hw := hw.1 c4
        refine i_iconst (v := (0 : Int32)) C 38 rfl rfl rfl ?_
        exact hret _ _ _ rfl hw (C.dg (k := 39) rfl)
      · replace hw := hw.2 c4
        exact e_Mo_isSource_60 C h hret   ls (lv_sub hl [] rfl) hw
def g_Mo_isSource (I : Nat → Int32) (A : Nat → Nat → Int32) (a1 : Int32) (P : Int32 → Prop) : Prop := vp_in a1 12 ∧ ((¬ (A 2 a1.toNatClampNeg) = (4 : Int32) → (g_Mo_isSource_19 I A a1 P  )) ∧ ((A 2 a1.toNatClampNeg) = (4 : Int32) → (vp_in a1 12 ∧ ((0 < (A 7 a1.toNatClampNeg) → (g_Mo_isSource_60 I A a1 P  )) ∧ (¬ 0 < (A 7 a1.toNatClampNeg) → (g_Mo_isSource_19 I A a1 P  ))))))
set_option maxHeartbeats 4000000 in
set_option maxRecDepth 100000 in
theorem m_Mo_isSource {l : Launch} {D : va_G} {cy : Nat → ClassId} {ad : Nat → Nat} {I : Nat → Int32} {A : Nat → Nat → Int32} {a1 : Int32} {P : Int32 → Prop} (hw : g_Mo_isSource I A a1 P) : ∀ sz, Met l y_Mo_isSource (WL y_Mo_isSource c_Mo_isSource 2 (some .boolean)) { frames := 0, cells := 0, slots := 0, locals := 0 } (va_Pc [.ref (ad 0), .int a1] (PreW D cy (wM cy ad I A) sz)) (vp_Si P) 0 0 (fun _ => False) := by
  refine met_p R_Mo .boolean db_Mo_isSource (by decide) rfl rfl (by decide) ?_
  intro p e s m below meth c Z Q ls C h hl hret
  have hl : lv_has ls 2 [(0, .ref (ad 0)), (1, .int a1)] := hl
  refine i_aload_n C 0 rfl rfl rfl hl 0 rfl ?_
  refine fgM_Mo_16 C 1 rfl rfl h ?_
  refine i_iload_n C 2 rfl rfl rfl hl 1 rfl ?_
  obtain ⟨hb, hw⟩ := hw
  refine i_iald C 3 rfl rfl h (wM_arr 2 (by decide) rfl) hb ?_
  refine i_iconst (v := (4 : Int32)) C 4 rfl rfl rfl ?_
  refine i_icmp_ne (tgt := 19) C 5 rfl rfl rfl (fun c1 => ?_) (fun c1 => ?_)
  · replace hw := hw.1 c1
    exact e_Mo_isSource_19 C h hret   ls hl hw
  · replace hw := hw.2 c1
    refine i_aload_n C 6 rfl rfl rfl hl 0 rfl ?_
    refine fgM_Mo_31 C 7 rfl rfl h ?_
    refine i_iload_n C 8 rfl rfl rfl hl 1 rfl ?_
    obtain ⟨hb, hw⟩ := hw
    refine i_iald C 9 rfl rfl h (wM_arr 7 (by decide) rfl) hb ?_
    refine i_if_gt (tgt := 60) C 10 rfl rfl rfl (fun c5 => ?_) (fun c5 => ?_)
    · replace hw := hw.1 c5
      exact e_Mo_isSource_60 C h hret   ls (lv_sub hl [] rfl) hw
    · replace hw := hw.2 c5
      exact e_Mo_isSource_19 C h hret   ls hl hw
end S191
section S192
variable {p : Program} {l : Launch} {e : Env} {R : Room} {s : State} {m : MethodId} {args : Array Value} {below : List Frame} {meth : Method} {c : Code} {H : Heap} {locs : List Loc} {cells slots : Nat} {Q : State → Prop}
variable {cc : ByteArray} {pc n nL : Nat} {ls : Array Slot} {rest : List Value} {D : va_G} {cy : Nat → ClassId} {Z : Nat → Prop} {ad : Nat → Nat} {tb : List (Nat × Instr × Nat)} {lv : List (Nat × Value)}
def g_Mo_pressOf (A : Nat → Nat → Int32) (a1 : Int32) (P : Int32 → Prop) : Prop := vp_in a1 12 ∧ (vp_in a1 12 ∧ (P ((A 13 a1.toNatClampNeg) - ((10 : Int32) * (A 0 a1.toNatClampNeg)))))
set_option maxHeartbeats 4000000 in
set_option maxRecDepth 100000 in
theorem m_Mo_pressOf {l : Launch} {D : va_G} {cy : Nat → ClassId} {ad : Nat → Nat} {I : Nat → Int32} {A : Nat → Nat → Int32} {a1 : Int32} {P : Int32 → Prop} (hw : g_Mo_pressOf A a1 P) : ∀ sz, Met l y_Mo_pressOf (WL y_Mo_pressOf c_Mo_pressOf 2 (some .int)) { frames := 0, cells := 0, slots := 0, locals := 0 } (va_Pc [.ref (ad 0), .int a1] (PreW D cy (wM cy ad I A) sz)) (vp_Si P) 0 0 (fun _ => False) := by
  refine met_p R_Mo .int db_Mo_pressOf (by decide) rfl rfl (by decide) ?_
  intro p e s m below meth c Z Q ls C h hl hret
  have hl : lv_has ls 2 [(0, .ref (ad 0)), (1, .int a1)] := hl
  refine i_aload_n C 0 rfl rfl rfl hl 0 rfl ?_
  refine fgM_Mo_50 C 1 rfl rfl h ?_
  refine i_iload_n C 2 rfl rfl rfl hl 1 rfl ?_
  obtain ⟨hb, hw⟩ := hw
  refine i_iald C 3 rfl rfl h (wM_arr 13 (by decide) rfl) hb ?_
  refine i_bipush (v := (10 : Int32)) C 4 rfl rfl rfl ?_
  refine i_aload_n C 5 rfl rfl rfl hl 0 rfl ?_
  refine fgM_Mo_7 C 6 rfl rfl h ?_
  refine i_iload_n C 7 rfl rfl rfl hl 1 rfl ?_
  obtain ⟨hb, hw⟩ := hw
  refine i_iald C 8 rfl rfl h (wM_arr 0 (by decide) rfl) hb ?_
  refine i_imul C 9 rfl rfl ?_
  refine i_isub C 10 rfl rfl ?_
  exact hret _ _ _ rfl hw (C.dg (k := 11) rfl)
end S192
theorem kV_Mo_168 {R : Room} {s : State} {args : Array Value} (hR : 0 + 1 ≤ R.frames ∧ 8 + (2 + 11) + 0 ≤ R.locals) (ht : ∀ w ∈ GW, w.before args s = true) : CallW R s args R_Mo R_Mo 168 y_Mo_pressOf c_Mo_pressOf 2 (some .int) (WL y_Mo_pressOf c_Mo_pressOf 2 (some .int)) { frames := 0, cells := 0, slots := 0, locals := 0 } 0 0 1 := cwV 1 ht (GW_v w_694 w_695 w_696 w_640 (GW_wl w_693)) rfl rfl rfl (by decide +kernel) hR
section S193
variable {p : Program} {l : Launch} {e : Env} {R : Room} {s : State} {m : MethodId} {args : Array Value} {below : List Frame} {meth : Method} {c : Code} {H : Heap} {locs : List Loc} {cells slots : Nat} {Q : State → Prop}
variable {cc : ByteArray} {pc n nL : Nat} {ls : Array Slot} {rest : List Value} {D : va_G} {cy : Nat → ClassId} {Z : Nat → Prop} {ad : Nat → Nat} {tb : List (Nat × Instr × Nat)} {lv : List (Nat × Value)}
def g_Mo_takes_57 (I : Nat → Int32) (A : Nat → Nat → Int32) (a1 : Int32) (P : Int32 → Prop)  (x2 : Int32) (x3 : Int32) (x4 : Int32) (s0 : Int32) : Prop := vp_in a1 12 ∧ (((A 2 a1.toNatClampNeg) = (1 : Int32) → ((x4 = 0 → (P (0 : Int32))) ∧ (¬ x4 = 0 → (vp_in a1 12 ∧ (P (A 3 a1.toNatClampNeg)))))) ∧ ((A 2 a1.toNatClampNeg) = (2 : Int32) → ((x4 = 0 → (P (0 : Int32))) ∧ (¬ x4 = 0 → (vp_in a1 12 ∧ (vp_in a1 12 ∧ (P ((A 3 a1.toNatClampNeg) * (((A 4 a1.toNatClampNeg) + ((3 : Int32) * (x3 / (60 : Int32)))) - ((A 4 a1.toNatClampNeg) + ((3 : Int32) * (x3 / (60 : Int32)))) / (7 : Int32) * (7 : Int32))))))))) ∧ ((A 2 a1.toNatClampNeg) = (3 : Int32) → (vp_in a1 12 ∧ (vp_in a1 12 ∧ (¬ (A 4 a1.toNatClampNeg) = 0 ∧ (vp_in a1 12 ∧ (((A 6 a1.toNatClampNeg) ≤ ((x2 + (A 5 a1.toNatClampNeg)) - (x2 + (A 5 a1.toNatClampNeg)) / (A 4 a1.toNatClampNeg) * (A 4 a1.toNatClampNeg)) → (P (0 : Int32))) ∧ (¬ (A 6 a1.toNatClampNeg) ≤ ((x2 + (A 5 a1.toNatClampNeg)) - (x2 + (A 5 a1.toNatClampNeg)) / (A 4 a1.toNatClampNeg) * (A 4 a1.toNatClampNeg)) → (vp_in a1 12 ∧ (P (A 3 a1.toNatClampNeg)))))))))) ∧ ((A 2 a1.toNatClampNeg) = (4 : Int32) → (vp_in a1 12 ∧ ((¬ (A 7 a1.toNatClampNeg) = 0 → (P (0 : Int32))) ∧ ((A 7 a1.toNatClampNeg) = 0 → (P (10 : Int32)))))) ∧ ((A 2 a1.toNatClampNeg) = (5 : Int32) → (P (0 : Int32))) ∧ ((A 2 a1.toNatClampNeg) = (6 : Int32) → (vp_in a1 12 ∧ (P (((A 3 a1.toNatClampNeg) * s0) / (1000 : Int32))))) ∧ ((A 2 a1.toNatClampNeg) = (7 : Int32) → (vp_in a1 12 ∧ (P ((2 : Int32) * (((A 3 a1.toNatClampNeg) * s0) / (1000 : Int32)))))) ∧ (¬ (A 2 a1.toNatClampNeg) = (1 : Int32) → ¬ (A 2 a1.toNatClampNeg) = (2 : Int32) → ¬ (A 2 a1.toNatClampNeg) = (3 : Int32) → ¬ (A 2 a1.toNatClampNeg) = (4 : Int32) → ¬ (A 2 a1.toNatClampNeg) = (5 : Int32) → ¬ (A 2 a1.toNatClampNeg) = (6 : Int32) → ¬ (A 2 a1.toNatClampNeg) = (7 : Int32) → (P (0 : Int32))))
set_option maxHeartbeats 4000000 in
set_option maxRecDepth 100000 in
theorem e_Mo_takes_57 {I : Nat → Int32} {A : Nat → Nat → Int32} {a1 : Int32} {P : Int32 → Prop}  (C : CX D cy R_Mo c_Mo_takes tb_Mo_takes 6 p s m args c Z) (h : HXw D Z s.heap H locs (wM cy ad I A)) (hret : RetP p l e { frames := 1, cells := 0, slots := 0, locals := 21 } s m args below meth c c_Mo_takes .int H locs Q P) :
    ∀ (x2 : Int32) (x3 : Int32) (x4 : Int32) (s0 : Int32) (ls : Array Slot), lv_has ls 6 [(0, .ref (ad 0)), (1, .int a1), (2, .int x2), (3, .int x3), (4, .int x4)] → g_Mo_takes_57 I A a1 P  x2 x3 x4 s0 → W p l e { frames := 1, cells := 0, slots := 0, locals := 21 } s m args below meth c H locs 0 0 Q (F0 m 57 ls [.int s0]) := by
  intro x2 x3 x4 s0 ls hl hw
  refine i_istore (lv' := [(5, .int s0), (0, .ref (ad 0)), (1, .int a1), (2, .int x2), (3, .int x3), (4, .int x4)]) C 34 rfl rfl hl (by decide) rfl (fun ls hl => ?_)
  refine i_aload_n C 35 rfl rfl rfl hl 1 rfl ?_
  refine fgM_Mo_16 C 36 rfl rfl h ?_
  refine i_iload_n C 37 rfl rfl rfl hl 2 rfl ?_
  obtain ⟨hb, hw⟩ := hw
  refine i_iald C 38 rfl rfl h (wM_arr 2 (by decide) rfl) hb ?_
  by_cases c7 : (A 2 a1.toNatClampNeg) = (1 : Int32)
  · replace hw := hw.1 c7
    refine i_tsw (tgt := 108) C 39 rfl c7 (by decide) (by decide) rfl rfl ?_
    refine i_iload C 40 rfl rfl hl 5 rfl ?_
    refine i_if_eq (tgt := 122) C 41 rfl rfl rfl (fun c8 => ?_) (fun c8 => ?_)
    · replace hw := hw.1 c8
      refine i_iconst (v := (0 : Int32)) C 47 rfl rfl rfl ?_
      exact hret _ _ _ rfl hw (C.dg (k := 48) rfl)
    · replace hw := hw.2 c8
      refine i_aload_n C 42 rfl rfl rfl hl 1 rfl ?_
      refine fgM_Mo_19 C 43 rfl rfl h ?_
      refine i_iload_n C 44 rfl rfl rfl hl 2 rfl ?_
      obtain ⟨hb, hw⟩ := hw
      refine i_iald C 45 rfl rfl h (wM_arr 3 (by decide) rfl) hb ?_
      refine i_goto (tgt := 123) C 46 rfl rfl ?_
      exact hret _ _ _ rfl hw (C.dg (k := 48) rfl)
  replace hw := hw.2
  by_cases c9 : (A 2 a1.toNatClampNeg) = (2 : Int32)
  · replace hw := hw.1 c9
    refine i_tsw (tgt := 124) C 39 rfl c9 (by decide) (by decide) rfl rfl ?_
    refine i_iload C 49 rfl rfl hl 5 rfl ?_
    refine i_if_eq (tgt := 155) C 50 rfl rfl rfl (fun c10 => ?_) (fun c10 => ?_)
    · replace hw := hw.1 c10
      refine i_iconst (v := (0 : Int32)) C 69 rfl rfl rfl ?_
      exact hret _ _ _ rfl hw (C.dg (k := 70) rfl)
    · replace hw := hw.2 c10
      refine i_aload_n C 51 rfl rfl rfl hl 1 rfl ?_
      refine fgM_Mo_19 C 52 rfl rfl h ?_
      refine i_iload_n C 53 rfl rfl rfl hl 2 rfl ?_
      obtain ⟨hb, hw⟩ := hw
      refine i_iald C 54 rfl rfl h (wM_arr 3 (by decide) rfl) hb ?_
      refine i_aload_n C 55 rfl rfl rfl hl 1 rfl ?_
      refine fgM_Mo_22 C 56 rfl rfl h ?_
      refine i_iload_n C 57 rfl rfl rfl hl 2 rfl ?_
      obtain ⟨hb, hw⟩ := hw
      refine i_iald C 58 rfl rfl h (wM_arr 4 (by decide) rfl) hb ?_
      refine i_iconst (v := (3 : Int32)) C 59 rfl rfl rfl ?_
      refine i_iload_n C 60 rfl rfl rfl hl 4 rfl ?_
      refine i_bipush (v := (60 : Int32)) C 61 rfl rfl rfl ?_
      refine i_idiv C 62 rfl rfl (by decide) ?_
      refine i_imul C 63 rfl rfl ?_
      refine i_iadd C 64 rfl rfl ?_
      refine i_bipush (v := (7 : Int32)) C 65 rfl rfl rfl ?_
      refine i_irem C 66 rfl rfl (by decide) ?_
      refine i_imul C 67 rfl rfl ?_
      refine i_goto (tgt := 156) C 68 rfl rfl ?_
      exact hret _ _ _ rfl hw (C.dg (k := 70) rfl)
  replace hw := hw.2
  by_cases c11 : (A 2 a1.toNatClampNeg) = (3 : Int32)
  · replace hw := hw.1 c11
    refine i_tsw (tgt := 157) C 39 rfl c11 (by decide) (by decide) rfl rfl ?_
    refine i_iload_n C 71 rfl rfl rfl hl 3 rfl ?_
    refine i_aload_n C 72 rfl rfl rfl hl 1 rfl ?_
    refine fgM_Mo_25 C 73 rfl rfl h ?_
    refine i_iload_n C 74 rfl rfl rfl hl 2 rfl ?_
    obtain ⟨hb, hw⟩ := hw
    refine i_iald C 75 rfl rfl h (wM_arr 5 (by decide) rfl) hb ?_
    refine i_iadd C 76 rfl rfl ?_
    refine i_aload_n C 77 rfl rfl rfl hl 1 rfl ?_
    refine fgM_Mo_22 C 78 rfl rfl h ?_
    refine i_iload_n C 79 rfl rfl rfl hl 2 rfl ?_
    obtain ⟨hb, hw⟩ := hw
    refine i_iald C 80 rfl rfl h (wM_arr 4 (by decide) rfl) hb ?_
    obtain ⟨hd, hw⟩ := hw
    refine i_irem C 81 rfl rfl hd ?_
    refine i_aload_n C 82 rfl rfl rfl hl 1 rfl ?_
    refine fgM_Mo_28 C 83 rfl rfl h ?_
    refine i_iload_n C 84 rfl rfl rfl hl 2 rfl ?_
    obtain ⟨hb, hw⟩ := hw
    refine i_iald C 85 rfl rfl h (wM_arr 6 (by decide) rfl) hb ?_
    refine i_icmp_ge (tgt := 190) C 86 rfl rfl rfl (fun c12 => ?_) (fun c12 => ?_)
    · replace hw := hw.1 c12
      refine i_iconst (v := (0 : Int32)) C 92 rfl rfl rfl ?_
      exact hret _ _ _ rfl hw (C.dg (k := 93) rfl)
    · replace hw := hw.2 c12
      refine i_aload_n C 87 rfl rfl rfl hl 1 rfl ?_
      refine fgM_Mo_19 C 88 rfl rfl h ?_
      refine i_iload_n C 89 rfl rfl rfl hl 2 rfl ?_
      obtain ⟨hb, hw⟩ := hw
      refine i_iald C 90 rfl rfl h (wM_arr 3 (by decide) rfl) hb ?_
      refine i_goto (tgt := 191) C 91 rfl rfl ?_
      exact hret _ _ _ rfl hw (C.dg (k := 93) rfl)
  replace hw := hw.2
  by_cases c13 : (A 2 a1.toNatClampNeg) = (4 : Int32)
  · replace hw := hw.1 c13
    refine i_tsw (tgt := 192) C 39 rfl c13 (by decide) (by decide) rfl rfl ?_
    refine i_aload_n C 94 rfl rfl rfl hl 1 rfl ?_
    refine fgM_Mo_31 C 95 rfl rfl h ?_
    refine i_iload_n C 96 rfl rfl rfl hl 2 rfl ?_
    obtain ⟨hb, hw⟩ := hw
    refine i_iald C 97 rfl rfl h (wM_arr 7 (by decide) rfl) hb ?_
    refine i_if_ne (tgt := 206) C 98 rfl rfl rfl (fun c14 => ?_) (fun c14 => ?_)
    · replace hw := hw.1 c14
      refine i_iconst (v := (0 : Int32)) C 101 rfl rfl rfl ?_
      exact hret _ _ _ rfl hw (C.dg (k := 102) rfl)
    · replace hw := hw.2 c14
      refine i_bipush (v := (10 : Int32)) C 99 rfl rfl rfl ?_
      refine i_goto (tgt := 207) C 100 rfl rfl ?_
      exact hret _ _ _ rfl hw (C.dg (k := 102) rfl)
  replace hw := hw.2
  by_cases c15 : (A 2 a1.toNatClampNeg) = (5 : Int32)
  · replace hw := hw.1 c15
    refine i_tsw (tgt := 238) C 39 rfl c15 (by decide) (by decide) rfl rfl ?_
    refine i_iconst (v := (0 : Int32)) C 123 rfl rfl rfl ?_
    exact hret _ _ _ rfl hw (C.dg (k := 124) rfl)
  replace hw := hw.2
  by_cases c16 : (A 2 a1.toNatClampNeg) = (6 : Int32)
  · replace hw := hw.1 c16
    refine i_tsw (tgt := 208) C 39 rfl c16 (by decide) (by decide) rfl rfl ?_
    refine i_aload_n C 103 rfl rfl rfl hl 1 rfl ?_
    refine fgM_Mo_19 C 104 rfl rfl h ?_
    refine i_iload_n C 105 rfl rfl rfl hl 2 rfl ?_
    obtain ⟨hb, hw⟩ := hw
    refine i_iald C 106 rfl rfl h (wM_arr 3 (by decide) rfl) hb ?_
    refine i_iload C 107 rfl rfl hl 0 rfl ?_
    refine i_imul C 108 rfl rfl ?_
    refine i_sipush (v := (1000 : Int32)) C 109 rfl rfl rfl ?_
    refine i_idiv C 110 rfl rfl (by decide) ?_
    exact hret _ _ _ rfl hw (C.dg (k := 111) rfl)
  replace hw := hw.2
  by_cases c17 : (A 2 a1.toNatClampNeg) = (7 : Int32)
  · replace hw := hw.1 c17
    refine i_tsw (tgt := 222) C 39 rfl c17 (by decide) (by decide) rfl rfl ?_
    refine i_iconst (v := (2 : Int32)) C 112 rfl rfl rfl ?_
    refine i_aload_n C 113 rfl rfl rfl hl 1 rfl ?_
    refine fgM_Mo_19 C 114 rfl rfl h ?_
    refine i_iload_n C 115 rfl rfl rfl hl 2 rfl ?_
    obtain ⟨hb, hw⟩ := hw
    refine i_iald C 116 rfl rfl h (wM_arr 3 (by decide) rfl) hb ?_
    refine i_iload C 117 rfl rfl hl 0 rfl ?_
    refine i_imul C 118 rfl rfl ?_
    refine i_sipush (v := (1000 : Int32)) C 119 rfl rfl rfl ?_
    refine i_idiv C 120 rfl rfl (by decide) ?_
    refine i_imul C 121 rfl rfl ?_
    exact hret _ _ _ rfl hw (C.dg (k := 122) rfl)
  replace hw := hw.2
  replace hw := hw c7
  replace hw := hw c9
  replace hw := hw c11
  replace hw := hw c13
  replace hw := hw c15
  replace hw := hw c16
  replace hw := hw c17
  refine i_tswd (tgt := 238) C 39 rfl (fun j hj => match j, hj with | 0, _ => lv_neT c7 rfl | 1, _ => lv_neT c9 rfl | 2, _ => lv_neT c11 rfl | 3, _ => lv_neT c13 rfl | 4, _ => lv_neT c15 rfl | 5, _ => lv_neT c16 rfl | 6, _ => lv_neT c17 rfl | j + 7, hj => absurd hj (by omega)) rfl ?_
  refine i_iconst (v := (0 : Int32)) C 123 rfl rfl rfl ?_
  exact hret _ _ _ rfl hw (C.dg (k := 124) rfl)
def g_Mo_takes_38 (I : Nat → Int32) (A : Nat → Nat → Int32) (a1 : Int32) (P : Int32 → Prop)  (x2 : Int32) (x3 : Int32) (s0 : Int32) : Prop := g_Mo_pressOf A a1 (fun r4 => ((0 ≤ r4 → (g_Mo_pressOf A a1 (fun r6 => (g_Mo_takes_57 I A a1 P  x2 x3 s0 r6)))) ∧ (¬ 0 ≤ r4 → (g_Mo_takes_57 I A a1 P  x2 x3 s0 (0 : Int32)))))
set_option maxHeartbeats 4000000 in
set_option maxRecDepth 100000 in
theorem e_Mo_takes_38 {I : Nat → Int32} {A : Nat → Nat → Int32} {a1 : Int32} {P : Int32 → Prop}  (C : CX D cy R_Mo c_Mo_takes tb_Mo_takes 6 p s m args c Z) (h : HXw D Z s.heap H locs (wM cy ad I A)) (hret : RetP p l e { frames := 1, cells := 0, slots := 0, locals := 21 } s m args below meth c c_Mo_takes .int H locs Q P) :
    ∀ (x2 : Int32) (x3 : Int32) (s0 : Int32) (ls : Array Slot), lv_has ls 6 [(0, .ref (ad 0)), (1, .int a1), (2, .int x2), (3, .int x3)] → g_Mo_takes_38 I A a1 P  x2 x3 s0 → W p l e { frames := 1, cells := 0, slots := 0, locals := 21 } s m args below meth c H locs 0 0 Q (F0 m 38 ls [.int s0]) := by
  intro x2 x3 s0 ls hl hw
  refine i_istore (lv' := [(4, .int s0), (0, .ref (ad 0)), (1, .int a1), (2, .int x2), (3, .int x3)]) C 24 rfl rfl hl (by decide) rfl (fun ls hl => ?_)
  refine i_aload_n C 25 rfl rfl rfl hl 1 rfl ?_
  refine i_iload_n C 26 rfl rfl rfl hl 2 rfl ?_
  refine i_callVp (rest := []) (ci := 11) (qc := (R_Mo, T_Mo, 50)) C 27 rfl rfl hl h rfl (wM_get (h := 0) (by decide)) (kV_Mo_168 ⟨by decide, by decide⟩) (m_Mo_pressOf hw) rfl rfl (by decide) ⟨by decide, by decide⟩ (fun r4 hw => ?_)
  refine i_if_ge (tgt := 52) C 28 rfl rfl rfl (fun c5 => ?_) (fun c5 => ?_)
  · replace hw := hw.1 c5
    refine i_aload_n C 31 rfl rfl rfl hl 1 rfl ?_
    refine i_iload_n C 32 rfl rfl rfl hl 2 rfl ?_
    refine i_callVp (rest := []) (ci := 11) (qc := (R_Mo, T_Mo, 50)) C 33 rfl rfl hl h rfl (wM_get (h := 0) (by decide)) (kV_Mo_168 ⟨by decide, by decide⟩) (m_Mo_pressOf hw) rfl rfl (by decide) ⟨by decide, by decide⟩ (fun r6 hw => ?_)
    exact e_Mo_takes_57 C h hret  x2 x3 s0 r6 ls (lv_sub hl [1, 2, 3, 4, 0] rfl) hw
  · replace hw := hw.2 c5
    refine i_iconst (v := (0 : Int32)) C 29 rfl rfl rfl ?_
    refine i_goto (tgt := 57) C 30 rfl rfl ?_
    exact e_Mo_takes_57 C h hret  x2 x3 s0 (0 : Int32) ls (lv_sub hl [1, 2, 3, 4, 0] rfl) hw
def g_Mo_takes_37 (I : Nat → Int32) (A : Nat → Nat → Int32) (a1 : Int32) (P : Int32 → Prop)  (x2 : Int32) (x3 : Int32) : Prop := g_Mo_takes_38 I A a1 P  x2 x3 (0 : Int32)
set_option maxHeartbeats 4000000 in
set_option maxRecDepth 100000 in
theorem e_Mo_takes_37 {I : Nat → Int32} {A : Nat → Nat → Int32} {a1 : Int32} {P : Int32 → Prop}  (C : CX D cy R_Mo c_Mo_takes tb_Mo_takes 6 p s m args c Z) (h : HXw D Z s.heap H locs (wM cy ad I A)) (hret : RetP p l e { frames := 1, cells := 0, slots := 0, locals := 21 } s m args below meth c c_Mo_takes .int H locs Q P) :
    ∀ (x2 : Int32) (x3 : Int32) (ls : Array Slot), lv_has ls 6 [(0, .ref (ad 0)), (1, .int a1), (2, .int x2), (3, .int x3)] → g_Mo_takes_37 I A a1 P  x2 x3 → W p l e { frames := 1, cells := 0, slots := 0, locals := 21 } s m args below meth c H locs 0 0 Q (F0 m 37 ls []) := by
  intro x2 x3 ls hl hw
  refine i_iconst (v := (0 : Int32)) C 23 rfl rfl rfl ?_
  exact e_Mo_takes_38 C h hret  x2 x3 (0 : Int32) ls hl hw
def g_Mo_takes (I : Nat → Int32) (A : Nat → Nat → Int32) (a1 : Int32) (P : Int32 → Prop) : Prop := ∀ y1 : Int32, y1 = (I 3) / (4 : Int32) → (∀ y2 : Int32, y2 = y1 - y1 / (1440 : Int32) * (1440 : Int32) → (vp_in a1 12 ∧ ((y2 < (A 5 a1.toNatClampNeg) → (g_Mo_takes_37 I A a1 P  y1 y2)) ∧ (¬ y2 < (A 5 a1.toNatClampNeg) → (vp_in a1 12 ∧ (((A 6 a1.toNatClampNeg) ≤ y2 → (g_Mo_takes_37 I A a1 P  y1 y2)) ∧ (¬ (A 6 a1.toNatClampNeg) ≤ y2 → (g_Mo_takes_38 I A a1 P  y1 y2 (1 : Int32)))))))))
set_option maxHeartbeats 4000000 in
set_option maxRecDepth 100000 in
theorem m_Mo_takes {l : Launch} {D : va_G} {cy : Nat → ClassId} {ad : Nat → Nat} {I : Nat → Int32} {A : Nat → Nat → Int32} {a1 : Int32} {P : Int32 → Prop} (hw : g_Mo_takes I A a1 P) : ∀ sz, Met l y_Mo_takes (WL y_Mo_takes c_Mo_takes 6 (some .int)) { frames := 1, cells := 0, slots := 0, locals := 21 } (va_Pc [.ref (ad 0), .int a1] (PreW D cy (wM cy ad I A) sz)) (vp_Si P) 0 0 (fun _ => False) := by
  refine met_p R_Mo .int db_Mo_takes (by decide) rfl rfl (by decide) ?_
  intro p e s m below meth c Z Q ls C h hl hret
  have hl : lv_has ls 6 [(0, .ref (ad 0)), (1, .int a1)] := hl
  refine i_aload_n C 0 rfl rfl rfl hl 0 rfl ?_
  refine fgM_Mo_165 C 1 rfl rfl h ?_
  refine i_iconst (v := (4 : Int32)) C 2 rfl rfl rfl ?_
  refine i_idiv C 3 rfl rfl (by decide) ?_
  refine lv_topi (fun y1 ey1 => ?_)
  replace hw := hw y1 ey1
  refine i_istore_n (lv' := [(2, .int y1), (0, .ref (ad 0)), (1, .int a1)]) C 4 rfl rfl rfl hl (by decide) rfl (fun ls hl => ?_)
  refine i_iload_n C 5 rfl rfl rfl hl 0 rfl ?_
  refine i_sipush (v := (1440 : Int32)) C 6 rfl rfl rfl ?_
  refine i_irem C 7 rfl rfl (by decide) ?_
  refine lv_topi (fun y2 ey2 => ?_)
  replace hw := hw y2 ey2
  refine i_istore_n (lv' := [(3, .int y2), (2, .int y1), (0, .ref (ad 0)), (1, .int a1)]) C 8 rfl rfl rfl hl (by decide) rfl (fun ls hl => ?_)
  refine i_iload_n C 9 rfl rfl rfl hl 0 rfl ?_
  refine i_aload_n C 10 rfl rfl rfl hl 2 rfl ?_
  refine fgM_Mo_25 C 11 rfl rfl h ?_
  refine i_iload_n C 12 rfl rfl rfl hl 3 rfl ?_
  obtain ⟨hb, hw⟩ := hw
  refine i_iald C 13 rfl rfl h (wM_arr 5 (by decide) rfl) hb ?_
  refine i_icmp_lt (tgt := 37) C 14 rfl rfl rfl (fun c3 => ?_) (fun c3 => ?_)
  · replace hw := hw.1 c3
    exact e_Mo_takes_37 C h hret  y1 y2 ls (lv_sub hl [2, 3, 1, 0] rfl) hw
  · replace hw := hw.2 c3
    refine i_iload_n C 15 rfl rfl rfl hl 0 rfl ?_
    refine i_aload_n C 16 rfl rfl rfl hl 2 rfl ?_
    refine fgM_Mo_28 C 17 rfl rfl h ?_
    refine i_iload_n C 18 rfl rfl rfl hl 3 rfl ?_
    obtain ⟨hb, hw⟩ := hw
    refine i_iald C 19 rfl rfl h (wM_arr 6 (by decide) rfl) hb ?_
    refine i_icmp_ge (tgt := 37) C 20 rfl rfl rfl (fun c18 => ?_) (fun c18 => ?_)
    · replace hw := hw.1 c18
      exact e_Mo_takes_37 C h hret  y1 y2 ls (lv_sub hl [2, 3, 1, 0] rfl) hw
    · replace hw := hw.2 c18
      refine i_iconst (v := (1 : Int32)) C 21 rfl rfl rfl ?_
      refine i_goto (tgt := 38) C 22 rfl rfl ?_
      exact e_Mo_takes_38 C h hret  y1 y2 (1 : Int32) ls (lv_sub hl [2, 3, 1, 0] rfl) hw
end S193
theorem kV_Mo_171 {R : Room} {s : State} {args : Array Value} (hR : 1 + 1 ≤ R.frames ∧ 8 + (6 + 11) + 21 ≤ R.locals) (ht : ∀ w ∈ GW, w.before args s = true) : CallW R s args R_Mo R_Mo 171 y_Mo_takes c_Mo_takes 6 (some .int) (WL y_Mo_takes c_Mo_takes 6 (some .int)) { frames := 1, cells := 0, slots := 0, locals := 21 } 0 0 1 := cwV 1 ht (GW_v w_698 w_699 w_700 w_640 (GW_wl w_697)) rfl rfl rfl (by decide +kernel) hR
theorem kV_Mo_174 {R : Room} {s : State} {args : Array Value} (hR : 0 + 1 ≤ R.frames ∧ 8 + (2 + 11) + 0 ≤ R.locals) (ht : ∀ w ∈ GW, w.before args s = true) : CallW R s args R_Mo R_Mo 174 y_Mo_isSource c_Mo_isSource 2 (some .boolean) (WL y_Mo_isSource c_Mo_isSource 2 (some .boolean)) { frames := 0, cells := 0, slots := 0, locals := 0 } 0 0 1 := cwV 1 ht (GW_v w_702 w_703 w_704 w_640 (GW_wl w_701)) rfl rfl rfl (by decide +kernel) hR
section S194
variable {p : Program} {l : Launch} {e : Env} {R : Room} {s : State} {m : MethodId} {args : Array Value} {below : List Frame} {meth : Method} {c : Code} {H : Heap} {locs : List Loc} {cells slots : Nat} {Q : State → Prop}
variable {cc : ByteArray} {pc n nL : Nat} {ls : Array Slot} {rest : List Value} {D : va_G} {cy : Nat → ClassId} {Z : Nat → Prop} {ad : Nat → Nat} {tb : List (Nat × Instr × Nat)} {lv : List (Nat × Value)}
def g_Mo_ofNode (I : Nat → Int32) (A : Nat → Nat → Int32) (a1 : Int32) (a2 : Int32) (P : Int32 → Prop) : Prop := g_Mo_isNode I a1 (fun r1 => ((¬ r1 = 0 → ((a2 = (0 : Int32) → (vp_in a1 12 ∧ (P (A 2 a1.toNatClampNeg)))) ∧ (a2 = (1 : Int32) → (vp_in a1 12 ∧ (P (A 0 a1.toNatClampNeg)))) ∧ (a2 = (2 : Int32) → (vp_in a1 12 ∧ (P (A 1 a1.toNatClampNeg)))) ∧ (a2 = (3 : Int32) → (g_Mo_takes I A a1 (fun r7 => (P r7)))) ∧ (a2 = (4 : Int32) → (g_Mo_isSource I A a1 (fun r9 => ((r9 = 0 → (P (0 : Int32))) ∧ (¬ r9 = 0 → (P (1 : Int32))))))) ∧ (a2 = (5 : Int32) → (vp_in a1 12 ∧ (P (A 7 a1.toNatClampNeg)))) ∧ (a2 = (6 : Int32) → (vp_in a1 12 ∧ (((A 8 a1.toNatClampNeg) = 0 → (P (0 : Int32))) ∧ (¬ (A 8 a1.toNatClampNeg) = 0 → (P (1 : Int32)))))) ∧ (a2 = (7 : Int32) → (vp_in a1 12 ∧ (P (A 10 a1.toNatClampNeg)))) ∧ (a2 = (8 : Int32) → (vp_in a1 12 ∧ (P (A 12 a1.toNatClampNeg)))) ∧ (¬ a2 = (0 : Int32) → ¬ a2 = (1 : Int32) → ¬ a2 = (2 : Int32) → ¬ a2 = (3 : Int32) → ¬ a2 = (4 : Int32) → ¬ a2 = (5 : Int32) → ¬ a2 = (6 : Int32) → ¬ a2 = (7 : Int32) → ¬ a2 = (8 : Int32) → (P (-2 : Int32))))) ∧ (r1 = 0 → (P (-1 : Int32)))))
set_option maxHeartbeats 4000000 in
set_option maxRecDepth 100000 in
theorem m_Mo_ofNode {l : Launch} {D : va_G} {cy : Nat → ClassId} {ad : Nat → Nat} {I : Nat → Int32} {A : Nat → Nat → Int32} {a1 : Int32} {a2 : Int32} {P : Int32 → Prop} (hw : g_Mo_ofNode I A a1 a2 P) : ∀ sz, Met l y_Mo_ofNode (WL y_Mo_ofNode c_Mo_ofNode 3 (some .int)) { frames := 2, cells := 0, slots := 0, locals := 46 } (va_Pc [.ref (ad 0), .int a1, .int a2] (PreW D cy (wM cy ad I A) sz)) (vp_Si P) 0 0 (fun _ => False) := by
  refine met_p R_Mo .int db_Mo_ofNode (by decide) rfl rfl (by decide) ?_
  intro p e s m below meth c Z Q ls C h hl hret
  have hl : lv_has ls 3 [(0, .ref (ad 0)), (1, .int a1), (2, .int a2)] := hl
  refine i_aload_n C 0 rfl rfl rfl hl 0 rfl ?_
  refine i_iload_n C 1 rfl rfl rfl hl 1 rfl ?_
  refine i_callVp (rest := []) (ci := 11) (qc := (R_Mo, T_Mo, 50)) C 2 rfl rfl hl h rfl (wM_get (h := 0) (by decide)) (kV_Mo_136 ⟨by decide, by decide⟩) (m_Mo_isNode hw) rfl rfl (by decide) ⟨by decide, by decide⟩ (fun r1 hw => ?_)
  refine i_if_ne (tgt := 10) C 3 rfl rfl rfl (fun c2 => ?_) (fun c2 => ?_)
  · replace hw := hw.1 c2
    refine i_iload_n C 6 rfl rfl rfl hl 2 rfl ?_
    by_cases c3 : a2 = (0 : Int32)
    · replace hw := hw.1 c3
      refine i_tsw (tgt := 60) C 7 rfl c3 (by decide) (by decide) rfl rfl ?_
      refine i_aload_n C 8 rfl rfl rfl hl 0 rfl ?_
      refine fgM_Mo_16 C 9 rfl rfl h ?_
      refine i_iload_n C 10 rfl rfl rfl hl 1 rfl ?_
      obtain ⟨hb, hw⟩ := hw
      refine i_iald C 11 rfl rfl h (wM_arr 2 (by decide) rfl) hb ?_
      exact hret _ _ _ rfl hw (C.dg (k := 12) rfl)
    replace hw := hw.2
    by_cases c4 : a2 = (1 : Int32)
    · replace hw := hw.1 c4
      refine i_tsw (tgt := 67) C 7 rfl c4 (by decide) (by decide) rfl rfl ?_
      refine i_aload_n C 13 rfl rfl rfl hl 0 rfl ?_
      refine fgM_Mo_7 C 14 rfl rfl h ?_
      refine i_iload_n C 15 rfl rfl rfl hl 1 rfl ?_
      obtain ⟨hb, hw⟩ := hw
      refine i_iald C 16 rfl rfl h (wM_arr 0 (by decide) rfl) hb ?_
      exact hret _ _ _ rfl hw (C.dg (k := 17) rfl)
    replace hw := hw.2
    by_cases c5 : a2 = (2 : Int32)
    · replace hw := hw.1 c5
      refine i_tsw (tgt := 74) C 7 rfl c5 (by decide) (by decide) rfl rfl ?_
      refine i_aload_n C 18 rfl rfl rfl hl 0 rfl ?_
      refine fgM_Mo_13 C 19 rfl rfl h ?_
      refine i_iload_n C 20 rfl rfl rfl hl 1 rfl ?_
      obtain ⟨hb, hw⟩ := hw
      refine i_iald C 21 rfl rfl h (wM_arr 1 (by decide) rfl) hb ?_
      exact hret _ _ _ rfl hw (C.dg (k := 22) rfl)
    replace hw := hw.2
    by_cases c6 : a2 = (3 : Int32)
    · replace hw := hw.1 c6
      refine i_tsw (tgt := 81) C 7 rfl c6 (by decide) (by decide) rfl rfl ?_
      refine i_aload_n C 23 rfl rfl rfl hl 0 rfl ?_
      refine i_iload_n C 24 rfl rfl rfl hl 1 rfl ?_
      refine i_callVp (rest := []) (ci := 11) (qc := (R_Mo, T_Mo, 50)) C 25 rfl rfl hl h rfl (wM_get (h := 0) (by decide)) (kV_Mo_171 ⟨by decide, by decide⟩) (m_Mo_takes hw) rfl rfl (by decide) ⟨by decide, by decide⟩ (fun r7 hw => ?_)
      exact hret _ _ _ rfl hw (C.dg (k := 26) rfl)
    replace hw := hw.2
    by_cases c8 : a2 = (4 : Int32)
    · replace hw := hw.1 c8
      refine i_tsw (tgt := 87) C 7 rfl c8 (by decide) (by decide) rfl rfl ?_
      refine i_aload_n C 27 rfl rfl rfl hl 0 rfl ?_
      refine i_iload_n C 28 rfl rfl rfl hl 1 rfl ?_
      refine i_callVp (rest := []) (ci := 11) (qc := (R_Mo, T_Mo, 50)) C 29 rfl rfl hl h rfl (wM_get (h := 0) (by decide)) (kV_Mo_174 ⟨by decide, by decide⟩) (m_Mo_isSource hw) rfl rfl (by decide) ⟨by decide, by decide⟩ (fun r9 hw => ?_)
      refine i_if_eq (tgt := 99) C 30 rfl rfl rfl (fun c10 => ?_) (fun c10 => ?_)
      · replace hw := hw.1 c10
        refine i_iconst (v := (0 : Int32)) C 33 rfl rfl rfl ?_
        exact hret _ _ _ rfl hw (C.dg (k := 34) rfl)
      · replace hw := hw.2 c10
        refine i_iconst (v := (1 : Int32)) C 31 rfl rfl rfl ?_
        refine i_goto (tgt := 100) C 32 rfl rfl ?_
        exact hret _ _ _ rfl hw (C.dg (k := 34) rfl)
    replace hw := hw.2
    by_cases c11 : a2 = (5 : Int32)
    · replace hw := hw.1 c11
      refine i_tsw (tgt := 101) C 7 rfl c11 (by decide) (by decide) rfl rfl ?_
      refine i_aload_n C 35 rfl rfl rfl hl 0 rfl ?_
      refine fgM_Mo_31 C 36 rfl rfl h ?_
      refine i_iload_n C 37 rfl rfl rfl hl 1 rfl ?_
      obtain ⟨hb, hw⟩ := hw
      refine i_iald C 38 rfl rfl h (wM_arr 7 (by decide) rfl) hb ?_
      exact hret _ _ _ rfl hw (C.dg (k := 39) rfl)
    replace hw := hw.2
    by_cases c12 : a2 = (6 : Int32)
    · replace hw := hw.1 c12
      refine i_tsw (tgt := 108) C 7 rfl c12 (by decide) (by decide) rfl rfl ?_
      refine i_aload_n C 40 rfl rfl rfl hl 0 rfl ?_
      refine fgM_Mo_34 C 41 rfl rfl h ?_
      refine i_iload_n C 42 rfl rfl rfl hl 1 rfl ?_
      obtain ⟨hb, hw⟩ := hw
      refine i_zald C 43 rfl rfl h (wM_arr 8 (by decide) rfl) hb ?_
      refine i_if_eq (tgt := 121) C 44 rfl rfl rfl (fun c13 => ?_) (fun c13 => ?_)
      · replace hw := hw.1 c13
        refine i_iconst (v := (0 : Int32)) C 47 rfl rfl rfl ?_
        exact hret _ _ _ rfl hw (C.dg (k := 48) rfl)
      · replace hw := hw.2 c13
        refine i_iconst (v := (1 : Int32)) C 45 rfl rfl rfl ?_
        refine i_goto (tgt := 122) C 46 rfl rfl ?_
        exact hret _ _ _ rfl hw (C.dg (k := 48) rfl)
    replace hw := hw.2
    by_cases c14 : a2 = (7 : Int32)
    · replace hw := hw.1 c14
      refine i_tsw (tgt := 123) C 7 rfl c14 (by decide) (by decide) rfl rfl ?_
      refine i_aload_n C 49 rfl rfl rfl hl 0 rfl ?_
      refine fgM_Mo_41 C 50 rfl rfl h ?_
      refine i_iload_n C 51 rfl rfl rfl hl 1 rfl ?_
      obtain ⟨hb, hw⟩ := hw
      refine i_iald C 52 rfl rfl h (wM_arr 10 (by decide) rfl) hb ?_
      exact hret _ _ _ rfl hw (C.dg (k := 53) rfl)
    replace hw := hw.2
    by_cases c15 : a2 = (8 : Int32)
    · replace hw := hw.1 c15
      refine i_tsw (tgt := 130) C 7 rfl c15 (by decide) (by decide) rfl rfl ?_
      refine i_aload_n C 54 rfl rfl rfl hl 0 rfl ?_
      refine fgM_Mo_47 C 55 rfl rfl h ?_
      refine i_iload_n C 56 rfl rfl rfl hl 1 rfl ?_
      obtain ⟨hb, hw⟩ := hw
      refine i_iald C 57 rfl rfl h (wM_arr 12 (by decide) rfl) hb ?_
      exact hret _ _ _ rfl hw (C.dg (k := 58) rfl)
    replace hw := hw.2
    replace hw := hw c3
    replace hw := hw c4
    replace hw := hw c5
    replace hw := hw c6
    replace hw := hw c8
    replace hw := hw c11
    replace hw := hw c12
    replace hw := hw c14
    replace hw := hw c15
    refine i_tswd (tgt := 137) C 7 rfl (fun j hj => match j, hj with | 0, _ => lv_neT c3 rfl | 1, _ => lv_neT c4 rfl | 2, _ => lv_neT c5 rfl | 3, _ => lv_neT c6 rfl | 4, _ => lv_neT c8 rfl | 5, _ => lv_neT c11 rfl | 6, _ => lv_neT c12 rfl | 7, _ => lv_neT c14 rfl | 8, _ => lv_neT c15 rfl | j + 9, hj => absurd hj (by omega)) rfl ?_
    refine i_bipush (v := (-2 : Int32)) C 59 rfl rfl rfl ?_
    exact hret _ _ _ rfl hw (C.dg (k := 60) rfl)
  · replace hw := hw.2 c2
    refine i_iconst (v := (-1 : Int32)) C 4 rfl rfl rfl ?_
    exact hret _ _ _ rfl hw (C.dg (k := 5) rfl)
end S194
section S195
variable {p : Program} {l : Launch} {e : Env} {R : Room} {s : State} {m : MethodId} {args : Array Value} {below : List Frame} {meth : Method} {c : Code} {H : Heap} {locs : List Loc} {cells slots : Nat} {Q : State → Prop}
variable {cc : ByteArray} {pc n nL : Nat} {ls : Array Slot} {rest : List Value} {D : va_G} {cy : Nat → ClassId} {Z : Nat → Prop} {ad : Nat → Nat} {tb : List (Nat × Instr × Nat)} {lv : List (Nat × Value)}
def g_Mo_setLit_42 (I : Nat → Int32) (a1 : Int32) (a2 : Int32) (P : Int32 → ((Nat → Nat → Int32)) → Prop)  (A : Nat → Nat → Int32) (x3 : Int32) (s1 : Int32) (s2 : Int32) : Prop := vp_in s1 12 ∧ (vp_in a1 12 ∧ (isB x3 ∧ P x3 (sA (sA A 9 s1 s2) 8 a1 (vp_nar .boolean a2))))
set_option maxHeartbeats 4000000 in
set_option maxRecDepth 100000 in
theorem e_Mo_setLit_42 {I : Nat → Int32} {a1 : Int32} {a2 : Int32} {P : Int32 → ((Nat → Nat → Int32)) → Prop}  (C : CX D cy R_Mo c_Mo_setLit tb_Mo_setLit 4 p s m args c Z) (hret : RetI p l e { frames := 0, cells := 0, slots := 0, locals := 0 } s m args below meth c c_Mo_setLit .boolean D Z Q (fun u => wM cy ad I u) P 0 0) :
    ∀ (A : Nat → Nat → Int32) (x3 : Int32) (s1 : Int32) (s2 : Int32) (ls : Array Slot) (H : Heap) (locs : List Loc), lv_has ls 4 [(0, .ref (ad 0)), (1, .int a1), (2, .int a2), (3, .int x3)] → HXw D Z s.heap H locs (wM cy ad I A) → g_Mo_setLit_42 I a1 a2 P  A x3 s1 s2 → W p l e { frames := 0, cells := 0, slots := 0, locals := 0 } s m args below meth c H locs 0 0 Q (F0 m 42 ls [.int s2, .int s1, .ref (ad 10)]) := by
  intro A x3 s1 s2 ls H locs hl h hw
  obtain ⟨hb, hw⟩ := hw
  refine i_iast C 24 rfl rfl h (wM_arr 9 (by decide) rfl) hb (wM_sA 9 (by decide) rfl _ _) (fun H locs h => ?_)
  refine i_aload_n C 25 rfl rfl rfl hl 0 rfl ?_
  refine fgM_Mo_34 C 26 rfl rfl h ?_
  refine i_iload_n C 27 rfl rfl rfl hl 1 rfl ?_
  refine i_iload_n C 28 rfl rfl rfl hl 2 rfl ?_
  obtain ⟨hb, hw⟩ := hw
  refine i_zast C 29 rfl rfl h (wM_arr 8 (by decide) rfl) hb (wM_sA 8 (by decide) rfl _ _) (fun H locs h => ?_)
  refine i_iload_n C 30 rfl rfl rfl hl 3 rfl ?_
  obtain ⟨hB, hw⟩ := hw
  exact hret _ (sA (sA A 9 s1 s2) 8 a1 (vp_nar .boolean a2)) _ _ _ _ hB.nar hw h (C.dg (k := 31) rfl)
def g_Mo_setLit_36 (I : Nat → Int32) (a1 : Int32) (a2 : Int32) (P : Int32 → ((Nat → Nat → Int32)) → Prop)  (A : Nat → Nat → Int32) (x3 : Int32) (s1 : Int32) : Prop := vp_in a1 12 ∧ (g_Mo_setLit_42 I a1 a2 P  A x3 s1 (A 9 a1.toNatClampNeg))
set_option maxHeartbeats 4000000 in
set_option maxRecDepth 100000 in
theorem e_Mo_setLit_36 {I : Nat → Int32} {a1 : Int32} {a2 : Int32} {P : Int32 → ((Nat → Nat → Int32)) → Prop}  (C : CX D cy R_Mo c_Mo_setLit tb_Mo_setLit 4 p s m args c Z) (hret : RetI p l e { frames := 0, cells := 0, slots := 0, locals := 0 } s m args below meth c c_Mo_setLit .boolean D Z Q (fun u => wM cy ad I u) P 0 0) :
    ∀ (A : Nat → Nat → Int32) (x3 : Int32) (s1 : Int32) (ls : Array Slot) (H : Heap) (locs : List Loc), lv_has ls 4 [(0, .ref (ad 0)), (1, .int a1), (2, .int a2), (3, .int x3)] → HXw D Z s.heap H locs (wM cy ad I A) → g_Mo_setLit_36 I a1 a2 P  A x3 s1 → W p l e { frames := 0, cells := 0, slots := 0, locals := 0 } s m args below meth c H locs 0 0 Q (F0 m 36 ls [.int s1, .ref (ad 10)]) := by
  intro A x3 s1 ls H locs hl h hw
  refine i_aload_n C 20 rfl rfl rfl hl 0 rfl ?_
  refine fgM_Mo_38 C 21 rfl rfl h ?_
  refine i_iload_n C 22 rfl rfl rfl hl 1 rfl ?_
  obtain ⟨hb, hw⟩ := hw
  refine i_iald C 23 rfl rfl h (wM_arr 9 (by decide) rfl) hb ?_
  exact e_Mo_setLit_42 C hret  A x3 s1 (A 9 a1.toNatClampNeg) ls _ _ hl h hw
def g_Mo_setLit_15 (I : Nat → Int32) (a1 : Int32) (a2 : Int32) (P : Int32 → ((Nat → Nat → Int32)) → Prop)  (A : Nat → Nat → Int32) (s0 : Int32) : Prop := (a2 = 0 → (g_Mo_setLit_36 I a1 a2 P  A s0 a1)) ∧ (¬ a2 = 0 → ((s0 = 0 → (g_Mo_setLit_36 I a1 a2 P  A s0 a1)) ∧ (¬ s0 = 0 → (g_Mo_setLit_42 I a1 a2 P  A s0 a1 (I 3)))))
set_option maxHeartbeats 4000000 in
set_option maxRecDepth 100000 in
theorem e_Mo_setLit_15 {I : Nat → Int32} {a1 : Int32} {a2 : Int32} {P : Int32 → ((Nat → Nat → Int32)) → Prop}  (C : CX D cy R_Mo c_Mo_setLit tb_Mo_setLit 4 p s m args c Z) (hret : RetI p l e { frames := 0, cells := 0, slots := 0, locals := 0 } s m args below meth c c_Mo_setLit .boolean D Z Q (fun u => wM cy ad I u) P 0 0) :
    ∀ (A : Nat → Nat → Int32) (s0 : Int32) (ls : Array Slot) (H : Heap) (locs : List Loc), lv_has ls 4 [(0, .ref (ad 0)), (1, .int a1), (2, .int a2)] → HXw D Z s.heap H locs (wM cy ad I A) → g_Mo_setLit_15 I a1 a2 P  A s0 → W p l e { frames := 0, cells := 0, slots := 0, locals := 0 } s m args below meth c H locs 0 0 Q (F0 m 15 ls [.int s0]) := by
  intro A s0 ls H locs hl h hw
  refine i_istore_n (lv' := [(3, .int s0), (0, .ref (ad 0)), (1, .int a1), (2, .int a2)]) C 9 rfl rfl rfl hl (by decide) rfl (fun ls hl => ?_)
  refine i_aload_n C 10 rfl rfl rfl hl 1 rfl ?_
  refine fgM_Mo_38 C 11 rfl rfl h ?_
  refine i_iload_n C 12 rfl rfl rfl hl 2 rfl ?_
  refine i_iload_n C 13 rfl rfl rfl hl 3 rfl ?_
  refine i_if_eq (tgt := 36) C 14 rfl rfl rfl (fun c2 => ?_) (fun c2 => ?_)
  · replace hw := hw.1 c2
    exact e_Mo_setLit_36 C hret  A s0 a1 ls _ _ (lv_sub hl [1, 2, 3, 0] rfl) h hw
  · replace hw := hw.2 c2
    refine i_iload_n C 15 rfl rfl rfl hl 0 rfl ?_
    refine i_if_eq (tgt := 36) C 16 rfl rfl rfl (fun c3 => ?_) (fun c3 => ?_)
    · replace hw := hw.1 c3
      exact e_Mo_setLit_36 C hret  A s0 a1 ls _ _ (lv_sub hl [1, 2, 3, 0] rfl) h hw
    · replace hw := hw.2 c3
      refine i_aload_n C 17 rfl rfl rfl hl 1 rfl ?_
      refine fgM_Mo_165 C 18 rfl rfl h ?_
      refine i_goto (tgt := 42) C 19 rfl rfl ?_
      exact e_Mo_setLit_42 C hret  A s0 a1 (I 3) ls _ _ (lv_sub hl [1, 2, 3, 0] rfl) h hw
def g_Mo_setLit (I : Nat → Int32) (A : Nat → Nat → Int32) (a1 : Int32) (a2 : Int32) (P : Int32 → ((Nat → Nat → Int32)) → Prop) : Prop := vp_in a1 12 ∧ (((A 8 a1.toNatClampNeg) = a2 → (g_Mo_setLit_15 I a1 a2 P  A (0 : Int32))) ∧ (¬ (A 8 a1.toNatClampNeg) = a2 → (g_Mo_setLit_15 I a1 a2 P  A (1 : Int32))))
set_option maxHeartbeats 4000000 in
set_option maxRecDepth 100000 in
theorem m_Mo_setLit {l : Launch} {D : va_G} {cy : Nat → ClassId} {ad : Nat → Nat} {I : Nat → Int32} {A : Nat → Nat → Int32} {a1 : Int32} {a2 : Int32} {P : Int32 → ((Nat → Nat → Int32)) → Prop} (hw : g_Mo_setLit I A a1 a2 P) : ∀ sz, Met l y_Mo_setLit (WL y_Mo_setLit c_Mo_setLit 4 (some .boolean)) { frames := 0, cells := 0, slots := 0, locals := 0 } (va_Pc [.ref (ad 0), .int a1, .int a2] (PreW D cy (wM cy ad I A) sz)) (va_Qi P (fun u t => PostW D (va_A (wM cy ad I A) sz) ((fun u => wM cy ad I u) u) t) (va_A (wM cy ad I A) sz)) 0 0 (va_A (wM cy ad I A) sz) := by
  refine met_i (wf := fun u => wM cy ad I u) R_Mo .boolean db_Mo_setLit (by decide) rfl rfl (by decide) ?_
  intro p e s m below meth c Z Q ls C h hl hret
  have hl : lv_has ls 4 [(0, .ref (ad 0)), (1, .int a1), (2, .int a2)] := hl
  refine i_aload_n C 0 rfl rfl rfl hl 0 rfl ?_
  refine fgM_Mo_34 C 1 rfl rfl h ?_
  refine i_iload_n C 2 rfl rfl rfl hl 1 rfl ?_
  obtain ⟨hb, hw⟩ := hw
  refine i_zald C 3 rfl rfl h (wM_arr 8 (by decide) rfl) hb ?_
  refine i_iload_n C 4 rfl rfl rfl hl 2 rfl ?_
  refine i_icmp_eq (tgt := 14) C 5 rfl rfl rfl (fun c1 => ?_) (fun c1 => ?_)
  · replace hw := hw.1 c1
    refine i_iconst (v := (0 : Int32)) C 8 rfl rfl rfl ?_
    exact e_Mo_setLit_15 C hret  A (0 : Int32) ls _ _ hl h hw
  · replace hw := hw.2 c1
    refine i_iconst (v := (1 : Int32)) C 6 rfl rfl rfl ?_
    refine i_goto (tgt := 15) C 7 rfl rfl ?_
    exact e_Mo_setLit_15 C hret  A (1 : Int32) ls _ _ hl h hw
end S195
