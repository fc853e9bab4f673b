section S201
variable {p : Program} {l : Launch} {e : Env} {R : Room} {s : State} {m : MethodId} {args : Array Value} {below : List Frame} {meth : Method} {c : Code} {H : Heap} {locs : List Loc} {cells slots : Nat} {Q : State → Prop}
variable {cc : ByteArray} {pc n nL : Nat} {ls : Array Slot} {rest : List Value} {D : va_G} {cy : Nat → ClassId} {Z : Nat → Prop} {ad : Nat → Nat} {tb : List (Nat × Instr × Nat)} {lv : List (Nat × Value)}
set_option maxHeartbeats 4000000 in
set_option maxRecDepth 100000 in
theorem e_Mo_setLit_42 {I : Nat → Int32} {a1 : Int32} {a2 : Int32} {P : Int32 → ((Nat → Nat → Int32)) → Prop}  (C : CX D cy R_Mo c_Mo_setLit tb_Mo_setLit 4 p s m args c Z) (hret : RetI p l e { frames := 0, cells := 0, slots := 0, locals := 0 } s m args below meth c c_Mo_setLit .boolean D Z Q (fun (u : (Nat → Nat → Int32)) => wM cy ad I u) P 0 0) :
    ∀ (A : Nat → Nat → Int32) (x3 : Int32) (s1 : Int32) (s2 : Int32) (ls : Array Slot) (H : Heap) (locs : List Loc), lv_has ls 4 [(0, .ref (ad 0)), (1, .int a1), (2, .int a2), (3, .int x3)] → HXw D Z s.heap H locs (wM cy ad I A) → g_Mo_setLit_42 I a1 a2 P  A x3 s1 s2 → W p l e { frames := 0, cells := 0, slots := 0, locals := 0 } s m args below meth c H locs 0 0 Q (F0 m 42 ls [.int s2, .int s1, .ref (ad 10)]) := by
  intro A x3 s1 s2 ls H locs hl h hw
  obtain ⟨hb, hw⟩ := hw
  refine i_iast (n := 43) C 24 rfl rfl h (wM_arr 9 (by decide) rfl) hb (wM_sA 9 (by decide) rfl _ _) (fun H locs h => ?_)
  refine i_aload_n (n := 44) C 25 rfl rfl rfl hl 0 rfl ?_
  refine fgM_Mo_34 (n := 47) C 26 rfl rfl h ?_
  refine i_iload_n (n := 48) C 27 rfl rfl rfl hl 1 rfl ?_
  refine i_iload_n (n := 49) C 28 rfl rfl rfl hl 2 rfl ?_
  obtain ⟨hb, hw⟩ := hw
  refine i_zast (n := 50) C 29 rfl rfl h (wM_arr 8 (by decide) rfl) hb (wM_sA 8 (by decide) rfl _ _) (fun H locs h => ?_)
  refine i_iload_n (n := 51) C 30 rfl rfl rfl hl 3 rfl ?_
  obtain ⟨hB, hw⟩ := hw
  exact hret _ (sA (sA A 9 s1 s2) 8 a1 (vp_nar .boolean a2)) _ _ _ _ hB.nar hw h (C.dg (k := 31) rfl)
set_option maxHeartbeats 4000000 in
set_option maxRecDepth 100000 in
theorem e_Mo_setLit_36 {I : Nat → Int32} {a1 : Int32} {a2 : Int32} {P : Int32 → ((Nat → Nat → Int32)) → Prop}  (C : CX D cy R_Mo c_Mo_setLit tb_Mo_setLit 4 p s m args c Z) (hret : RetI p l e { frames := 0, cells := 0, slots := 0, locals := 0 } s m args below meth c c_Mo_setLit .boolean D Z Q (fun (u : (Nat → Nat → Int32)) => wM cy ad I u) P 0 0) :
    ∀ (A : Nat → Nat → Int32) (x3 : Int32) (s1 : Int32) (ls : Array Slot) (H : Heap) (locs : List Loc), lv_has ls 4 [(0, .ref (ad 0)), (1, .int a1), (2, .int a2), (3, .int x3)] → HXw D Z s.heap H locs (wM cy ad I A) → g_Mo_setLit_36 I a1 a2 P  A x3 s1 → W p l e { frames := 0, cells := 0, slots := 0, locals := 0 } s m args below meth c H locs 0 0 Q (F0 m 36 ls [.int s1, .ref (ad 10)]) := by
  intro A x3 s1 ls H locs hl h hw
  refine i_aload_n (n := 37) C 20 rfl rfl rfl hl 0 rfl ?_
  refine fgM_Mo_38 (n := 40) C 21 rfl rfl h ?_
  refine i_iload_n (n := 41) C 22 rfl rfl rfl hl 1 rfl ?_
  obtain ⟨hb, hw⟩ := hw
  refine i_iald (n := 42) C 23 rfl rfl h (wM_arr 9 (by decide) rfl) hb ?_
  exact e_Mo_setLit_42 C hret  A x3 s1 (A 9 a1.toNatClampNeg) ls _ _ hl h hw
set_option maxHeartbeats 4000000 in
set_option maxRecDepth 100000 in
theorem e_Mo_setLit_15 {I : Nat → Int32} {a1 : Int32} {a2 : Int32} {P : Int32 → ((Nat → Nat → Int32)) → Prop}  (C : CX D cy R_Mo c_Mo_setLit tb_Mo_setLit 4 p s m args c Z) (hret : RetI p l e { frames := 0, cells := 0, slots := 0, locals := 0 } s m args below meth c c_Mo_setLit .boolean D Z Q (fun (u : (Nat → Nat → Int32)) => wM cy ad I u) P 0 0) :
    ∀ (A : Nat → Nat → Int32) (s0 : Int32) (ls : Array Slot) (H : Heap) (locs : List Loc), lv_has ls 4 [(0, .ref (ad 0)), (1, .int a1), (2, .int a2)] → HXw D Z s.heap H locs (wM cy ad I A) → g_Mo_setLit_15 I a1 a2 P  A s0 → W p l e { frames := 0, cells := 0, slots := 0, locals := 0 } s m args below meth c H locs 0 0 Q (F0 m 15 ls [.int s0]) := by
  intro A s0 ls H locs hl h hw
  refine i_istore_n (lv' := [(3, .int s0), (0, .ref (ad 0)), (1, .int a1), (2, .int a2)]) (n := 16) C 9 rfl rfl rfl hl (by decide) rfl (fun ls hl => ?_)
  refine i_aload_n (n := 17) C 10 rfl rfl rfl hl 1 rfl ?_
  refine fgM_Mo_38 (n := 20) C 11 rfl rfl h ?_
  refine i_iload_n (n := 21) C 12 rfl rfl rfl hl 2 rfl ?_
  refine i_iload_n (n := 22) C 13 rfl rfl rfl hl 3 rfl ?_
  refine i_if_eq (tgt := 36) (n := 25) C 14 rfl rfl rfl (fun c2 => ?_) (fun c2 => ?_)
  · replace hw := hw.1 c2
    exact e_Mo_setLit_36 C hret  A s0 a1 ls _ _ (lv_sub hl [1, 2, 3, 0] rfl) h hw
  · replace hw := hw.2 c2
    refine i_iload_n (n := 26) C 15 rfl rfl rfl hl 0 rfl ?_
    refine i_if_eq (tgt := 36) (n := 29) C 16 rfl rfl rfl (fun c3 => ?_) (fun c3 => ?_)
    · replace hw := hw.1 c3
      exact e_Mo_setLit_36 C hret  A s0 a1 ls _ _ (lv_sub hl [1, 2, 3, 0] rfl) h hw
    · replace hw := hw.2 c3
      refine i_aload_n (n := 30) C 17 rfl rfl rfl hl 1 rfl ?_
      refine fgM_Mo_165 (n := 33) C 18 rfl rfl h ?_
      refine i_goto (tgt := 42) C 19 rfl rfl ?_
      exact e_Mo_setLit_42 C hret  A s0 a1 (I 3) ls _ _ (lv_sub hl [1, 2, 3, 0] rfl) h hw
set_option maxHeartbeats 4000000 in
set_option maxRecDepth 100000 in
theorem m_Mo_setLit {l : Launch} {D : va_G} {cy : Nat → ClassId} {ad : Nat → Nat} {I : Nat → Int32} {A : Nat → Nat → Int32} {a1 : Int32} {a2 : Int32} {P : Int32 → ((Nat → Nat → Int32)) → Prop} (hw : g_Mo_setLit I A a1 a2 P) : ∀ sz, Met l y_Mo_setLit (WL y_Mo_setLit c_Mo_setLit 4 (some .boolean)) { frames := 0, cells := 0, slots := 0, locals := 0 } (va_Pc [.ref (ad 0), .int a1, .int a2] (PreW D cy (wM cy ad I A) sz)) (va_Qi P (fun u t => PostW D (va_A (wM cy ad I A) sz) ((fun (u : (Nat → Nat → Int32)) => wM cy ad I u) u) t) (va_A (wM cy ad I A) sz)) 0 0 (va_A (wM cy ad I A) sz) := by
  refine met_i (wf := fun (u : (Nat → Nat → Int32)) => wM cy ad I u) R_Mo .boolean db_Mo_setLit (by decide) rfl rfl (Nat.le_of_ble_eq_true rfl) ?_
  intro p e s m below meth c Z Q ls C h hl hret
  have hl : lv_has ls 4 [(0, .ref (ad 0)), (1, .int a1), (2, .int a2)] := hl
  refine i_aload_n (n := 1) C 0 rfl rfl rfl hl 0 rfl ?_
  refine fgM_Mo_34 (n := 4) C 1 rfl rfl h ?_
  refine i_iload_n (n := 5) C 2 rfl rfl rfl hl 1 rfl ?_
  obtain ⟨hb, hw⟩ := hw
  refine i_zald (n := 6) C 3 rfl rfl h (wM_arr 8 (by decide) rfl) hb ?_
  refine i_iload_n (n := 7) C 4 rfl rfl rfl hl 2 rfl ?_
  refine i_icmp_eq (tgt := 14) (n := 10) C 5 rfl rfl rfl (fun c1 => ?_) (fun c1 => ?_)
  · replace hw := hw.1 c1
    refine i_iconst (v := (0 : Int32)) (n := 15) C 8 rfl rfl rfl ?_
    exact e_Mo_setLit_15 C hret  A (0 : Int32) ls _ _ hl h hw
  · replace hw := hw.2 c1
    refine i_iconst (v := (1 : Int32)) (n := 11) C 6 rfl rfl rfl ?_
    refine i_goto (tgt := 15) C 7 rfl rfl ?_
    exact e_Mo_setLit_15 C hret  A (1 : Int32) ls _ _ hl h hw
end S201
theorem kV_Mo_177 {R : Room} {s : State} {args : Array Value} (hR : 0 + 1 ≤ R.frames ∧ 8 + (4 + 11) + 0 ≤ R.locals) (ht : ∀ w ∈ GW, w.before args s = true) : CallW R s args R_Mo R_Mo 177 y_Mo_setLit c_Mo_setLit 4 (some .boolean) (WL y_Mo_setLit c_Mo_setLit 4 (some .boolean)) { frames := 0, cells := 0, slots := 0, locals := 0 } 0 0 2 := cwV 2 ht (GW_v w_6_127 w_6_129 w_0_38 w_1_7 (GW_wl w_6_130)) rfl rfl rfl (by decide +kernel) hR
section S202
variable {p : Program} {l : Launch} {e : Env} {R : Room} {s : State} {m : MethodId} {args : Array Value} {below : List Frame} {meth : Method} {c : Code} {H : Heap} {locs : List Loc} {cells slots : Nat} {Q : State → Prop}
variable {cc : ByteArray} {pc n nL : Nat} {ls : Array Slot} {rest : List Value} {D : va_G} {cy : Nat → ClassId} {Z : Nat → Prop} {ad : Nat → Nat} {tb : List (Nat × Instr × Nat)} {lv : List (Nat × Value)}
set_option maxHeartbeats 4000000 in
set_option maxRecDepth 100000 in
theorem m_Mo_light {l : Launch} {D : va_G} {cy : Nat → ClassId} {ad : Nat → Nat} {I : Nat → Int32} {A : Nat → Nat → Int32} {a1 : Int32} {a2 : Int32} {P : Int32 → ((Nat → Nat → Int32)) → Prop} (hw : g_Mo_light I A a1 a2 P) : ∀ sz, Met l y_Mo_light (WL y_Mo_light c_Mo_light 3 (some .int)) { frames := 2, cells := 0, slots := 0, locals := 43 } (va_Pc [.ref (ad 0), .int a1, .int a2] (PreW D cy (wM cy ad I A) sz)) (va_Qi P (fun u t => PostW D (va_A (wM cy ad I A) sz) ((fun (u : (Nat → Nat → Int32)) => wM cy ad I u) u) t) (va_A (wM cy ad I A) sz)) 0 0 (va_A (wM cy ad I A) sz) := by
  refine met_i (wf := fun (u : (Nat → Nat → Int32)) => wM cy ad I u) R_Mo .int db_Mo_light (by decide) rfl rfl (Nat.le_of_ble_eq_true rfl) ?_
  intro p e s m below meth c Z Q ls C h hl hret
  have hl : lv_has ls 3 [(0, .ref (ad 0)), (1, .int a1), (2, .int a2)] := hl
  refine i_aload_n (n := 1) C 0 rfl rfl rfl hl 0 rfl ?_
  refine i_iload_n (n := 2) C 1 rfl rfl rfl hl 1 rfl ?_
  refine i_callVp (rest := []) (ci := 11) (qc := (R_Mo, T_Mo, 50)) (n := 5) C 2 rfl rfl hl h rfl (wM_get (h := 0) (by decide)) (kV_Mo_136 ⟨by decide, by decide⟩) (m_Mo_isNode hw) rfl rfl (Nat.le_of_ble_eq_true rfl) ⟨by decide, by decide⟩ (fun r1 hw => ?_)
  refine i_if_ne (tgt := 10) (n := 8) C 3 rfl rfl rfl (fun c2 => ?_) (fun c2 => ?_)
  · replace hw := hw.1 c2
    refine i_aload_n (n := 11) C 6 rfl rfl rfl hl 0 rfl ?_
    refine fgM_Mo_16 (n := 14) C 7 rfl rfl h ?_
    refine i_iload_n (n := 15) C 8 rfl rfl rfl hl 1 rfl ?_
    obtain ⟨hb, hw⟩ := hw
    refine i_iald (n := 16) C 9 rfl rfl h (wM_arr 2 (by decide) rfl) hb ?_
    refine i_iconst (v := (5 : Int32)) (n := 17) C 10 rfl rfl rfl ?_
    refine i_icmp_eq (tgt := 23) (n := 20) C 11 rfl rfl rfl (fun c3 => ?_) (fun c3 => ?_)
    · replace hw := hw.1 c3
      refine i_aload_n (n := 24) C 14 rfl rfl rfl hl 0 rfl ?_
      refine i_iload_n (n := 25) C 15 rfl rfl rfl hl 1 rfl ?_
      refine i_iload_n (n := 26) C 16 rfl rfl rfl hl 2 rfl ?_
      refine i_callVi (rest := []) (ci := 11) (qc := (R_Mo, T_Mo, 50)) (n := 29) C 17 rfl rfl hl h rfl (wM_get (h := 0) (by decide)) (kV_Mo_177 ⟨by decide, by decide⟩) (m_Mo_setLit hw) rfl rfl (Nat.le_of_ble_eq_true rfl) ⟨by decide, by decide⟩ (fun r4 u5 H locs hw h => ?_)
      refine i_iload_n (n := 30) C 18 rfl rfl rfl hl 2 rfl ?_
      refine i_icmp_ne (tgt := 37) (n := 33) C 19 rfl rfl rfl (fun c6 => ?_) (fun c6 => ?_)
      · replace hw := hw.1 c6
        refine i_iconst (v := (1 : Int32)) (n := 38) C 22 rfl rfl rfl ?_
        exact hret _ u5 _ _ _ _ rfl hw h (C.dg (k := 23) rfl)
      · replace hw := hw.2 c6
        refine i_iconst (v := (0 : Int32)) (n := 34) C 20 rfl rfl rfl ?_
        refine i_goto (tgt := 38) C 21 rfl rfl ?_
        exact hret _ u5 _ _ _ _ rfl hw h (C.dg (k := 23) rfl)
    · replace hw := hw.2 c3
      refine i_bipush (v := (-3 : Int32)) (n := 22) C 12 rfl rfl rfl ?_
      exact hret _ A _ _ _ _ rfl hw h (C.dg (k := 13) rfl)
  · replace hw := hw.2 c2
    refine i_iconst (v := (-1 : Int32)) (n := 9) C 4 rfl rfl rfl ?_
    exact hret _ A _ _ _ _ rfl hw h (C.dg (k := 5) rfl)
end S202
section S203
variable {p : Program} {l : Launch} {e : Env} {R : Room} {s : State} {m : MethodId} {args : Array Value} {below : List Frame} {meth : Method} {c : Code} {H : Heap} {locs : List Loc} {cells slots : Nat} {Q : State → Prop}
variable {cc : ByteArray} {pc n nL : Nat} {ls : Array Slot} {rest : List Value} {D : va_G} {cy : Nat → ClassId} {Z : Nat → Prop} {ad : Nat → Nat} {tb : List (Nat × Instr × Nat)} {lv : List (Nat × Value)}
set_option maxHeartbeats 4000000 in
set_option maxRecDepth 100000 in
theorem e_Mo_found_38 {I : Nat → Int32} {a1 : Int32} {P : Int32 → ((Nat → Nat → Int32)) → Prop}  (C : CX D cy R_Mo c_Mo_found tb_Mo_found 3 p s m args c Z) (hret : RetI p l e { frames := 2, cells := 0, slots := 0, locals := 43 } s m args below meth c c_Mo_found .int D Z Q (fun (u : (Nat → Nat → Int32)) => wM cy ad I u) P 0 0) :
    ∀ (A : Nat → Nat → Int32) (s0 : Int32) (ls : Array Slot) (H : Heap) (locs : List Loc), lv_has ls 3 [(0, .ref (ad 0)), (1, .int a1)] → HXw D Z s.heap H locs (wM cy ad I A) → g_Mo_found_38 I a1 P  A s0 → W p l e { frames := 2, cells := 0, slots := 0, locals := 43 } s m args below meth c H locs 0 0 Q (F0 m 38 ls [.int s0]) := by
  intro A s0 ls H locs hl h hw
  refine i_istore_n (lv' := [(2, .int s0), (0, .ref (ad 0)), (1, .int a1)]) (n := 39) C 22 rfl rfl rfl hl (by decide) rfl (fun ls hl => ?_)
  refine i_aload_n (n := 40) C 23 rfl rfl rfl hl 1 rfl ?_
  refine fgM_Mo_34 (n := 43) C 24 rfl rfl h ?_
  refine i_iload_n (n := 44) C 25 rfl rfl rfl hl 2 rfl ?_
  refine i_iconst (v := (1 : Int32)) (n := 45) C 26 rfl rfl rfl ?_
  obtain ⟨hb, hw⟩ := hw
  refine i_zast (n := 46) C 27 rfl rfl h (wM_arr 8 (by decide) rfl) hb (wM_sA 8 (by decide) rfl _ _) (fun H locs h => ?_)
  refine i_iconst (v := (1 : Int32)) (n := 47) C 28 rfl rfl rfl ?_
  refine i_iload_n (n := 48) C 29 rfl rfl rfl hl 0 rfl ?_
  refine i_isub (n := 49) C 30 rfl rfl ?_
  exact hret _ (sA A 8 a1 (vp_nar .boolean (1 : Int32))) _ _ _ _ rfl hw h (C.dg (k := 31) rfl)
set_option maxHeartbeats 4000000 in
set_option maxRecDepth 100000 in
theorem m_Mo_found {l : Launch} {D : va_G} {cy : Nat → ClassId} {ad : Nat → Nat} {I : Nat → Int32} {A : Nat → Nat → Int32} {a1 : Int32} {P : Int32 → ((Nat → Nat → Int32)) → Prop} (hw : g_Mo_found I A a1 P) : ∀ sz, Met l y_Mo_found (WL y_Mo_found c_Mo_found 3 (some .int)) { frames := 2, cells := 0, slots := 0, locals := 43 } (va_Pc [.ref (ad 0), .int a1] (PreW D cy (wM cy ad I A) sz)) (va_Qi P (fun u t => PostW D (va_A (wM cy ad I A) sz) ((fun (u : (Nat → Nat → Int32)) => wM cy ad I u) u) t) (va_A (wM cy ad I A) sz)) 0 0 (va_A (wM cy ad I A) sz) := by
  refine met_i (wf := fun (u : (Nat → Nat → Int32)) => wM cy ad I u) R_Mo .int db_Mo_found (by decide) rfl rfl (Nat.le_of_ble_eq_true rfl) ?_
  intro p e s m below meth c Z Q ls C h hl hret
  have hl : lv_has ls 3 [(0, .ref (ad 0)), (1, .int a1)] := hl
  refine i_aload_n (n := 1) C 0 rfl rfl rfl hl 0 rfl ?_
  refine i_iload_n (n := 2) C 1 rfl rfl rfl hl 1 rfl ?_
  refine i_callVp (rest := []) (ci := 11) (qc := (R_Mo, T_Mo, 50)) (n := 5) C 2 rfl rfl hl h rfl (wM_get (h := 0) (by decide)) (kV_Mo_136 ⟨by decide, by decide⟩) (m_Mo_isNode hw) rfl rfl (Nat.le_of_ble_eq_true rfl) ⟨by decide, by decide⟩ (fun r1 hw => ?_)
  refine i_if_ne (tgt := 10) (n := 8) C 3 rfl rfl rfl (fun c2 => ?_) (fun c2 => ?_)
  · replace hw := hw.1 c2
    refine i_aload_n (n := 11) C 6 rfl rfl rfl hl 0 rfl ?_
    refine fgM_Mo_16 (n := 14) C 7 rfl rfl h ?_
    refine i_iload_n (n := 15) C 8 rfl rfl rfl hl 1 rfl ?_
    obtain ⟨hb, hw⟩ := hw
    refine i_iald (n := 16) C 9 rfl rfl h (wM_arr 2 (by decide) rfl) hb ?_
    refine i_bipush (v := (7 : Int32)) (n := 18) C 10 rfl rfl rfl ?_
    refine i_icmp_eq (tgt := 24) (n := 21) C 11 rfl rfl rfl (fun c3 => ?_) (fun c3 => ?_)
    · replace hw := hw.1 c3
      refine i_aload_n (n := 25) C 14 rfl rfl rfl hl 0 rfl ?_
      refine fgM_Mo_34 (n := 28) C 15 rfl rfl h ?_
      refine i_iload_n (n := 29) C 16 rfl rfl rfl hl 1 rfl ?_
      obtain ⟨hb, hw⟩ := hw
      refine i_zald (n := 30) C 17 rfl rfl h (wM_arr 8 (by decide) rfl) hb ?_
      refine i_if_eq (tgt := 37) (n := 33) C 18 rfl rfl rfl (fun c4 => ?_) (fun c4 => ?_)
      · replace hw := hw.1 c4
        refine i_iconst (v := (0 : Int32)) (n := 38) C 21 rfl rfl rfl ?_
        exact e_Mo_found_38 C hret  A (0 : Int32) ls _ _ hl h hw
      · replace hw := hw.2 c4
        refine i_iconst (v := (1 : Int32)) (n := 34) C 19 rfl rfl rfl ?_
        refine i_goto (tgt := 38) C 20 rfl rfl ?_
        exact e_Mo_found_38 C hret  A (1 : Int32) ls _ _ hl h hw
    · replace hw := hw.2 c3
      refine i_bipush (v := (-3 : Int32)) (n := 23) C 12 rfl rfl rfl ?_
      exact hret _ A _ _ _ _ rfl hw h (C.dg (k := 13) rfl)
  · replace hw := hw.2 c2
    refine i_iconst (v := (-1 : Int32)) (n := 9) C 4 rfl rfl rfl ?_
    exact hret _ A _ _ _ _ rfl hw h (C.dg (k := 5) rfl)
end S203
section S204
variable {p : Program} {l : Launch} {e : Env} {R : Room} {s : State} {m : MethodId} {args : Array Value} {below : List Frame} {meth : Method} {c : Code} {H : Heap} {locs : List Loc} {cells slots : Nat} {Q : State → Prop}
variable {cc : ByteArray} {pc n nL : Nat} {ls : Array Slot} {rest : List Value} {D : va_G} {cy : Nat → ClassId} {Z : Nat → Prop} {ad : Nat → Nat} {tb : List (Nat × Instr × Nat)} {lv : List (Nat × Value)}
set_option maxHeartbeats 4000000 in
set_option maxRecDepth 100000 in
theorem e_Mo_headBy_101 {I : Nat → Int32} {A : Nat → Nat → Int32} {a1 : Int32} {P : Int32 → Prop} {kb7 : Int32 → Int32 → Int32 → Prop} (C : CX D cy R_Mo c_Mo_headBy tb_Mo_headBy 6 p s m args c Z) (h : HXw D Z s.heap H locs (wM cy ad I A)) (hret : RetP p l e { frames := 2, cells := 0, slots := 0, locals := 46 } s m args below meth c c_Mo_headBy .int H locs Q P)
    (hb7 : ∀ (x2 : Int32) (x3 : Int32) (x4 : Int32) (ls : Array Slot), lv_has ls 6 [(0, .ref (ad 0)), (1, .int a1), (2, .int x2), (3, .int x3), (4, .int x4)] → kb7 x2 x3 x4 → W p l e { frames := 2, cells := 0, slots := 0, locals := 46 } s m args below meth c H locs 0 0 Q (F0 m 7 ls [])) :
    ∀ (x2 : Int32) (x3 : Int32) (x4 : Int32) (ls : Array Slot), lv_has ls 6 [(0, .ref (ad 0)), (1, .int a1), (2, .int x2), (3, .int x3), (4, .int x4)] → g_Mo_headBy_101 I A a1 P kb7 x2 x3 x4 → W p l e { frames := 2, cells := 0, slots := 0, locals := 46 } s m args below meth c H locs 0 0 Q (F0 m 101 ls []) := by
  intro x2 x3 x4 ls hl hw
  refine i_iinc (v := x4 + (1 : Int32)) (lv' := [(4, .int (x4 + (1 : Int32))), (0, .ref (ad 0)), (1, .int a1), (2, .int x2), (3, .int x3)]) (n := 104) C 59 rfl rfl hl 4 rfl rfl (by decide) rfl (fun ls hl => ?_)
  refine i_goto (tgt := 7) C 60 rfl rfl ?_
  exact hb7 x2 x3 (x4 + (1 : Int32)) ls (lv_sub hl [1, 2, 3, 4, 0] rfl) hw
set_option maxHeartbeats 4000000 in
set_option maxRecDepth 100000 in
theorem e_Mo_headBy_87 {I : Nat → Int32} {A : Nat → Nat → Int32} {a1 : Int32} {P : Int32 → Prop} {kb7 : Int32 → Int32 → Int32 → Prop} (C : CX D cy R_Mo c_Mo_headBy tb_Mo_headBy 6 p s m args c Z) (h : HXw D Z s.heap H locs (wM cy ad I A)) (hret : RetP p l e { frames := 2, cells := 0, slots := 0, locals := 46 } s m args below meth c c_Mo_headBy .int H locs Q P)
    (hb7 : ∀ (x2 : Int32) (x3 : Int32) (x4 : Int32) (ls : Array Slot), lv_has ls 6 [(0, .ref (ad 0)), (1, .int a1), (2, .int x2), (3, .int x3), (4, .int x4)] → kb7 x2 x3 x4 → W p l e { frames := 2, cells := 0, slots := 0, locals := 46 } s m args below meth c H locs 0 0 Q (F0 m 7 ls [])) :
    ∀ (x3 : Int32) (x4 : Int32) (s0 : Int32) (s1 : Int32) (s3 : Int32) (ls : Array Slot), lv_has ls 6 [(0, .ref (ad 0)), (1, .int a1), (3, .int x3), (4, .int x4)] → g_Mo_headBy_87 I A a1 P kb7 x3 x4 s0 s1 s3 → W p l e { frames := 2, cells := 0, slots := 0, locals := 46 } s m args below meth c H locs 0 0 Q (F0 m 87 ls [.int s3, .ref (ad 14), .int s1, .int s0]) := by
  intro x3 x4 s0 s1 s3 ls hl hw
  obtain ⟨hb, hw⟩ := hw
  refine i_iald (n := 88) C 48 rfl rfl h (wM_arr 13 (by decide) rfl) hb ?_
  refine i_imul (n := 89) C 49 rfl rfl ?_
  refine i_iadd (n := 90) C 50 rfl rfl ?_
  refine lv_topi (fun y6 ey6 => ?_)
  replace hw := hw y6 ey6
  refine i_istore_n (lv' := [(2, .int y6), (0, .ref (ad 0)), (1, .int a1), (3, .int x3), (4, .int x4)]) (n := 91) C 51 rfl rfl rfl hl (by decide) rfl (fun ls hl => ?_)
  refine i_iload_n (n := 92) C 52 rfl rfl rfl hl 3 rfl ?_
  refine i_aload_n (n := 93) C 53 rfl rfl rfl hl 1 rfl ?_
  refine fgM_Mo_59 (n := 96) C 54 rfl rfl h ?_
  refine i_iload (n := 98) C 55 rfl rfl hl 4 rfl ?_
  obtain ⟨hb, hw⟩ := hw
  refine i_iald (n := 99) C 56 rfl rfl h (wM_arr 16 (by decide) rfl) hb ?_
  refine i_iadd (n := 100) C 57 rfl rfl ?_
  refine lv_topi (fun y7 ey7 => ?_)
  replace hw := hw y7 ey7
  refine i_istore_n (lv' := [(3, .int y7), (2, .int y6), (0, .ref (ad 0)), (1, .int a1), (4, .int x4)]) (n := 101) C 58 rfl rfl rfl hl (by decide) rfl (fun ls hl => ?_)
  exact e_Mo_headBy_101 C h hret hb7 y6 y7 x4 ls (lv_sub hl [2, 3, 1, 0, 4] rfl) hw
set_option maxHeartbeats 4000000 in
set_option maxRecDepth 100000 in
theorem e_Mo_headBy_38 {I : Nat → Int32} {A : Nat → Nat → Int32} {a1 : Int32} {P : Int32 → Prop} {kb7 : Int32 → Int32 → Int32 → Prop} (C : CX D cy R_Mo c_Mo_headBy tb_Mo_headBy 6 p s m args c Z) (h : HXw D Z s.heap H locs (wM cy ad I A)) (hret : RetP p l e { frames := 2, cells := 0, slots := 0, locals := 46 } s m args below meth c c_Mo_headBy .int H locs Q P)
    (hb7 : ∀ (x2 : Int32) (x3 : Int32) (x4 : Int32) (ls : Array Slot), lv_has ls 6 [(0, .ref (ad 0)), (1, .int a1), (2, .int x2), (3, .int x3), (4, .int x4)] → kb7 x2 x3 x4 → W p l e { frames := 2, cells := 0, slots := 0, locals := 46 } s m args below meth c H locs 0 0 Q (F0 m 7 ls [])) :
    ∀ (x2 : Int32) (x3 : Int32) (x4 : Int32) (ls : Array Slot), lv_has ls 6 [(0, .ref (ad 0)), (1, .int a1), (2, .int x2), (3, .int x3), (4, .int x4)] → g_Mo_headBy_38 I A a1 P kb7 x2 x3 x4 → W p l e { frames := 2, cells := 0, slots := 0, locals := 46 } s m args below meth c H locs 0 0 Q (F0 m 38 ls []) := by
  intro x2 x3 x4 ls hl hw
  refine i_aload_n (n := 39) C 22 rfl rfl rfl hl 0 rfl ?_
  refine i_iload (n := 41) C 23 rfl rfl hl 4 rfl ?_
  refine i_callVp (rest := []) (ci := 11) (qc := (R_Mo, T_Mo, 50)) (n := 44) C 24 rfl rfl hl h rfl (wM_get (h := 0) (by decide)) (kV_Mo_153 ⟨by decide, by decide⟩) (m_Mo_isOpen hw) rfl rfl (Nat.le_of_ble_eq_true rfl) ⟨by decide, by decide⟩ (fun r3 hw => ?_)
  refine i_if_eq (tgt := 101) (n := 47) C 25 rfl rfl rfl (fun c4 => ?_) (fun c4 => ?_)
  · replace hw := hw.1 c4
    exact e_Mo_headBy_101 C h hret hb7 x2 x3 x4 ls hl hw
  · replace hw := hw.2 c4
    refine i_iload_n (n := 48) C 26 rfl rfl rfl hl 2 rfl ?_
    refine i_aload_n (n := 49) C 27 rfl rfl rfl hl 0 rfl ?_
    refine fgM_Mo_59 (n := 52) C 28 rfl rfl h ?_
    refine i_iload (n := 54) C 29 rfl rfl hl 4 rfl ?_
    obtain ⟨hb, hw⟩ := hw
    refine i_iald (n := 55) C 30 rfl rfl h (wM_arr 16 (by decide) rfl) hb ?_
    refine i_aload_n (n := 56) C 31 rfl rfl rfl hl 0 rfl ?_
    refine fgM_Mo_50 (n := 59) C 32 rfl rfl h ?_
    refine i_aload_n (n := 60) C 33 rfl rfl rfl hl 0 rfl ?_
    refine fgM_Mo_53 (n := 63) C 34 rfl rfl h ?_
    refine i_iload (n := 65) C 35 rfl rfl hl 4 rfl ?_
    obtain ⟨hb, hw⟩ := hw
    refine i_iald (n := 66) C 36 rfl rfl h (wM_arr 14 (by decide) rfl) hb ?_
    refine i_iload_n (n := 67) C 37 rfl rfl rfl hl 1 rfl ?_
    refine i_icmp_ne (tgt := 80) (n := 70) C 38 rfl rfl rfl (fun c5 => ?_) (fun c5 => ?_)
    · replace hw := hw.1 c5
      refine i_aload_n (n := 81) C 44 rfl rfl rfl hl 0 rfl ?_
      refine fgM_Mo_53 (n := 84) C 45 rfl rfl h ?_
      refine i_iload (n := 86) C 46 rfl rfl hl 4 rfl ?_
      obtain ⟨hb, hw⟩ := hw
      refine i_iald (n := 87) C 47 rfl rfl h (wM_arr 14 (by decide) rfl) hb ?_
      exact e_Mo_headBy_87 C h hret hb7 x3 x4 x2 (A 16 x4.toNatClampNeg) (A 14 x4.toNatClampNeg) ls (lv_sub hl [0, 1, 3, 4] rfl) hw
    · replace hw := hw.2 c5
      refine i_aload_n (n := 71) C 39 rfl rfl rfl hl 0 rfl ?_
      refine fgM_Mo_56 (n := 74) C 40 rfl rfl h ?_
      refine i_iload (n := 76) C 41 rfl rfl hl 4 rfl ?_
      obtain ⟨hb, hw⟩ := hw
      refine i_iald (n := 77) C 42 rfl rfl h (wM_arr 15 (by decide) rfl) hb ?_
      refine i_goto (tgt := 87) C 43 rfl rfl ?_
      exact e_Mo_headBy_87 C h hret hb7 x3 x4 x2 (A 16 x4.toNatClampNeg) (A 15 x4.toNatClampNeg) ls (lv_sub hl [0, 1, 3, 4] rfl) hw
set_option maxHeartbeats 4000000 in
set_option maxRecDepth 100000 in
theorem e_Mo_headBy_7 {I : Nat → Int32} {A : Nat → Nat → Int32} {a1 : Int32} {P : Int32 → Prop} {kx7 : Int32 → Int32 → Prop} (C : CX D cy R_Mo c_Mo_headBy tb_Mo_headBy 6 p s m args c Z) (h : HXw D Z s.heap H locs (wM cy ad I A)) (hret : RetP p l e { frames := 2, cells := 0, slots := 0, locals := 46 } s m args below meth c c_Mo_headBy .int H locs Q P)
    (hx7 : ∀ (x2 : Int32) (x3 : Int32) (ls : Array Slot), lv_has ls 6 [(0, .ref (ad 0)), (1, .int a1), (2, .int x2), (3, .int x3)] → kx7 x2 x3 → W p l e { frames := 2, cells := 0, slots := 0, locals := 46 } s m args below meth c H locs 0 0 Q (F0 m 107 ls [])) :
    ∀ (n : Nat) (x2 : Int32) (x3 : Int32) (x4 : Int32) (ls : Array Slot), lv_has ls 6 [(0, .ref (ad 0)), (1, .int a1), (2, .int x2), (3, .int x3), (4, .int x4)] → g_Mo_headBy_7 I A a1 P kx7 n x2 x3 x4 → W p l e { frames := 2, cells := 0, slots := 0, locals := 46 } s m args below meth c H locs 0 0 Q (F0 m 7 ls []) := by
  intro n
  induction n with
  | zero => intro x2 x3 x4 ls hl hw; exact hw.elim
  | succ n ih =>
    intro x2 x3 x4 ls hl hw
    refine i_iload (n := 9) C 6 rfl rfl hl 4 rfl ?_
    refine i_aload_n (n := 10) C 7 rfl rfl rfl hl 0 rfl ?_
    refine fgM_Mo_130 (n := 13) C 8 rfl rfl h ?_
    refine i_icmp_ge (tgt := 107) (n := 16) C 9 rfl rfl rfl (fun c1 => ?_) (fun c1 => ?_)
    · replace hw := hw.1 c1
      exact hx7 x2 x3 ls (lv_sub hl [0, 1, 2, 3] rfl) hw
    · replace hw := hw.2 c1
      refine i_aload_n (n := 17) C 10 rfl rfl rfl hl 0 rfl ?_
      refine fgM_Mo_53 (n := 20) C 11 rfl rfl h ?_
      refine i_iload (n := 22) C 12 rfl rfl hl 4 rfl ?_
      obtain ⟨hb, hw⟩ := hw
      refine i_iald (n := 23) C 13 rfl rfl h (wM_arr 14 (by decide) rfl) hb ?_
      refine i_iload_n (n := 24) C 14 rfl rfl rfl hl 1 rfl ?_
      refine i_icmp_eq (tgt := 38) (n := 27) C 15 rfl rfl rfl (fun c2 => ?_) (fun c2 => ?_)
      · replace hw := hw.1 c2
        exact e_Mo_headBy_38 C h hret ih x2 x3 x4 ls hl hw
      · replace hw := hw.2 c2
        refine i_aload_n (n := 28) C 16 rfl rfl rfl hl 0 rfl ?_
        refine fgM_Mo_56 (n := 31) C 17 rfl rfl h ?_
        refine i_iload (n := 33) C 18 rfl rfl hl 4 rfl ?_
        obtain ⟨hb, hw⟩ := hw
        refine i_iald (n := 34) C 19 rfl rfl h (wM_arr 15 (by decide) rfl) hb ?_
        refine i_iload_n (n := 35) C 20 rfl rfl rfl hl 1 rfl ?_
        refine i_icmp_ne (tgt := 101) (n := 38) C 21 rfl rfl rfl (fun c8 => ?_) (fun c8 => ?_)
        · replace hw := hw.1 c8
          exact e_Mo_headBy_101 C h hret ih x2 x3 x4 ls hl hw
        · replace hw := hw.2 c8
          exact e_Mo_headBy_38 C h hret ih x2 x3 x4 ls hl hw
set_option maxHeartbeats 4000000 in
set_option maxRecDepth 100000 in
theorem m_Mo_headBy {l : Launch} {D : va_G} {cy : Nat → ClassId} {ad : Nat → Nat} {I : Nat → Int32} {A : Nat → Nat → Int32} {a1 : Int32} {P : Int32 → Prop} (hw : g_Mo_headBy I A a1 P) : ∀ sz, Met l y_Mo_headBy (WL y_Mo_headBy c_Mo_headBy 6 (some .int)) { frames := 2, cells := 0, slots := 0, locals := 46 } (va_Pc [.ref (ad 0), .int a1] (PreW D cy (wM cy ad I A) sz)) (vp_Si P) 0 0 (fun _ => False) := by
  refine met_p R_Mo .int db_Mo_headBy (by decide) rfl rfl (Nat.le_of_ble_eq_true rfl) ?_
  intro p e s m below meth c Z Q ls C h hl hret
  have hl : lv_has ls 6 [(0, .ref (ad 0)), (1, .int a1)] := hl
  refine i_iconst (v := (0 : Int32)) (n := 1) C 0 rfl rfl rfl ?_
  refine i_istore_n (lv' := [(2, .int (0 : Int32)), (0, .ref (ad 0)), (1, .int a1)]) (n := 2) C 1 rfl rfl rfl hl (by decide) rfl (fun ls hl => ?_)
  refine i_iconst (v := (0 : Int32)) (n := 3) C 2 rfl rfl rfl ?_
  refine i_istore_n (lv' := [(3, .int (0 : Int32)), (2, .int (0 : Int32)), (0, .ref (ad 0)), (1, .int a1)]) (n := 4) C 3 rfl rfl rfl hl (by decide) rfl (fun ls hl => ?_)
  refine i_iconst (v := (0 : Int32)) (n := 5) C 4 rfl rfl rfl ?_
  refine i_istore (lv' := [(4, .int (0 : Int32)), (3, .int (0 : Int32)), (2, .int (0 : Int32)), (0, .ref (ad 0)), (1, .int a1)]) (n := 7) C 5 rfl rfl hl (by decide) rfl (fun ls hl => ?_)
  obtain ⟨n9, hw⟩ := hw
  refine e_Mo_headBy_7 C h hret (fun x2_9 x3_9 ls hl hw => ?_) n9 (0 : Int32) (0 : Int32) (0 : Int32) ls (lv_sub hl [3, 4, 2, 1, 0] rfl) hw
  have hl : lv_has ls 6 [(0, .ref (ad 0)), (1, .int a1), (2, .int x2_9), (3, .int x3_9)] := hl
  refine i_bipush (v := (10 : Int32)) (n := 109) C 61 rfl rfl rfl ?_
  refine i_aload_n (n := 110) C 62 rfl rfl rfl hl 0 rfl ?_
  refine fgM_Mo_7 (n := 113) C 63 rfl rfl h ?_
  refine i_iload_n (n := 114) C 64 rfl rfl rfl hl 1 rfl ?_
  obtain ⟨hb, hw⟩ := hw
  refine i_iald (n := 115) C 65 rfl rfl h (wM_arr 0 (by decide) rfl) hb ?_
  refine i_imul (n := 116) C 66 rfl rfl ?_
  refine lv_topi (fun y10 ey10 => ?_)
  replace hw := hw y10 ey10
  refine i_istore (lv' := [(4, .int y10), (0, .ref (ad 0)), (1, .int a1), (2, .int x2_9), (3, .int x3_9)]) (n := 118) C 67 rfl rfl hl (by decide) rfl (fun ls hl => ?_)
  refine i_iload_n (n := 119) C 68 rfl rfl rfl hl 4 rfl ?_
  refine i_if_ne (tgt := 125) (n := 122) C 69 rfl rfl rfl (fun c11 => ?_) (fun c11 => ?_)
  · replace hw := hw.1 c11
    refine i_iload_n (n := 126) C 72 rfl rfl rfl hl 3 rfl ?_
    refine i_sipush (v := (1000 : Int32)) (n := 129) C 73 rfl rfl rfl ?_
    refine i_aload_n (n := 130) C 74 rfl rfl rfl hl 1 rfl ?_
    refine i_iload_n (n := 131) C 75 rfl rfl rfl hl 2 rfl ?_
    refine i_callVp (rest := [.int (1000 : Int32), .int x2_9]) (ci := 11) (qc := (R_Mo, T_Mo, 50)) (n := 134) C 76 rfl rfl hl h rfl (wM_get (h := 0) (by decide)) (kV_Mo_171 ⟨by decide, by decide⟩) (m_Mo_takes hw) rfl rfl (Nat.le_of_ble_eq_true rfl) ⟨by decide, by decide⟩ (fun r12 hw => ?_)
    refine i_imul (n := 135) C 77 rfl rfl ?_
    refine i_isub (n := 136) C 78 rfl rfl ?_
    refine i_iload_n (n := 137) C 79 rfl rfl rfl hl 4 rfl ?_
    obtain ⟨hd, hw⟩ := hw
    refine i_idiv (n := 138) C 80 rfl rfl hd ?_
    refine lv_topi (fun y13 ey13 => ?_)
    replace hw := hw y13 ey13
    refine i_istore (lv' := [(5, .int y13), (4, .int y10), (0, .ref (ad 0)), (1, .int a1), (2, .int x2_9), (3, .int x3_9)]) (n := 140) C 81 rfl rfl hl (by decide) rfl (fun ls hl => ?_)
    refine i_iload (n := 142) C 82 rfl rfl hl 0 rfl ?_
    refine i_iload (n := 144) C 83 rfl rfl hl 1 rfl ?_
    refine i_icmp_ge (tgt := 152) (n := 147) C 84 rfl rfl rfl (fun c14 => ?_) (fun c14 => ?_)
    · replace hw := hw.1 c14
      refine i_iload (n := 154) C 87 rfl rfl hl 0 rfl ?_
      exact hret _ _ _ rfl hw (C.dg (k := 88) rfl)
    · replace hw := hw.2 c14
      refine i_iload (n := 149) C 85 rfl rfl hl 1 rfl ?_
      refine i_goto (tgt := 154) C 86 rfl rfl ?_
      exact hret _ _ _ rfl hw (C.dg (k := 88) rfl)
  · replace hw := hw.2 c11
    refine i_iload (n := 124) C 70 rfl rfl hl 0 rfl ?_
    exact hret _ _ _ rfl hw (C.dg (k := 71) rfl)
end S204
theorem kV_Mo_184 {R : Room} {s : State} {args : Array Value} (hR : 2 + 1 ≤ R.frames ∧ 8 + (6 + 11) + 46 ≤ R.locals) (ht : ∀ w ∈ GW, w.before args s = true) : CallW R s args R_Mo R_Mo 184 y_Mo_headBy c_Mo_headBy 6 (some .int) (WL y_Mo_headBy c_Mo_headBy 6 (some .int)) { frames := 2, cells := 0, slots := 0, locals := 46 } 0 0 1 := cwV 1 ht (GW_v w_6_143 w_6_145 w_0_40 w_1_7 (GW_wl w_6_146)) rfl rfl rfl (by decide +kernel) hR
section S205
variable {p : Program} {l : Launch} {e : Env} {R : Room} {s : State} {m : MethodId} {args : Array Value} {below : List Frame} {meth : Method} {c : Code} {H : Heap} {locs : List Loc} {cells slots : Nat} {Q : State → Prop}
variable {cc : ByteArray} {pc n nL : Nat} {ls : Array Slot} {rest : List Value} {D : va_G} {cy : Nat → ClassId} {Z : Nat → Prop} {ad : Nat → Nat} {tb : List (Nat × Instr × Nat)} {lv : List (Nat × Value)}
set_option maxHeartbeats 4000000 in
set_option maxRecDepth 100000 in
theorem e_Mo_workNet_42   {P : Int32 → ((Nat → Int32) × (Nat → Nat → Int32)) → Prop} {kb2 : (Nat → Int32) → (Nat → Nat → Int32) → Int32 → Prop} (C : CX D cy R_Mo c_Mo_workNet tb_Mo_workNet 5 p s m args c Z) (hret : RetI p l e { frames := 3, cells := 0, slots := 0, locals := 71 } s m args below meth c c_Mo_workNet .boolean D Z Q (fun (u : (Nat → Int32) × (Nat → Nat → Int32)) => wM cy ad u.1 u.2) P 0 0)
    (hb2 : ∀ (I : Nat → Int32) (A : Nat → Nat → Int32) (x1 : Int32) (ls : Array Slot) (H : Heap) (locs : List Loc), lv_has ls 5 [(0, .ref (ad 0)), (1, .int x1)] → HXw D Z s.heap H locs (wM cy ad I A) → kb2 I A x1 → W p l e { frames := 3, cells := 0, slots := 0, locals := 71 } s m args below meth c H locs 0 0 Q (F0 m 2 ls [])) :
    ∀ (I : Nat → Int32) (A : Nat → Nat → Int32) (x1 : Int32) (s1 : Int32) (s2 : Int32) (s3 : Int32) (ls : Array Slot) (H : Heap) (locs : List Loc), lv_has ls 5 [(0, .ref (ad 0)), (1, .int x1)] → HXw D Z s.heap H locs (wM cy ad I A) → g_Mo_workNet_42 P kb2 I A x1 s1 s2 s3 → W p l e { frames := 3, cells := 0, slots := 0, locals := 71 } s m args below meth c H locs 0 0 Q (F0 m 42 ls [.int s3, .int s2, .int s1, .ref (ad 14)]) := by
  intro I A x1 s1 s2 s3 ls H locs hl h hw
  refine i_iadd (n := 43) C 25 rfl rfl ?_
  obtain ⟨hb, hw⟩ := hw
  refine i_iast (n := 44) C 26 rfl rfl h (wM_arr 13 (by decide) rfl) hb (wM_sA 13 (by decide) rfl _ _) (fun H locs h => ?_)
  refine i_iinc (v := x1 + (1 : Int32)) (lv' := [(1, .int (x1 + (1 : Int32))), (0, .ref (ad 0))]) (n := 47) C 27 rfl rfl hl 1 rfl rfl (by decide) rfl (fun ls hl => ?_)
  refine i_goto (tgt := 2) C 28 rfl rfl ?_
  exact hb2 I (sA A 13 s1 (s2 + s3)) (x1 + (1 : Int32)) ls _ _ (lv_sub hl [1, 0] rfl) h hw
set_option maxHeartbeats 4000000 in
set_option maxRecDepth 100000 in
theorem e_Mo_workNet_2   {P : Int32 → ((Nat → Int32) × (Nat → Nat → Int32)) → Prop} {kx2 : (Nat → Int32) → (Nat → Nat → Int32) → Prop} (C : CX D cy R_Mo c_Mo_workNet tb_Mo_workNet 5 p s m args c Z) (hret : RetI p l e { frames := 3, cells := 0, slots := 0, locals := 71 } s m args below meth c c_Mo_workNet .boolean D Z Q (fun (u : (Nat → Int32) × (Nat → Nat → Int32)) => wM cy ad u.1 u.2) P 0 0)
    (hx2 : ∀ (I : Nat → Int32) (A : Nat → Nat → Int32) (ls : Array Slot) (H : Heap) (locs : List Loc), lv_has ls 5 [(0, .ref (ad 0))] → HXw D Z s.heap H locs (wM cy ad I A) → kx2 I A → W p l e { frames := 3, cells := 0, slots := 0, locals := 71 } s m args below meth c H locs 0 0 Q (F0 m 50 ls [])) :
    ∀ (n : Nat) (I : Nat → Int32) (A : Nat → Nat → Int32) (x1 : Int32) (ls : Array Slot) (H : Heap) (locs : List Loc), lv_has ls 5 [(0, .ref (ad 0)), (1, .int x1)] → HXw D Z s.heap H locs (wM cy ad I A) → g_Mo_workNet_2 P kx2 n I A x1 → W p l e { frames := 3, cells := 0, slots := 0, locals := 71 } s m args below meth c H locs 0 0 Q (F0 m 2 ls []) := by
  intro n
  induction n with
  | zero => intro I A x1 ls H locs hl h hw; exact hw.elim
  | succ n ih =>
    intro I A x1 ls H locs hl h hw
    refine i_iload_n (n := 3) C 2 rfl rfl rfl hl 1 rfl ?_
    refine i_aload_n (n := 4) C 3 rfl rfl rfl hl 0 rfl ?_
    refine fgM_Mo_122 (n := 7) C 4 rfl rfl h ?_
    refine i_icmp_ge (tgt := 50) (n := 10) C 5 rfl rfl rfl (fun c1 => ?_) (fun c1 => ?_)
    · replace hw := hw.1 c1
      exact hx2 I A ls _ _ (lv_sub hl [0] rfl) h hw
    · replace hw := hw.2 c1
      refine i_aload_n (n := 11) C 6 rfl rfl rfl hl 0 rfl ?_
      refine fgM_Mo_50 (n := 14) C 7 rfl rfl h ?_
      refine i_iload_n (n := 15) C 8 rfl rfl rfl hl 1 rfl ?_
      refine i_bipush (v := (10 : Int32)) (n := 17) C 9 rfl rfl rfl ?_
      refine i_aload_n (n := 18) C 10 rfl rfl rfl hl 0 rfl ?_
      refine fgM_Mo_7 (n := 21) C 11 rfl rfl h ?_
      refine i_iload_n (n := 22) C 12 rfl rfl rfl hl 1 rfl ?_
      obtain ⟨hb, hw⟩ := hw
      refine i_iald (n := 23) C 13 rfl rfl h (wM_arr 0 (by decide) rfl) hb ?_
      refine i_imul (n := 24) C 14 rfl rfl ?_
      refine i_aload_n (n := 25) C 15 rfl rfl rfl hl 0 rfl ?_
      refine i_iload_n (n := 26) C 16 rfl rfl rfl hl 1 rfl ?_
      refine i_callVp (rest := [.int ((10 : Int32) * (A 0 x1.toNatClampNeg)), .int x1, .ref (ad 14)]) (ci := 11) (qc := (R_Mo, T_Mo, 50)) (n := 29) C 17 rfl rfl hl h rfl (wM_get (h := 0) (by decide)) (kV_Mo_174 ⟨by decide, by decide⟩) (m_Mo_isSource hw) rfl rfl (Nat.le_of_ble_eq_true rfl) ⟨by decide, by decide⟩ (fun r2 hw => ?_)
      refine i_if_eq (tgt := 41) (n := 32) C 18 rfl rfl rfl (fun c3 => ?_) (fun c3 => ?_)
      · replace hw := hw.1 c3
        refine i_iconst (v := (0 : Int32)) (n := 42) C 24 rfl rfl rfl ?_
        exact e_Mo_workNet_42 C hret ih I A x1 x1 ((10 : Int32) * (A 0 x1.toNatClampNeg)) (0 : Int32) ls _ _ hl h hw
      · replace hw := hw.2 c3
        refine i_aload_n (n := 33) C 19 rfl rfl rfl hl 0 rfl ?_
        refine fgM_Mo_19 (n := 36) C 20 rfl rfl h ?_
        refine i_iload_n (n := 37) C 21 rfl rfl rfl hl 1 rfl ?_
        obtain ⟨hb, hw⟩ := hw
        refine i_iald (n := 38) C 22 rfl rfl h (wM_arr 3 (by decide) rfl) hb ?_
        refine i_goto (tgt := 42) C 23 rfl rfl ?_
        exact e_Mo_workNet_42 C hret ih I A x1 x1 ((10 : Int32) * (A 0 x1.toNatClampNeg)) (A 3 x1.toNatClampNeg) ls _ _ hl h hw
set_option maxHeartbeats 4000000 in
set_option maxRecDepth 100000 in
theorem e_Mo_workNet_159   {P : Int32 → ((Nat → Int32) × (Nat → Nat → Int32)) → Prop} {kb75 : (Nat → Int32) → (Nat → Nat → Int32) → Int32 → Int32 → Prop} (C : CX D cy R_Mo c_Mo_workNet tb_Mo_workNet 5 p s m args c Z) (hret : RetI p l e { frames := 3, cells := 0, slots := 0, locals := 71 } s m args below meth c c_Mo_workNet .boolean D Z Q (fun (u : (Nat → Int32) × (Nat → Nat → Int32)) => wM cy ad u.1 u.2) P 0 0)
    (hb75 : ∀ (I : Nat → Int32) (A : Nat → Nat → Int32) (x1 : Int32) (x2 : Int32) (ls : Array Slot) (H : Heap) (locs : List Loc), lv_has ls 5 [(0, .ref (ad 0)), (1, .int x1), (2, .int x2)] → HXw D Z s.heap H locs (wM cy ad I A) → kb75 I A x1 x2 → W p l e { frames := 3, cells := 0, slots := 0, locals := 71 } s m args below meth c H locs 0 0 Q (F0 m 75 ls [])) :
    ∀ (I : Nat → Int32) (A : Nat → Nat → Int32) (x1 : Int32) (x2 : Int32) (ls : Array Slot) (H : Heap) (locs : List Loc), lv_has ls 5 [(0, .ref (ad 0)), (1, .int x1), (2, .int x2)] → HXw D Z s.heap H locs (wM cy ad I A) → g_Mo_workNet_159 P kb75 I A x1 x2 → W p l e { frames := 3, cells := 0, slots := 0, locals := 71 } s m args below meth c H locs 0 0 Q (F0 m 159 ls []) := by
  intro I A x1 x2 ls H locs hl h hw
  refine i_iinc (v := x2 + (1 : Int32)) (lv' := [(2, .int (x2 + (1 : Int32))), (0, .ref (ad 0)), (1, .int x1)]) (n := 162) C 94 rfl rfl hl 2 rfl rfl (by decide) rfl (fun ls hl => ?_)
  refine i_goto (tgt := 75) C 95 rfl rfl ?_
  exact hb75 I A x1 (x2 + (1 : Int32)) ls _ _ (lv_sub hl [1, 2, 0] rfl) h hw
set_option maxHeartbeats 4000000 in
set_option maxRecDepth 100000 in
theorem e_Mo_workNet_158   {P : Int32 → ((Nat → Int32) × (Nat → Nat → Int32)) → Prop} {kb75 : (Nat → Int32) → (Nat → Nat → Int32) → Int32 → Int32 → Prop} (C : CX D cy R_Mo c_Mo_workNet tb_Mo_workNet 5 p s m args c Z) (hret : RetI p l e { frames := 3, cells := 0, slots := 0, locals := 71 } s m args below meth c c_Mo_workNet .boolean D Z Q (fun (u : (Nat → Int32) × (Nat → Nat → Int32)) => wM cy ad u.1 u.2) P 0 0)
    (hb75 : ∀ (I : Nat → Int32) (A : Nat → Nat → Int32) (x1 : Int32) (x2 : Int32) (ls : Array Slot) (H : Heap) (locs : List Loc), lv_has ls 5 [(0, .ref (ad 0)), (1, .int x1), (2, .int x2)] → HXw D Z s.heap H locs (wM cy ad I A) → kb75 I A x1 x2 → W p l e { frames := 3, cells := 0, slots := 0, locals := 71 } s m args below meth c H locs 0 0 Q (F0 m 75 ls [])) :
    ∀ (I : Nat → Int32) (A : Nat → Nat → Int32) (x2 : Int32) (s0 : Int32) (ls : Array Slot) (H : Heap) (locs : List Loc), lv_has ls 5 [(0, .ref (ad 0)), (2, .int x2)] → HXw D Z s.heap H locs (wM cy ad I A) → g_Mo_workNet_158 P kb75 I A x2 s0 → W p l e { frames := 3, cells := 0, slots := 0, locals := 71 } s m args below meth c H locs 0 0 Q (F0 m 158 ls [.int s0]) := by
  intro I A x2 s0 ls H locs hl h hw
  refine i_istore_n (lv' := [(1, .int s0), (0, .ref (ad 0)), (2, .int x2)]) (n := 159) C 93 rfl rfl rfl hl (by decide) rfl (fun ls hl => ?_)
  exact e_Mo_workNet_159 C hret hb75 I A s0 x2 ls _ _ (lv_sub hl [1, 0, 2] rfl) h hw
set_option maxHeartbeats 4000000 in
set_option maxRecDepth 100000 in
theorem e_Mo_workNet_157   {P : Int32 → ((Nat → Int32) × (Nat → Nat → Int32)) → Prop} {kb75 : (Nat → Int32) → (Nat → Nat → Int32) → Int32 → Int32 → Prop} (C : CX D cy R_Mo c_Mo_workNet tb_Mo_workNet 5 p s m args c Z) (hret : RetI p l e { frames := 3, cells := 0, slots := 0, locals := 71 } s m args below meth c c_Mo_workNet .boolean D Z Q (fun (u : (Nat → Int32) × (Nat → Nat → Int32)) => wM cy ad u.1 u.2) P 0 0)
    (hb75 : ∀ (I : Nat → Int32) (A : Nat → Nat → Int32) (x1 : Int32) (x2 : Int32) (ls : Array Slot) (H : Heap) (locs : List Loc), lv_has ls 5 [(0, .ref (ad 0)), (1, .int x1), (2, .int x2)] → HXw D Z s.heap H locs (wM cy ad I A) → kb75 I A x1 x2 → W p l e { frames := 3, cells := 0, slots := 0, locals := 71 } s m args below meth c H locs 0 0 Q (F0 m 75 ls [])) :
    ∀ (I : Nat → Int32) (A : Nat → Nat → Int32) (x2 : Int32) (ls : Array Slot) (H : Heap) (locs : List Loc), lv_has ls 5 [(0, .ref (ad 0)), (2, .int x2)] → HXw D Z s.heap H locs (wM cy ad I A) → g_Mo_workNet_157 P kb75 I A x2 → W p l e { frames := 3, cells := 0, slots := 0, locals := 71 } s m args below meth c H locs 0 0 Q (F0 m 157 ls []) := by
  intro I A x2 ls H locs hl h hw
  refine i_iconst (v := (0 : Int32)) (n := 158) C 92 rfl rfl rfl ?_
  exact e_Mo_workNet_158 C hret hb75 I A x2 (0 : Int32) ls _ _ hl h hw
set_option maxHeartbeats 4000000 in
set_option maxRecDepth 100000 in
theorem e_Mo_workNet_138   {P : Int32 → ((Nat → Int32) × (Nat → Nat → Int32)) → Prop} {kb75 : (Nat → Int32) → (Nat → Nat → Int32) → Int32 → Int32 → Prop} (C : CX D cy R_Mo c_Mo_workNet tb_Mo_workNet 5 p s m args c Z) (hret : RetI p l e { frames := 3, cells := 0, slots := 0, locals := 71 } s m args below meth c c_Mo_workNet .boolean D Z Q (fun (u : (Nat → Int32) × (Nat → Nat → Int32)) => wM cy ad u.1 u.2) P 0 0)
    (hb75 : ∀ (I : Nat → Int32) (A : Nat → Nat → Int32) (x1 : Int32) (x2 : Int32) (ls : Array Slot) (H : Heap) (locs : List Loc), lv_has ls 5 [(0, .ref (ad 0)), (1, .int x1), (2, .int x2)] → HXw D Z s.heap H locs (wM cy ad I A) → kb75 I A x1 x2 → W p l e { frames := 3, cells := 0, slots := 0, locals := 71 } s m args below meth c H locs 0 0 Q (F0 m 75 ls [])) :
    ∀ (I : Nat → Int32) (A : Nat → Nat → Int32) (x1 : Int32) (x2 : Int32) (s0 : Int32) (ls : Array Slot) (H : Heap) (locs : List Loc), lv_has ls 5 [(0, .ref (ad 0)), (1, .int x1), (2, .int x2)] → HXw D Z s.heap H locs (wM cy ad I A) → g_Mo_workNet_138 P kb75 I A x1 x2 s0 → W p l e { frames := 3, cells := 0, slots := 0, locals := 71 } s m args below meth c H locs 0 0 Q (F0 m 138 ls [.int s0]) := by
  intro I A x1 x2 s0 ls H locs hl h hw
  refine i_istore (lv' := [(4, .int s0), (0, .ref (ad 0)), (1, .int x1), (2, .int x2)]) (n := 140) C 83 rfl rfl hl (by decide) rfl (fun ls hl => ?_)
  refine i_iload_n (n := 141) C 84 rfl rfl rfl hl 2 rfl ?_
  refine i_if_eq (tgt := 157) (n := 144) C 85 rfl rfl rfl (fun c13 => ?_) (fun c13 => ?_)
  · replace hw := hw.1 c13
    exact e_Mo_workNet_157 C hret hb75 I A x2 ls _ _ (lv_sub hl [1, 3] rfl) h hw
  · replace hw := hw.2 c13
    refine i_iload (n := 146) C 86 rfl rfl hl 0 rfl ?_
    refine i_aload_n (n := 147) C 87 rfl rfl rfl hl 1 rfl ?_
    refine fgM_Mo_187 (n := 150) C 88 rfl rfl h ?_
    refine i_icmp_gt (tgt := 157) (n := 153) C 89 rfl rfl rfl (fun c14 => ?_) (fun c14 => ?_)
    · replace hw := hw.1 c14
      exact e_Mo_workNet_157 C hret hb75 I A x2 ls _ _ (lv_sub hl [1, 3] rfl) h hw
    · replace hw := hw.2 c14
      refine i_iconst (v := (1 : Int32)) (n := 154) C 90 rfl rfl rfl ?_
      refine i_goto (tgt := 158) C 91 rfl rfl ?_
      exact e_Mo_workNet_158 C hret hb75 I A x2 (1 : Int32) ls _ _ (lv_sub hl [1, 3] rfl) h hw
set_option maxHeartbeats 4000000 in
set_option maxRecDepth 100000 in
theorem e_Mo_workNet_75   {P : Int32 → ((Nat → Int32) × (Nat → Nat → Int32)) → Prop} {kx75 : (Nat → Int32) → (Nat → Nat → Int32) → Int32 → Prop} (C : CX D cy R_Mo c_Mo_workNet tb_Mo_workNet 5 p s m args c Z) (hret : RetI p l e { frames := 3, cells := 0, slots := 0, locals := 71 } s m args below meth c c_Mo_workNet .boolean D Z Q (fun (u : (Nat → Int32) × (Nat → Nat → Int32)) => wM cy ad u.1 u.2) P 0 0)
    (hx75 : ∀ (I : Nat → Int32) (A : Nat → Nat → Int32) (x1 : Int32) (ls : Array Slot) (H : Heap) (locs : List Loc), lv_has ls 5 [(0, .ref (ad 0)), (1, .int x1)] → HXw D Z s.heap H locs (wM cy ad I A) → kx75 I A x1 → W p l e { frames := 3, cells := 0, slots := 0, locals := 71 } s m args below meth c H locs 0 0 Q (F0 m 165 ls [])) :
    ∀ (n : Nat) (I : Nat → Int32) (A : Nat → Nat → Int32) (x1 : Int32) (x2 : Int32) (ls : Array Slot) (H : Heap) (locs : List Loc), lv_has ls 5 [(0, .ref (ad 0)), (1, .int x1), (2, .int x2)] → HXw D Z s.heap H locs (wM cy ad I A) → g_Mo_workNet_75 P kx75 n I A x1 x2 → W p l e { frames := 3, cells := 0, slots := 0, locals := 71 } s m args below meth c H locs 0 0 Q (F0 m 75 ls []) := by
  intro n
  induction n with
  | zero => intro I A x1 x2 ls H locs hl h hw; exact hw.elim
  | succ n ih =>
    intro I A x1 x2 ls H locs hl h hw
    refine i_iload_n (n := 76) C 44 rfl rfl rfl hl 2 rfl ?_
    refine i_aload_n (n := 77) C 45 rfl rfl rfl hl 0 rfl ?_
    refine fgM_Mo_122 (n := 80) C 46 rfl rfl h ?_
    refine i_icmp_ge (tgt := 165) (n := 83) C 47 rfl rfl rfl (fun c7 => ?_) (fun c7 => ?_)
    · replace hw := hw.1 c7
      exact hx75 I A x1 ls _ _ (lv_sub hl [0, 1] rfl) h hw
    · replace hw := hw.2 c7
      refine i_aload_n (n := 84) C 48 rfl rfl rfl hl 0 rfl ?_
      refine i_iload_n (n := 85) C 49 rfl rfl rfl hl 2 rfl ?_
      refine i_callVp (rest := []) (ci := 11) (qc := (R_Mo, T_Mo, 50)) (n := 88) C 50 rfl rfl hl h rfl (wM_get (h := 0) (by decide)) (kV_Mo_174 ⟨by decide, by decide⟩) (m_Mo_isSource hw) rfl rfl (Nat.le_of_ble_eq_true rfl) ⟨by decide, by decide⟩ (fun r8 hw => ?_)
      refine i_if_ne (tgt := 159) (n := 91) C 51 rfl rfl rfl (fun c9 => ?_) (fun c9 => ?_)
      · replace hw := hw.1 c9
        exact e_Mo_workNet_159 C hret ih I A x1 x2 ls _ _ hl h hw
      · replace hw := hw.2 c9
        refine i_aload_n (n := 92) C 52 rfl rfl rfl hl 0 rfl ?_
        refine fgM_Mo_50 (n := 95) C 53 rfl rfl h ?_
        refine i_iload_n (n := 96) C 54 rfl rfl rfl hl 2 rfl ?_
        obtain ⟨hb, hw⟩ := hw
        refine i_iald (n := 97) C 55 rfl rfl h (wM_arr 13 (by decide) rfl) hb ?_
        refine lv_topi (fun y10 ey10 => ?_)
        replace hw := hw y10 ey10
        refine i_istore_n (lv' := [(3, .int y10), (0, .ref (ad 0)), (1, .int x1), (2, .int x2)]) (n := 98) C 56 rfl rfl rfl hl (by decide) rfl (fun ls hl => ?_)
        refine i_aload_n (n := 99) C 57 rfl rfl rfl hl 1 rfl ?_
        refine fgM_Mo_50 (n := 102) C 58 rfl rfl h ?_
        refine i_iload_n (n := 103) C 59 rfl rfl rfl hl 3 rfl ?_
        refine i_aload_n (n := 104) C 60 rfl rfl rfl hl 1 rfl ?_
        refine i_iload_n (n := 105) C 61 rfl rfl rfl hl 3 rfl ?_
        refine i_callVp (rest := [.int x2, .ref (ad 14)]) (ci := 11) (qc := (R_Mo, T_Mo, 50)) (n := 108) C 62 rfl rfl hl h rfl (wM_get (h := 0) (by decide)) (kV_Mo_184 ⟨by decide, by decide⟩) (m_Mo_headBy hw) rfl rfl (Nat.le_of_ble_eq_true rfl) ⟨by decide, by decide⟩ (fun r11 hw => ?_)
        obtain ⟨hb, hw⟩ := hw
        refine i_iast (n := 109) C 63 rfl rfl h (wM_arr 13 (by decide) rfl) hb (wM_sA 13 (by decide) rfl _ _) (fun H locs h => ?_)
        refine i_aload_n (n := 110) C 64 rfl rfl rfl hl 1 rfl ?_
        refine fgM_Mo_50 (n := 113) C 65 rfl rfl h ?_
        refine i_iload_n (n := 114) C 66 rfl rfl rfl hl 3 rfl ?_
        obtain ⟨hb, hw⟩ := hw
        refine i_iald (n := 115) C 67 rfl rfl h (wM_arr 13 (by decide) rfl) hb ?_
        refine i_iload_n (n := 116) C 68 rfl rfl rfl hl 0 rfl ?_
        refine i_icmp_ge (tgt := 130) (n := 119) C 69 rfl rfl rfl (fun c12 => ?_) (fun c12 => ?_)
        · replace hw := hw.1 c12
          refine i_aload_n (n := 131) C 77 rfl rfl rfl hl 1 rfl ?_
          refine fgM_Mo_50 (n := 134) C 78 rfl rfl h ?_
          refine i_iload_n (n := 135) C 79 rfl rfl rfl hl 3 rfl ?_
          obtain ⟨hb, hw⟩ := hw
          refine i_iald (n := 136) C 80 rfl rfl h (wM_arr 13 (by decide) rfl) hb ?_
          refine i_iload_n (n := 137) C 81 rfl rfl rfl hl 0 rfl ?_
          refine i_isub (n := 138) C 82 rfl rfl ?_
          exact e_Mo_workNet_138 C hret ih I (sA A 13 x2 r11) x1 x2 (((sA A 13 x2 r11) 13 x2.toNatClampNeg) - y10) ls _ _ (lv_sub hl [1, 2, 3] rfl) h hw
        · replace hw := hw.2 c12
          refine i_iload_n (n := 120) C 70 rfl rfl rfl hl 0 rfl ?_
          refine i_aload_n (n := 121) C 71 rfl rfl rfl hl 1 rfl ?_
          refine fgM_Mo_50 (n := 124) C 72 rfl rfl h ?_
          refine i_iload_n (n := 125) C 73 rfl rfl rfl hl 3 rfl ?_
          obtain ⟨hb, hw⟩ := hw
          refine i_iald (n := 126) C 74 rfl rfl h (wM_arr 13 (by decide) rfl) hb ?_
          refine i_isub (n := 127) C 75 rfl rfl ?_
          refine i_goto (tgt := 138) C 76 rfl rfl ?_
          exact e_Mo_workNet_138 C hret ih I (sA A 13 x2 r11) x1 x2 (y10 - ((sA A 13 x2 r11) 13 x2.toNatClampNeg)) ls _ _ (lv_sub hl [1, 2, 3] rfl) h hw
set_option maxHeartbeats 4000000 in
set_option maxRecDepth 100000 in
theorem e_Mo_workNet_57   {P : Int32 → ((Nat → Int32) × (Nat → Nat → Int32)) → Prop} {kx57 : (Nat → Int32) → (Nat → Nat → Int32) → Int32 → Prop} (C : CX D cy R_Mo c_Mo_workNet tb_Mo_workNet 5 p s m args c Z) (hret : RetI p l e { frames := 3, cells := 0, slots := 0, locals := 71 } s m args below meth c c_Mo_workNet .boolean D Z Q (fun (u : (Nat → Int32) × (Nat → Nat → Int32)) => wM cy ad u.1 u.2) P 0 0)
    (hx57 : ∀ (I : Nat → Int32) (A : Nat → Nat → Int32) (x1 : Int32) (ls : Array Slot) (H : Heap) (locs : List Loc), lv_has ls 5 [(1, .int x1)] → HXw D Z s.heap H locs (wM cy ad I A) → kx57 I A x1 → W p l e { frames := 3, cells := 0, slots := 0, locals := 71 } s m args below meth c H locs 0 0 Q (F0 m 178 ls [])) :
    ∀ (n : Nat) (I : Nat → Int32) (A : Nat → Nat → Int32) (x1 : Int32) (ls : Array Slot) (H : Heap) (locs : List Loc), lv_has ls 5 [(0, .ref (ad 0)), (1, .int x1)] → HXw D Z s.heap H locs (wM cy ad I A) → g_Mo_workNet_57 P kx57 n I A x1 → W p l e { frames := 3, cells := 0, slots := 0, locals := 71 } s m args below meth c H locs 0 0 Q (F0 m 57 ls []) := by
  intro n
  induction n with
  | zero => intro I A x1 ls H locs hl h hw; exact hw.elim
  | succ n ih =>
    intro I A x1 ls H locs hl h hw
    refine i_iload_n (n := 58) C 34 rfl rfl rfl hl 1 rfl ?_
    refine i_if_ne (tgt := 178) (n := 61) C 35 rfl rfl rfl (fun c5 => ?_) (fun c5 => ?_)
    · replace hw := hw.1 c5
      exact hx57 I A x1 ls _ _ (lv_sub hl [1] rfl) h hw
    · replace hw := hw.2 c5
      refine i_aload_n (n := 62) C 36 rfl rfl rfl hl 0 rfl ?_
      refine fgM_Mo_181 (n := 65) C 37 rfl rfl h ?_
      refine i_sipush (v := (500 : Int32)) (n := 68) C 38 rfl rfl rfl ?_
      refine i_icmp_ge (tgt := 178) (n := 71) C 39 rfl rfl rfl (fun c6 => ?_) (fun c6 => ?_)
      · replace hw := hw.1 c6
        exact hx57 I A x1 ls _ _ (lv_sub hl [1] rfl) h hw
      · replace hw := hw.2 c6
        refine i_iconst (v := (1 : Int32)) (n := 72) C 40 rfl rfl rfl ?_
        refine i_istore_n (lv' := [(1, .int (1 : Int32)), (0, .ref (ad 0))]) (n := 73) C 41 rfl rfl rfl hl (by decide) rfl (fun ls hl => ?_)
        refine i_iconst (v := (0 : Int32)) (n := 74) C 42 rfl rfl rfl ?_
        refine i_istore_n (lv' := [(2, .int (0 : Int32)), (1, .int (1 : Int32)), (0, .ref (ad 0))]) (n := 75) C 43 rfl rfl rfl hl (by decide) rfl (fun ls hl => ?_)
        obtain ⟨n15, hw⟩ := hw
        refine e_Mo_workNet_75 C hret (fun I_15 A_15 x1_15 ls H locs hl h hw => ?_) n15 I A (1 : Int32) (0 : Int32) ls _ _ (lv_sub hl [2, 1, 0] rfl) h hw
        have hl : lv_has ls 5 [(0, .ref (ad 0)), (1, .int x1_15)] := hl
        refine i_aload_n (n := 166) C 96 rfl rfl rfl hl 0 rfl ?_
        refine i_dup (n := 167) C 97 rfl rfl rfl ?_
        refine fgM_Mo_181 (n := 170) C 98 rfl rfl h ?_
        refine i_iconst (v := (1 : Int32)) (n := 171) C 99 rfl rfl rfl ?_
        refine i_iadd (n := 172) C 100 rfl rfl ?_
        refine fpM_Mo_181 (n := 175) C 101 rfl rfl h (fun H locs h => ?_)
        refine i_goto (tgt := 57) C 102 rfl rfl ?_
        exact ih (va_up I_15 5 ((I_15 5) + (1 : Int32))) A_15 x1_15 ls _ _ hl h hw
set_option maxHeartbeats 4000000 in
set_option maxRecDepth 100000 in
theorem m_Mo_workNet {l : Launch} {D : va_G} {cy : Nat → ClassId} {ad : Nat → Nat} {I : Nat → Int32} {A : Nat → Nat → Int32}  {P : Int32 → ((Nat → Int32) × (Nat → Nat → Int32)) → Prop} (hw : g_Mo_workNet I A P) : ∀ sz, Met l y_Mo_workNet (WL y_Mo_workNet c_Mo_workNet 5 (some .boolean)) { frames := 3, cells := 0, slots := 0, locals := 71 } (va_Pc [.ref (ad 0)] (PreW D cy (wM cy ad I A) sz)) (va_Qi P (fun u t => PostW D (va_A (wM cy ad I A) sz) ((fun (u : (Nat → Int32) × (Nat → Nat → Int32)) => wM cy ad u.1 u.2) u) t) (va_A (wM cy ad I A) sz)) 0 0 (va_A (wM cy ad I A) sz) := by
  refine met_i (wf := fun (u : (Nat → Int32) × (Nat → Nat → Int32)) => wM cy ad u.1 u.2) R_Mo .boolean db_Mo_workNet (by decide) rfl rfl (Nat.le_of_ble_eq_true rfl) ?_
  intro p e s m below meth c Z Q ls C h hl hret
  have hl : lv_has ls 5 [(0, .ref (ad 0))] := hl
  refine i_iconst (v := (0 : Int32)) (n := 1) C 0 rfl rfl rfl ?_
  refine i_istore_n (lv' := [(1, .int (0 : Int32)), (0, .ref (ad 0))]) (n := 2) C 1 rfl rfl rfl hl (by decide) rfl (fun ls hl => ?_)
  obtain ⟨n4, hw⟩ := hw
  refine e_Mo_workNet_2 C hret (fun I_4 A_4 ls H locs hl h hw => ?_) n4 I A (0 : Int32) ls _ _ (lv_sub hl [1, 0] rfl) h hw
  have hl : lv_has ls 5 [(0, .ref (ad 0))] := hl
  refine i_aload_n (n := 51) C 29 rfl rfl rfl hl 0 rfl ?_
  refine i_iconst (v := (0 : Int32)) (n := 52) C 30 rfl rfl rfl ?_
  refine fpM_Mo_181 (n := 55) C 31 rfl rfl h (fun H locs h => ?_)
  refine i_iconst (v := (0 : Int32)) (n := 56) C 32 rfl rfl rfl ?_
  refine i_istore_n (lv' := [(1, .int (0 : Int32)), (0, .ref (ad 0))]) (n := 57) C 33 rfl rfl rfl hl (by decide) rfl (fun ls hl => ?_)
  obtain ⟨n16, hw⟩ := hw
  refine e_Mo_workNet_57 C hret (fun I_16 A_16 x1_16 ls H locs hl h hw => ?_) n16 (va_up I_4 5 (0 : Int32)) A_4 (0 : Int32) ls _ _ (lv_sub hl [1, 0] rfl) h hw
  have hl : lv_has ls 5 [(1, .int x1_16)] := hl
  refine i_iload_n (n := 179) C 103 rfl rfl rfl hl 0 rfl ?_
  obtain ⟨hB, hw⟩ := hw
  exact hret _ (I_16, A_16) _ _ _ _ hB.nar hw h (C.dg (k := 104) rfl)
end S205
theorem kV_Mo_190 {R : Room} {s : State} {args : Array Value} (hR : 3 + 1 ≤ R.frames ∧ 8 + (5 + 11) + 71 ≤ R.locals) (ht : ∀ w ∈ GW, w.before args s = true) : CallW R s args R_Mo R_Mo 190 y_Mo_workNet c_Mo_workNet 5 (some .boolean) (WL y_Mo_workNet c_Mo_workNet 5 (some .boolean)) { frames := 3, cells := 0, slots := 0, locals := 71 } 0 0 0 := cwV 0 ht (GW_v w_6_139 w_6_141 w_0_39 w_1_7 (GW_wl w_6_142)) rfl rfl rfl (by decide +kernel) hR
section S206
variable {p : Program} {l : Launch} {e : Env} {R : Room} {s : State} {m : MethodId} {args : Array Value} {below : List Frame} {meth : Method} {c : Code} {H : Heap} {locs : List Loc} {cells slots : Nat} {Q : State → Prop}
variable {cc : ByteArray} {pc n nL : Nat} {ls : Array Slot} {rest : List Value} {D : va_G} {cy : Nat → ClassId} {Z : Nat → Prop} {ad : Nat → Nat} {tb : List (Nat × Instr × Nat)} {lv : List (Nat × Value)}
set_option maxHeartbeats 4000000 in
set_option maxRecDepth 100000 in
theorem m_Mo_work {l : Launch} {D : va_G} {cy : Nat → ClassId} {ad : Nat → Nat} {I : Nat → Int32} {A : Nat → Nat → Int32}  {P : Int32 → ((Nat → Int32) × (Nat → Nat → Int32)) → Prop} (hw : g_Mo_work I A P) : ∀ sz, Met l y_Mo_work (WL y_Mo_work c_Mo_work 1 (some .int)) { frames := 4, cells := 0, slots := 0, locals := 95 } (va_Pc [.ref (ad 0)] (PreW D cy (wM cy ad I A) sz)) (va_Qi P (fun u t => PostW D (va_A (wM cy ad I A) sz) ((fun (u : (Nat → Int32) × (Nat → Nat → Int32)) => wM cy ad u.1 u.2) u) t) (va_A (wM cy ad I A) sz)) 0 0 (va_A (wM cy ad I A) sz) := by
  refine met_i (wf := fun (u : (Nat → Int32) × (Nat → Nat → Int32)) => wM cy ad u.1 u.2) R_Mo .int db_Mo_work (by decide) rfl rfl (Nat.le_of_ble_eq_true rfl) ?_
  intro p e s m below meth c Z Q ls C h hl hret
  have hl : lv_has ls 1 [(0, .ref (ad 0))] := hl
  refine i_aload_n (n := 1) C 0 rfl rfl rfl hl 0 rfl ?_
  refine i_callVi (rest := []) (ci := 11) (qc := (R_Mo, T_Mo, 50)) (n := 4) C 1 rfl rfl hl h rfl (wM_get (h := 0) (by decide)) (kV_Mo_190 ⟨by decide, by decide⟩) (m_Mo_workNet hw) rfl rfl (Nat.le_of_ble_eq_true rfl) ⟨by decide, by decide⟩ (fun r1 u2 H locs hw h => ?_)
  refine i_if_eq (tgt := 14) (n := 7) C 2 rfl rfl rfl (fun c3 => ?_) (fun c3 => ?_)
  · replace hw := hw.1 c3
    refine i_bipush (v := (-5 : Int32)) (n := 16) C 6 rfl rfl rfl ?_
    exact hret _ (u2.1, u2.2) _ _ _ _ rfl hw h (C.dg (k := 7) rfl)
  · replace hw := hw.2 c3
    refine i_aload_n (n := 8) C 3 rfl rfl rfl hl 0 rfl ?_
    refine fgM_Mo_181 (n := 11) C 4 rfl rfl h ?_
    refine i_goto (tgt := 16) C 5 rfl rfl ?_
    exact hret _ (u2.1, u2.2) _ _ _ _ rfl hw h (C.dg (k := 7) rfl)
end S206
section S207
variable {p : Program} {l : Launch} {e : Env} {R : Room} {s : State} {m : MethodId} {args : Array Value} {below : List Frame} {meth : Method} {c : Code} {H : Heap} {locs : List Loc} {cells slots : Nat} {Q : State → Prop}
variable {cc : ByteArray} {pc n nL : Nat} {ls : Array Slot} {rest : List Value} {D : va_G} {cy : Nat → ClassId} {Z : Nat → Prop} {ad : Nat → Nat} {tb : List (Nat × Instr × Nat)} {lv : List (Nat × Value)}
set_option maxHeartbeats 4000000 in
set_option maxRecDepth 100000 in
theorem m_Mo_near {l : Launch} {D : va_G} {cy : Nat → ClassId} {ad : Nat → Nat} {I : Nat → Int32} {A : Nat → Nat → Int32} {a1 : Int32} {P : Int32 → ((Nat → Int32)) → Prop} (hw : g_Mo_near I a1 P) : ∀ sz, Met l y_Mo_near (WL y_Mo_near c_Mo_near 3 (some .int)) { frames := 1, cells := 0, slots := 0, locals := 22 } (va_Pc [.ref (ad 0), .int a1] (PreW D cy (wM cy ad I A) sz)) (va_Qi P (fun u t => PostW D (va_A (wM cy ad I A) sz) ((fun (u : (Nat → Int32)) => wM cy ad u A) u) t) (va_A (wM cy ad I A) sz)) 0 0 (va_A (wM cy ad I A) sz) := by
  refine met_i (wf := fun (u : (Nat → Int32)) => wM cy ad u A) R_Mo .int db_Mo_near (by decide) rfl rfl (Nat.le_of_ble_eq_true rfl) ?_
  intro p e s m below meth c Z Q ls C h hl hret
  have hl : lv_has ls 3 [(0, .ref (ad 0)), (1, .int a1)] := hl
  refine i_iload_n (n := 1) C 0 rfl rfl rfl hl 1 rfl ?_
  refine i_iconst (v := (0 : Int32)) (n := 2) C 1 rfl rfl rfl ?_
  refine i_bipush (v := (100 : Int32)) (n := 4) C 2 rfl rfl rfl ?_
  refine i_callSp (rest := []) (n := 7) C 3 rfl rfl hl h (kS_Mo_126 ⟨by decide, by decide⟩) (m_Mo_in hw) rfl rfl (Nat.le_of_ble_eq_true rfl) ⟨by decide, by decide⟩ (fun r1 hw => ?_)
  refine i_if_ne (tgt := 13) (n := 10) C 4 rfl rfl rfl (fun c2 => ?_) (fun c2 => ?_)
  · replace hw := hw.1 c2
    refine i_aload_n (n := 14) C 7 rfl rfl rfl hl 0 rfl ?_
    refine fgM_Mo_187 (n := 17) C 8 rfl rfl h ?_
    refine lv_topi (fun y3 ey3 => ?_)
    replace hw := hw y3 ey3
    refine i_istore_n (lv' := [(2, .int y3), (0, .ref (ad 0)), (1, .int a1)]) (n := 18) C 9 rfl rfl rfl hl (by decide) rfl (fun ls hl => ?_)
    refine i_aload_n (n := 19) C 10 rfl rfl rfl hl 1 rfl ?_
    refine i_iload_n (n := 20) C 11 rfl rfl rfl hl 2 rfl ?_
    refine fpM_Mo_187 (n := 23) C 12 rfl rfl h (fun H locs h => ?_)
    refine i_iload_n (n := 24) C 13 rfl rfl rfl hl 0 rfl ?_
    exact hret _ (va_up I 4 a1) _ _ _ _ rfl hw h (C.dg (k := 14) rfl)
  · replace hw := hw.2 c2
    refine i_bipush (v := (-2 : Int32)) (n := 12) C 5 rfl rfl rfl ?_
    exact hret _ I _ _ _ _ rfl hw h (C.dg (k := 6) rfl)
end S207
section S208
variable {p : Program} {l : Launch} {e : Env} {R : Room} {s : State} {m : MethodId} {args : Array Value} {below : List Frame} {meth : Method} {c : Code} {H : Heap} {locs : List Loc} {cells slots : Nat} {Q : State → Prop}
variable {cc : ByteArray} {pc n nL : Nat} {ls : Array Slot} {rest : List Value} {D : va_G} {cy : Nat → ClassId} {Z : Nat → Prop} {ad : Nat → Nat} {tb : List (Nat × Instr × Nat)} {lv : List (Nat × Value)}
set_option maxHeartbeats 4000000 in
set_option maxRecDepth 100000 in
theorem m_Mo_press {l : Launch} {D : va_G} {cy : Nat → ClassId} {ad : Nat → Nat} {I : Nat → Int32} {A : Nat → Nat → Int32} {a1 : Int32} {a2 : Int32} {P : Int32 → Prop} (hw : g_Mo_press I A a1 a2 P) : ∀ sz, Met l y_Mo_press (WL y_Mo_press c_Mo_press 3 (some .int)) { frames := 2, cells := 0, slots := 0, locals := 43 } (va_Pc [.ref (ad 0), .int a1, .int a2] (PreW D cy (wM cy ad I A) sz)) (vp_Si P) 0 0 (fun _ => False) := by
  refine met_p R_Mo .int db_Mo_press (by decide) rfl rfl (Nat.le_of_ble_eq_true rfl) ?_
  intro p e s m below meth c Z Q ls C h hl hret
  have hl : lv_has ls 3 [(0, .ref (ad 0)), (1, .int a1), (2, .int a2)] := hl
  refine i_aload_n (n := 1) C 0 rfl rfl rfl hl 0 rfl ?_
  refine i_iload_n (n := 2) C 1 rfl rfl rfl hl 1 rfl ?_
  refine i_callVp (rest := []) (ci := 11) (qc := (R_Mo, T_Mo, 50)) (n := 5) C 2 rfl rfl hl h rfl (wM_get (h := 0) (by decide)) (kV_Mo_136 ⟨by decide, by decide⟩) (m_Mo_isNode hw) rfl rfl (Nat.le_of_ble_eq_true rfl) ⟨by decide, by decide⟩ (fun r1 hw => ?_)
  refine i_if_ne (tgt := 11) (n := 8) C 3 rfl rfl rfl (fun c2 => ?_) (fun c2 => ?_)
  · replace hw := hw.1 c2
    refine i_iload_n (n := 12) C 6 rfl rfl rfl hl 2 rfl ?_
    refine i_if_ne (tgt := 24) (n := 15) C 7 rfl rfl rfl (fun c3 => ?_) (fun c3 => ?_)
    · replace hw := hw.1 c3
      refine i_iload_n (n := 25) C 13 rfl rfl rfl hl 2 rfl ?_
      refine i_iconst (v := (1 : Int32)) (n := 26) C 14 rfl rfl rfl ?_
      refine i_icmp_ne (tgt := 37) (n := 29) C 15 rfl rfl rfl (fun c4 => ?_) (fun c4 => ?_)
      · replace hw := hw.1 c4
        refine i_ldc (n := 39) C 20 rfl rfl w_6_156 ?_
        exact hret _ _ _ rfl hw (C.dg (k := 21) rfl)
      · replace hw := hw.2 c4
        refine i_aload_n (n := 30) C 16 rfl rfl rfl hl 0 rfl ?_
        refine i_iload_n (n := 31) C 17 rfl rfl rfl hl 1 rfl ?_
        refine i_callVp (rest := []) (ci := 11) (qc := (R_Mo, T_Mo, 50)) (n := 34) C 18 rfl rfl hl h rfl (wM_get (h := 0) (by decide)) (kV_Mo_168 ⟨by decide, by decide⟩) (m_Mo_pressOf hw) rfl rfl (Nat.le_of_ble_eq_true rfl) ⟨by decide, by decide⟩ (fun r5 hw => ?_)
        refine i_goto (tgt := 39) C 19 rfl rfl ?_
        exact hret _ _ _ rfl hw (C.dg (k := 21) rfl)
    · replace hw := hw.2 c3
      refine i_aload_n (n := 16) C 8 rfl rfl rfl hl 0 rfl ?_
      refine fgM_Mo_50 (n := 19) C 9 rfl rfl h ?_
      refine i_iload_n (n := 20) C 10 rfl rfl rfl hl 1 rfl ?_
      obtain ⟨hb, hw⟩ := hw
      refine i_iald (n := 21) C 11 rfl rfl h (wM_arr 13 (by decide) rfl) hb ?_
      refine i_goto (tgt := 39) C 12 rfl rfl ?_
      exact hret _ _ _ rfl hw (C.dg (k := 21) rfl)
  · replace hw := hw.2 c2
    refine i_ldc (n := 10) C 4 rfl rfl w_6_155 ?_
    exact hret _ _ _ rfl hw (C.dg (k := 5) rfl)
end S208
