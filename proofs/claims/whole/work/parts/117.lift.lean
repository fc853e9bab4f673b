section S209
variable {p : Program} {l : Launch} {e : Env} {R : Room} {s : State} {m : MethodId} {args : Array Value} {below : List Frame} {meth : Method} {c : Code} {H : Heap} {locs : List Loc} {cells slots : Nat} {Q : State → Prop}
variable {cc : ByteArray} {pc n nL : Nat} {ls : Array Slot} {rest : List Value} {D : va_G} {cy : Nat → ClassId} {Z : Nat → Prop} {ad : Nat → Nat} {tb : List (Nat × Instr × Nat)} {lv : List (Nat × Value)}
set_option maxHeartbeats 4000000 in
set_option maxRecDepth 100000 in
theorem m_Mo_flowOf {l : Launch} {D : va_G} {cy : Nat → ClassId} {ad : Nat → Nat} {I : Nat → Int32} {A : Nat → Nat → Int32} {a1 : Int32} {P : Int32 → Prop} (hw : g_Mo_flowOf I A a1 P) : ∀ sz, Met l y_Mo_flowOf (WL y_Mo_flowOf c_Mo_flowOf 2 (some .int)) { frames := 2, cells := 0, slots := 0, locals := 44 } (va_Pc [.ref (ad 0), .int a1] (PreW D cy (wM cy ad I A) sz)) (vp_Si P) 0 0 (fun _ => False) := by
  refine met_p R_Mo .int db_Mo_flowOf (by decide) rfl rfl (Nat.le_of_ble_eq_true rfl) ?_
  intro p e s m below meth c Z Q ls C h hl hret
  have hl : lv_has ls 2 [(0, .ref (ad 0)), (1, .int a1)] := hl
  refine i_aload_n (n := 1) C 0 rfl rfl rfl hl 0 rfl ?_
  refine i_iload_n (n := 2) C 1 rfl rfl rfl hl 1 rfl ?_
  refine i_callVp (rest := []) (ci := 11) (qc := (R_Mo, T_Mo, 50)) (n := 5) C 2 rfl rfl hl h rfl (wM_get (h := 0) (by decide)) (kV_Mo_153 ⟨by decide, by decide⟩) (m_Mo_isOpen hw) rfl rfl (Nat.le_of_ble_eq_true rfl) ⟨by decide, by decide⟩ (fun r1 hw => ?_)
  refine i_if_eq (tgt := 45) (n := 8) C 3 rfl rfl rfl (fun c2 => ?_) (fun c2 => ?_)
  · replace hw := hw.1 c2
    refine i_iconst (v := (0 : Int32)) (n := 46) C 27 rfl rfl rfl ?_
    exact hret _ _ _ rfl hw (C.dg (k := 28) rfl)
  · replace hw := hw.2 c2
    refine i_aload_n (n := 9) C 4 rfl rfl rfl hl 0 rfl ?_
    refine fgM_Mo_59 (n := 12) C 5 rfl rfl h ?_
    refine i_iload_n (n := 13) C 6 rfl rfl rfl hl 1 rfl ?_
    obtain ⟨hb, hw⟩ := hw
    refine i_iald (n := 14) C 7 rfl rfl h (wM_arr 16 (by decide) rfl) hb ?_
    refine i_aload_n (n := 15) C 8 rfl rfl rfl hl 0 rfl ?_
    refine fgM_Mo_50 (n := 18) C 9 rfl rfl h ?_
    refine i_aload_n (n := 19) C 10 rfl rfl rfl hl 0 rfl ?_
    refine fgM_Mo_53 (n := 22) C 11 rfl rfl h ?_
    refine i_iload_n (n := 23) C 12 rfl rfl rfl hl 1 rfl ?_
    obtain ⟨hb, hw⟩ := hw
    refine i_iald (n := 24) C 13 rfl rfl h (wM_arr 14 (by decide) rfl) hb ?_
    obtain ⟨hb, hw⟩ := hw
    refine i_iald (n := 25) C 14 rfl rfl h (wM_arr 13 (by decide) rfl) hb ?_
    refine i_aload_n (n := 26) C 15 rfl rfl rfl hl 0 rfl ?_
    refine fgM_Mo_50 (n := 29) C 16 rfl rfl h ?_
    refine i_aload_n (n := 30) C 17 rfl rfl rfl hl 0 rfl ?_
    refine fgM_Mo_56 (n := 33) C 18 rfl rfl h ?_
    refine i_iload_n (n := 34) C 19 rfl rfl rfl hl 1 rfl ?_
    obtain ⟨hb, hw⟩ := hw
    refine i_iald (n := 35) C 20 rfl rfl h (wM_arr 15 (by decide) rfl) hb ?_
    obtain ⟨hb, hw⟩ := hw
    refine i_iald (n := 36) C 21 rfl rfl h (wM_arr 13 (by decide) rfl) hb ?_
    refine i_isub (n := 37) C 22 rfl rfl ?_
    refine i_imul (n := 38) C 23 rfl rfl ?_
    refine i_sipush (v := (1000 : Int32)) (n := 41) C 24 rfl rfl rfl ?_
    refine i_idiv (n := 42) C 25 rfl rfl (by decide) ?_
    refine i_goto (tgt := 46) C 26 rfl rfl ?_
    exact hret _ _ _ rfl hw (C.dg (k := 28) rfl)
end S209
theorem kV_Mo_196 {R : Room} {s : State} {args : Array Value} (hR : 2 + 1 ≤ R.frames ∧ 8 + (2 + 11) + 44 ≤ R.locals) (ht : ∀ w ∈ GW, w.before args s = true) : CallW R s args R_Mo R_Mo 196 y_Mo_flowOf c_Mo_flowOf 2 (some .int) (WL y_Mo_flowOf c_Mo_flowOf 2 (some .int)) { frames := 2, cells := 0, slots := 0, locals := 44 } 0 0 1 := cwV 1 ht (GW_v w_6_161 w_6_163 w_0_41 w_1_7 (GW_wl w_6_164)) rfl rfl rfl (by decide +kernel) hR
section S210
variable {p : Program} {l : Launch} {e : Env} {R : Room} {s : State} {m : MethodId} {args : Array Value} {below : List Frame} {meth : Method} {c : Code} {H : Heap} {locs : List Loc} {cells slots : Nat} {Q : State → Prop}
variable {cc : ByteArray} {pc n nL : Nat} {ls : Array Slot} {rest : List Value} {D : va_G} {cy : Nat → ClassId} {Z : Nat → Prop} {ad : Nat → Nat} {tb : List (Nat × Instr × Nat)} {lv : List (Nat × Value)}
set_option maxHeartbeats 4000000 in
set_option maxRecDepth 100000 in
theorem m_Mo_flow {l : Launch} {D : va_G} {cy : Nat → ClassId} {ad : Nat → Nat} {I : Nat → Int32} {A : Nat → Nat → Int32} {a1 : Int32} {P : Int32 → Prop} (hw : g_Mo_flow I A a1 P) : ∀ sz, Met l y_Mo_flow (WL y_Mo_flow c_Mo_flow 2 (some .int)) { frames := 3, cells := 0, slots := 0, locals := 65 } (va_Pc [.ref (ad 0), .int a1] (PreW D cy (wM cy ad I A) sz)) (vp_Si P) 0 0 (fun _ => False) := by
  refine met_p R_Mo .int db_Mo_flow (by decide) rfl rfl (Nat.le_of_ble_eq_true rfl) ?_
  intro p e s m below meth c Z Q ls C h hl hret
  have hl : lv_has ls 2 [(0, .ref (ad 0)), (1, .int a1)] := hl
  refine i_aload_n (n := 1) C 0 rfl rfl rfl hl 0 rfl ?_
  refine i_iload_n (n := 2) C 1 rfl rfl rfl hl 1 rfl ?_
  refine i_callVp (rest := []) (ci := 11) (qc := (R_Mo, T_Mo, 50)) (n := 5) C 2 rfl rfl hl h rfl (wM_get (h := 0) (by decide)) (kV_Mo_140 ⟨by decide, by decide⟩) (m_Mo_isMain hw) rfl rfl (Nat.le_of_ble_eq_true rfl) ⟨by decide, by decide⟩ (fun r1 hw => ?_)
  refine i_if_eq (tgt := 16) (n := 8) C 3 rfl rfl rfl (fun c2 => ?_) (fun c2 => ?_)
  · replace hw := hw.1 c2
    refine i_ldc (n := 18) C 8 rfl rfl w_6_155 ?_
    exact hret _ _ _ rfl hw (C.dg (k := 9) rfl)
  · replace hw := hw.2 c2
    refine i_aload_n (n := 9) C 4 rfl rfl rfl hl 0 rfl ?_
    refine i_iload_n (n := 10) C 5 rfl rfl rfl hl 1 rfl ?_
    refine i_callVp (rest := []) (ci := 11) (qc := (R_Mo, T_Mo, 50)) (n := 13) C 6 rfl rfl hl h rfl (wM_get (h := 0) (by decide)) (kV_Mo_196 ⟨by decide, by decide⟩) (m_Mo_flowOf hw) rfl rfl (Nat.le_of_ble_eq_true rfl) ⟨by decide, by decide⟩ (fun r3 hw => ?_)
    refine i_goto (tgt := 18) C 7 rfl rfl ?_
    exact hret _ _ _ rfl hw (C.dg (k := 9) rfl)
end S210
section S211
variable {p : Program} {l : Launch} {e : Env} {R : Room} {s : State} {m : MethodId} {args : Array Value} {below : List Frame} {meth : Method} {c : Code} {H : Heap} {locs : List Loc} {cells slots : Nat} {Q : State → Prop}
variable {cc : ByteArray} {pc n nL : Nat} {ls : Array Slot} {rest : List Value} {D : va_G} {cy : Nat → ClassId} {Z : Nat → Prop} {ad : Nat → Nat} {tb : List (Nat × Instr × Nat)} {lv : List (Nat × Value)}
set_option maxHeartbeats 4000000 in
set_option maxRecDepth 100000 in
theorem e_Mo_stepOnce_107   {P : Int32 → ((Nat → Int32) × (Nat → Nat → Int32)) → Prop} {kb9 : (Nat → Int32) → (Nat → Nat → Int32) → Int32 → Int32 → Prop} (C : CX D cy R_Mo c_Mo_stepOnce tb_Mo_stepOnce 5 p s m args c Z) (hret : RetI p l e { frames := 4, cells := 0, slots := 0, locals := 95 } s m args below meth c c_Mo_stepOnce .int D Z Q (fun (u : (Nat → Int32) × (Nat → Nat → Int32)) => wM cy ad u.1 u.2) P 0 0)
    (hb9 : ∀ (I : Nat → Int32) (A : Nat → Nat → Int32) (x1 : Int32) (x2 : Int32) (ls : Array Slot) (H : Heap) (locs : List Loc), lv_has ls 5 [(0, .ref (ad 0)), (1, .int x1), (2, .int x2)] → HXw D Z s.heap H locs (wM cy ad I A) → kb9 I A x1 x2 → W p l e { frames := 4, cells := 0, slots := 0, locals := 95 } s m args below meth c H locs 0 0 Q (F0 m 9 ls [])) :
    ∀ (I : Nat → Int32) (A : Nat → Nat → Int32) (x1 : Int32) (x2 : Int32) (s1 : Int32) (s2 : Int32) (s3 : Int32) (ls : Array Slot) (H : Heap) (locs : List Loc), lv_has ls 5 [(0, .ref (ad 0)), (1, .int x1), (2, .int x2)] → HXw D Z s.heap H locs (wM cy ad I A) → g_Mo_stepOnce_107 P kb9 I A x1 x2 s1 s2 s3 → W p l e { frames := 4, cells := 0, slots := 0, locals := 95 } s m args below meth c H locs 0 0 Q (F0 m 107 ls [.int s3, .int s2, .int s1, .ref (ad 11)]) := by
  intro I A x1 x2 s1 s2 s3 ls H locs hl h hw
  refine i_iadd (n := 108) C 65 rfl rfl ?_
  obtain ⟨hb, hw⟩ := hw
  refine i_iast (n := 109) C 66 rfl rfl h (wM_arr 10 (by decide) rfl) hb (wM_sA 10 (by decide) rfl _ _) (fun H locs h => ?_)
  refine i_iinc (v := x2 + (1 : Int32)) (lv' := [(2, .int (x2 + (1 : Int32))), (0, .ref (ad 0)), (1, .int x1)]) (n := 112) C 67 rfl rfl hl 2 rfl rfl (by decide) rfl (fun ls hl => ?_)
  refine i_goto (tgt := 9) C 68 rfl rfl ?_
  exact hb9 I (sA A 10 s1 (s2 + s3)) x1 (x2 + (1 : Int32)) ls _ _ (lv_sub hl [1, 2, 0] rfl) h hw
set_option maxHeartbeats 4000000 in
set_option maxRecDepth 100000 in
theorem e_Mo_stepOnce_106   {P : Int32 → ((Nat → Int32) × (Nat → Nat → Int32)) → Prop} {kb9 : (Nat → Int32) → (Nat → Nat → Int32) → Int32 → Int32 → Prop} (C : CX D cy R_Mo c_Mo_stepOnce tb_Mo_stepOnce 5 p s m args c Z) (hret : RetI p l e { frames := 4, cells := 0, slots := 0, locals := 95 } s m args below meth c c_Mo_stepOnce .int D Z Q (fun (u : (Nat → Int32) × (Nat → Nat → Int32)) => wM cy ad u.1 u.2) P 0 0)
    (hb9 : ∀ (I : Nat → Int32) (A : Nat → Nat → Int32) (x1 : Int32) (x2 : Int32) (ls : Array Slot) (H : Heap) (locs : List Loc), lv_has ls 5 [(0, .ref (ad 0)), (1, .int x1), (2, .int x2)] → HXw D Z s.heap H locs (wM cy ad I A) → kb9 I A x1 x2 → W p l e { frames := 4, cells := 0, slots := 0, locals := 95 } s m args below meth c H locs 0 0 Q (F0 m 9 ls [])) :
    ∀ (I : Nat → Int32) (A : Nat → Nat → Int32) (x1 : Int32) (x2 : Int32) (s1 : Int32) (s2 : Int32) (ls : Array Slot) (H : Heap) (locs : List Loc), lv_has ls 5 [(0, .ref (ad 0)), (1, .int x1), (2, .int x2)] → HXw D Z s.heap H locs (wM cy ad I A) → g_Mo_stepOnce_106 P kb9 I A x1 x2 s1 s2 → W p l e { frames := 4, cells := 0, slots := 0, locals := 95 } s m args below meth c H locs 0 0 Q (F0 m 106 ls [.int s2, .int s1, .ref (ad 11)]) := by
  intro I A x1 x2 s1 s2 ls H locs hl h hw
  refine i_iconst (v := (0 : Int32)) (n := 107) C 64 rfl rfl rfl ?_
  exact e_Mo_stepOnce_107 C hret hb9 I A x1 x2 s1 s2 (0 : Int32) ls _ _ hl h hw
set_option maxHeartbeats 4000000 in
set_option maxRecDepth 100000 in
theorem e_Mo_stepOnce_67   {P : Int32 → ((Nat → Int32) × (Nat → Nat → Int32)) → Prop} {kb9 : (Nat → Int32) → (Nat → Nat → Int32) → Int32 → Int32 → Prop} (C : CX D cy R_Mo c_Mo_stepOnce tb_Mo_stepOnce 5 p s m args c Z) (hret : RetI p l e { frames := 4, cells := 0, slots := 0, locals := 95 } s m args below meth c c_Mo_stepOnce .int D Z Q (fun (u : (Nat → Int32) × (Nat → Nat → Int32)) => wM cy ad u.1 u.2) P 0 0)
    (hb9 : ∀ (I : Nat → Int32) (A : Nat → Nat → Int32) (x1 : Int32) (x2 : Int32) (ls : Array Slot) (H : Heap) (locs : List Loc), lv_has ls 5 [(0, .ref (ad 0)), (1, .int x1), (2, .int x2)] → HXw D Z s.heap H locs (wM cy ad I A) → kb9 I A x1 x2 → W p l e { frames := 4, cells := 0, slots := 0, locals := 95 } s m args below meth c H locs 0 0 Q (F0 m 9 ls [])) :
    ∀ (I : Nat → Int32) (A : Nat → Nat → Int32) (x1 : Int32) (x2 : Int32) (ls : Array Slot) (H : Heap) (locs : List Loc), lv_has ls 5 [(0, .ref (ad 0)), (1, .int x1), (2, .int x2)] → HXw D Z s.heap H locs (wM cy ad I A) → g_Mo_stepOnce_67 P kb9 I A x1 x2 → W p l e { frames := 4, cells := 0, slots := 0, locals := 95 } s m args below meth c H locs 0 0 Q (F0 m 67 ls []) := by
  intro I A x1 x2 ls H locs hl h hw
  refine i_aload_n (n := 68) C 41 rfl rfl rfl hl 0 rfl ?_
  refine fgM_Mo_41 (n := 71) C 42 rfl rfl h ?_
  refine i_iload_n (n := 72) C 43 rfl rfl rfl hl 2 rfl ?_
  refine i_dup2 (n := 73) C 44 rfl rfl rfl rfl ?_
  obtain ⟨hb, hw⟩ := hw
  refine i_iald (n := 74) C 45 rfl rfl h (wM_arr 10 (by decide) rfl) hb ?_
  refine i_aload_n (n := 75) C 46 rfl rfl rfl hl 0 rfl ?_
  refine fgM_Mo_16 (n := 78) C 47 rfl rfl h ?_
  refine i_iload_n (n := 79) C 48 rfl rfl rfl hl 2 rfl ?_
  obtain ⟨hb, hw⟩ := hw
  refine i_iald (n := 80) C 49 rfl rfl h (wM_arr 2 (by decide) rfl) hb ?_
  refine i_iconst (v := (1 : Int32)) (n := 81) C 50 rfl rfl rfl ?_
  refine i_iconst (v := (3 : Int32)) (n := 82) C 51 rfl rfl rfl ?_
  refine i_callSp (rest := [.int (A 10 x2.toNatClampNeg), .int x2, .ref (ad 11)]) (n := 85) C 52 rfl rfl hl h (kS_Mo_126 ⟨by decide, by decide⟩) (m_Mo_in hw) rfl rfl (Nat.le_of_ble_eq_true rfl) ⟨by decide, by decide⟩ (fun r7 hw => ?_)
  refine i_if_eq (tgt := 106) (n := 88) C 53 rfl rfl rfl (fun c8 => ?_) (fun c8 => ?_)
  · replace hw := hw.1 c8
    exact e_Mo_stepOnce_106 C hret hb9 I A x1 x2 x2 (A 10 x2.toNatClampNeg) ls _ _ hl h hw
  · replace hw := hw.2 c8
    refine i_aload_n (n := 89) C 54 rfl rfl rfl hl 0 rfl ?_
    refine fgM_Mo_44 (n := 92) C 55 rfl rfl h ?_
    refine i_iload_n (n := 93) C 56 rfl rfl rfl hl 2 rfl ?_
    obtain ⟨hb, hw⟩ := hw
    refine i_zald (n := 94) C 57 rfl rfl h (wM_arr 11 (by decide) rfl) hb ?_
    refine i_if_ne (tgt := 106) (n := 97) C 58 rfl rfl rfl (fun c9 => ?_) (fun c9 => ?_)
    · replace hw := hw.1 c9
      exact e_Mo_stepOnce_106 C hret hb9 I A x1 x2 x2 (A 10 x2.toNatClampNeg) ls _ _ hl h hw
    · replace hw := hw.2 c9
      refine i_aload_n (n := 98) C 59 rfl rfl rfl hl 0 rfl ?_
      refine fgM_Mo_104 (n := 101) C 60 rfl rfl h ?_
      refine i_iload_n (n := 102) C 61 rfl rfl rfl hl 2 rfl ?_
      obtain ⟨hb, hw⟩ := hw
      refine i_iald (n := 103) C 62 rfl rfl h (wM_arr 31 (by decide) rfl) hb ?_
      refine i_goto (tgt := 107) C 63 rfl rfl ?_
      exact e_Mo_stepOnce_107 C hret hb9 I A x1 x2 x2 (A 10 x2.toNatClampNeg) (A 31 x2.toNatClampNeg) ls _ _ hl h hw
set_option maxHeartbeats 4000000 in
set_option maxRecDepth 100000 in
theorem e_Mo_stepOnce_9   {P : Int32 → ((Nat → Int32) × (Nat → Nat → Int32)) → Prop} {kx9 : (Nat → Int32) → (Nat → Nat → Int32) → Int32 → Prop} (C : CX D cy R_Mo c_Mo_stepOnce tb_Mo_stepOnce 5 p s m args c Z) (hret : RetI p l e { frames := 4, cells := 0, slots := 0, locals := 95 } s m args below meth c c_Mo_stepOnce .int D Z Q (fun (u : (Nat → Int32) × (Nat → Nat → Int32)) => wM cy ad u.1 u.2) P 0 0)
    (hx9 : ∀ (I : Nat → Int32) (A : Nat → Nat → Int32) (x1 : Int32) (ls : Array Slot) (H : Heap) (locs : List Loc), lv_has ls 5 [(0, .ref (ad 0)), (1, .int x1)] → HXw D Z s.heap H locs (wM cy ad I A) → kx9 I A x1 → W p l e { frames := 4, cells := 0, slots := 0, locals := 95 } s m args below meth c H locs 0 0 Q (F0 m 115 ls [])) :
    ∀ (n : Nat) (I : Nat → Int32) (A : Nat → Nat → Int32) (x1 : Int32) (x2 : Int32) (ls : Array Slot) (H : Heap) (locs : List Loc), lv_has ls 5 [(0, .ref (ad 0)), (1, .int x1), (2, .int x2)] → HXw D Z s.heap H locs (wM cy ad I A) → g_Mo_stepOnce_9 P kx9 n I A x1 x2 → W p l e { frames := 4, cells := 0, slots := 0, locals := 95 } s m args below meth c H locs 0 0 Q (F0 m 9 ls []) := by
  intro n
  induction n with
  | zero => intro I A x1 x2 ls H locs hl h hw; exact hw.elim
  | succ n ih =>
    intro I A x1 x2 ls H locs hl h hw
    refine i_iload_n (n := 10) C 7 rfl rfl rfl hl 2 rfl ?_
    refine i_aload_n (n := 11) C 8 rfl rfl rfl hl 0 rfl ?_
    refine fgM_Mo_122 (n := 14) C 9 rfl rfl h ?_
    refine i_icmp_ge (tgt := 115) (n := 17) C 10 rfl rfl rfl (fun c3 => ?_) (fun c3 => ?_)
    · replace hw := hw.1 c3
      exact hx9 I A x1 ls _ _ (lv_sub hl [0, 1] rfl) h hw
    · replace hw := hw.2 c3
      refine i_aload_n (n := 18) C 11 rfl rfl rfl hl 0 rfl ?_
      refine fgM_Mo_107 (n := 21) C 12 rfl rfl h ?_
      refine i_iload_n (n := 22) C 13 rfl rfl rfl hl 2 rfl ?_
      refine i_aload_n (n := 23) C 14 rfl rfl rfl hl 0 rfl ?_
      refine i_iload_n (n := 24) C 15 rfl rfl rfl hl 2 rfl ?_
      refine i_callVp (rest := [.int x2, .ref (ad 33)]) (ci := 11) (qc := (R_Mo, T_Mo, 50)) (n := 27) C 16 rfl rfl hl h rfl (wM_get (h := 0) (by decide)) (kV_Mo_174 ⟨by decide, by decide⟩) (m_Mo_isSource hw) rfl rfl (Nat.le_of_ble_eq_true rfl) ⟨by decide, by decide⟩ (fun r4 hw => ?_)
      obtain ⟨hb, hw⟩ := hw
      refine i_zast (n := 28) C 17 rfl rfl h (wM_arr 32 (by decide) rfl) hb (wM_sA 32 (by decide) rfl _ _) (fun H locs h => ?_)
      refine i_aload_n (n := 29) C 18 rfl rfl rfl hl 0 rfl ?_
      refine fgM_Mo_104 (n := 32) C 19 rfl rfl h ?_
      refine i_iload_n (n := 33) C 20 rfl rfl rfl hl 2 rfl ?_
      refine i_aload_n (n := 34) C 21 rfl rfl rfl hl 0 rfl ?_
      refine i_iload_n (n := 35) C 22 rfl rfl rfl hl 2 rfl ?_
      refine i_callVp (rest := [.int x2, .ref (ad 32)]) (ci := 11) (qc := (R_Mo, T_Mo, 50)) (n := 38) C 23 rfl rfl hl h rfl (wM_get (h := 0) (by decide)) (kV_Mo_171 ⟨by decide, by decide⟩) (m_Mo_takes hw) rfl rfl (Nat.le_of_ble_eq_true rfl) ⟨by decide, by decide⟩ (fun r5 hw => ?_)
      obtain ⟨hb, hw⟩ := hw
      refine i_iast (n := 39) C 24 rfl rfl h (wM_arr 31 (by decide) rfl) hb (wM_sA 31 (by decide) rfl _ _) (fun H locs h => ?_)
      refine i_aload_n (n := 40) C 25 rfl rfl rfl hl 0 rfl ?_
      refine fgM_Mo_104 (n := 43) C 26 rfl rfl h ?_
      refine i_iload_n (n := 44) C 27 rfl rfl rfl hl 2 rfl ?_
      obtain ⟨hb, hw⟩ := hw
      refine i_iald (n := 45) C 28 rfl rfl h (wM_arr 31 (by decide) rfl) hb ?_
      refine i_iconst (v := (1 : Int32)) (n := 46) C 29 rfl rfl rfl ?_
      refine i_icmp_lt (tgt := 67) (n := 49) C 30 rfl rfl rfl (fun c6 => ?_) (fun c6 => ?_)
      · replace hw := hw.1 c6
        exact e_Mo_stepOnce_67 C hret ih I (sA (sA A 32 x2 (vp_nar .boolean r4)) 31 x2 r5) x1 x2 ls _ _ hl h hw
      · replace hw := hw.2 c6
        refine i_aload_n (n := 50) C 31 rfl rfl rfl hl 0 rfl ?_
        refine i_iload_n (n := 51) C 32 rfl rfl rfl hl 2 rfl ?_
        refine i_callVp (rest := []) (ci := 11) (qc := (R_Mo, T_Mo, 50)) (n := 54) C 33 rfl rfl hl h rfl (wM_get (h := 0) (by decide)) (kV_Mo_168 ⟨by decide, by decide⟩) (m_Mo_pressOf hw) rfl rfl (Nat.le_of_ble_eq_true rfl) ⟨by decide, by decide⟩ (fun r10 hw => ?_)
        refine i_if_ne (tgt := 67) (n := 57) C 34 rfl rfl rfl (fun c11 => ?_) (fun c11 => ?_)
        · replace hw := hw.1 c11
          exact e_Mo_stepOnce_67 C hret ih I (sA (sA A 32 x2 (vp_nar .boolean r4)) 31 x2 r5) x1 x2 ls _ _ hl h hw
        · replace hw := hw.2 c11
          refine i_aload_n (n := 58) C 35 rfl rfl rfl hl 0 rfl ?_
          refine fgM_Mo_104 (n := 61) C 36 rfl rfl h ?_
          refine i_iload_n (n := 62) C 37 rfl rfl rfl hl 2 rfl ?_
          refine i_iconst (v := (0 : Int32)) (n := 63) C 38 rfl rfl rfl ?_
          obtain ⟨hb, hw⟩ := hw
          refine i_iast (n := 64) C 39 rfl rfl h (wM_arr 31 (by decide) rfl) hb (wM_sA 31 (by decide) rfl _ _) (fun H locs h => ?_)
          refine i_iinc (v := x1 + (1 : Int32)) (lv' := [(1, .int (x1 + (1 : Int32))), (0, .ref (ad 0)), (2, .int x2)]) (n := 67) C 40 rfl rfl hl 1 rfl rfl (by decide) rfl (fun ls hl => ?_)
          exact e_Mo_stepOnce_67 C hret ih I (sA (sA (sA A 32 x2 (vp_nar .boolean r4)) 31 x2 r5) 31 x2 (0 : Int32)) (x1 + (1 : Int32)) x2 ls _ _ (lv_sub hl [1, 0, 2] rfl) h hw
set_option maxHeartbeats 4000000 in
set_option maxRecDepth 100000 in
theorem e_Mo_stepOnce_338   {P : Int32 → ((Nat → Int32) × (Nat → Nat → Int32)) → Prop} {kb117 : (Nat → Int32) → (Nat → Nat → Int32) → Int32 → Int32 → Prop} (C : CX D cy R_Mo c_Mo_stepOnce tb_Mo_stepOnce 5 p s m args c Z) (hret : RetI p l e { frames := 4, cells := 0, slots := 0, locals := 95 } s m args below meth c c_Mo_stepOnce .int D Z Q (fun (u : (Nat → Int32) × (Nat → Nat → Int32)) => wM cy ad u.1 u.2) P 0 0)
    (hb117 : ∀ (I : Nat → Int32) (A : Nat → Nat → Int32) (x1 : Int32) (x2 : Int32) (ls : Array Slot) (H : Heap) (locs : List Loc), lv_has ls 5 [(0, .ref (ad 0)), (1, .int x1), (2, .int x2)] → HXw D Z s.heap H locs (wM cy ad I A) → kb117 I A x1 x2 → W p l e { frames := 4, cells := 0, slots := 0, locals := 95 } s m args below meth c H locs 0 0 Q (F0 m 117 ls [])) :
    ∀ (I : Nat → Int32) (A : Nat → Nat → Int32) (x1 : Int32) (x2 : Int32) (s1 : Int32) (s2 : Int32) (ls : Array Slot) (H : Heap) (locs : List Loc), lv_has ls 5 [(0, .ref (ad 0)), (1, .int x1), (2, .int x2)] → HXw D Z s.heap H locs (wM cy ad I A) → g_Mo_stepOnce_338 P kb117 I A x1 x2 s1 s2 → W p l e { frames := 4, cells := 0, slots := 0, locals := 95 } s m args below meth c H locs 0 0 Q (F0 m 338 ls [.int s2, .int s1, .ref (ad 0)]) := by
  intro I A x1 x2 s1 s2 ls H locs hl h hw
  refine i_iadd (n := 339) C 196 rfl rfl ?_
  refine fpM_Mo_202 (n := 342) C 197 rfl rfl h (fun H locs h => ?_)
  refine i_iinc (v := x2 + (1 : Int32)) (lv' := [(2, .int (x2 + (1 : Int32))), (0, .ref (ad 0)), (1, .int x1)]) (n := 345) C 198 rfl rfl hl 2 rfl rfl (by decide) rfl (fun ls hl => ?_)
  refine i_goto (tgt := 117) C 199 rfl rfl ?_
  exact hb117 (va_up I 8 (s1 + s2)) A x1 (x2 + (1 : Int32)) ls _ _ (lv_sub hl [1, 2, 0] rfl) h hw
set_option maxHeartbeats 4000000 in
set_option maxRecDepth 100000 in
theorem e_Mo_stepOnce_337   {P : Int32 → ((Nat → Int32) × (Nat → Nat → Int32)) → Prop} {kb117 : (Nat → Int32) → (Nat → Nat → Int32) → Int32 → Int32 → Prop} (C : CX D cy R_Mo c_Mo_stepOnce tb_Mo_stepOnce 5 p s m args c Z) (hret : RetI p l e { frames := 4, cells := 0, slots := 0, locals := 95 } s m args below meth c c_Mo_stepOnce .int D Z Q (fun (u : (Nat → Int32) × (Nat → Nat → Int32)) => wM cy ad u.1 u.2) P 0 0)
    (hb117 : ∀ (I : Nat → Int32) (A : Nat → Nat → Int32) (x1 : Int32) (x2 : Int32) (ls : Array Slot) (H : Heap) (locs : List Loc), lv_has ls 5 [(0, .ref (ad 0)), (1, .int x1), (2, .int x2)] → HXw D Z s.heap H locs (wM cy ad I A) → kb117 I A x1 x2 → W p l e { frames := 4, cells := 0, slots := 0, locals := 95 } s m args below meth c H locs 0 0 Q (F0 m 117 ls [])) :
    ∀ (I : Nat → Int32) (A : Nat → Nat → Int32) (x1 : Int32) (x2 : Int32) (s1 : Int32) (ls : Array Slot) (H : Heap) (locs : List Loc), lv_has ls 5 [(0, .ref (ad 0)), (1, .int x1), (2, .int x2)] → HXw D Z s.heap H locs (wM cy ad I A) → g_Mo_stepOnce_337 P kb117 I A x1 x2 s1 → W p l e { frames := 4, cells := 0, slots := 0, locals := 95 } s m args below meth c H locs 0 0 Q (F0 m 337 ls [.int s1, .ref (ad 0)]) := by
  intro I A x1 x2 s1 ls H locs hl h hw
  refine i_iconst (v := (0 : Int32)) (n := 338) C 195 rfl rfl rfl ?_
  exact e_Mo_stepOnce_338 C hret hb117 I A x1 x2 s1 (0 : Int32) ls _ _ hl h hw
set_option maxHeartbeats 4000000 in
set_option maxRecDepth 100000 in
theorem e_Mo_stepOnce_294   {P : Int32 → ((Nat → Int32) × (Nat → Nat → Int32)) → Prop} {kb117 : (Nat → Int32) → (Nat → Nat → Int32) → Int32 → Int32 → Prop} (C : CX D cy R_Mo c_Mo_stepOnce tb_Mo_stepOnce 5 p s m args c Z) (hret : RetI p l e { frames := 4, cells := 0, slots := 0, locals := 95 } s m args below meth c c_Mo_stepOnce .int D Z Q (fun (u : (Nat → Int32) × (Nat → Nat → Int32)) => wM cy ad u.1 u.2) P 0 0)
    (hb117 : ∀ (I : Nat → Int32) (A : Nat → Nat → Int32) (x1 : Int32) (x2 : Int32) (ls : Array Slot) (H : Heap) (locs : List Loc), lv_has ls 5 [(0, .ref (ad 0)), (1, .int x1), (2, .int x2)] → HXw D Z s.heap H locs (wM cy ad I A) → kb117 I A x1 x2 → W p l e { frames := 4, cells := 0, slots := 0, locals := 95 } s m args below meth c H locs 0 0 Q (F0 m 117 ls [])) :
    ∀ (I : Nat → Int32) (A : Nat → Nat → Int32) (x1 : Int32) (x2 : Int32) (ls : Array Slot) (H : Heap) (locs : List Loc), lv_has ls 5 [(0, .ref (ad 0)), (1, .int x1), (2, .int x2)] → HXw D Z s.heap H locs (wM cy ad I A) → g_Mo_stepOnce_294 P kb117 I A x1 x2 → W p l e { frames := 4, cells := 0, slots := 0, locals := 95 } s m args below meth c H locs 0 0 Q (F0 m 294 ls []) := by
  intro I A x1 x2 ls H locs hl h hw
  refine i_aload_n (n := 295) C 170 rfl rfl rfl hl 0 rfl ?_
  refine i_dup (n := 296) C 171 rfl rfl rfl ?_
  refine fgM_Mo_202 (n := 299) C 172 rfl rfl h ?_
  refine i_aload_n (n := 300) C 173 rfl rfl rfl hl 0 rfl ?_
  refine fgM_Mo_16 (n := 303) C 174 rfl rfl h ?_
  refine i_iload_n (n := 304) C 175 rfl rfl rfl hl 2 rfl ?_
  obtain ⟨hb, hw⟩ := hw
  refine i_iald (n := 305) C 176 rfl rfl h (wM_arr 2 (by decide) rfl) hb ?_
  refine i_iconst (v := (5 : Int32)) (n := 306) C 177 rfl rfl rfl ?_
  refine i_icmp_ne (tgt := 337) (n := 309) C 178 rfl rfl rfl (fun c15 => ?_) (fun c15 => ?_)
  · replace hw := hw.1 c15
    exact e_Mo_stepOnce_337 C hret hb117 I A x1 x2 (I 8) ls _ _ hl h hw
  · replace hw := hw.2 c15
    refine i_aload_n (n := 310) C 179 rfl rfl rfl hl 0 rfl ?_
    refine fgM_Mo_34 (n := 313) C 180 rfl rfl h ?_
    refine i_iload_n (n := 314) C 181 rfl rfl rfl hl 2 rfl ?_
    obtain ⟨hb, hw⟩ := hw
    refine i_zald (n := 315) C 182 rfl rfl h (wM_arr 8 (by decide) rfl) hb ?_
    refine i_if_eq (tgt := 337) (n := 318) C 183 rfl rfl rfl (fun c16 => ?_) (fun c16 => ?_)
    · replace hw := hw.1 c16
      exact e_Mo_stepOnce_337 C hret hb117 I A x1 x2 (I 8) ls _ _ hl h hw
    · replace hw := hw.2 c16
      refine i_aload_n (n := 319) C 184 rfl rfl rfl hl 0 rfl ?_
      refine fgM_Mo_165 (n := 322) C 185 rfl rfl h ?_
      refine i_iconst (v := (4 : Int32)) (n := 323) C 186 rfl rfl rfl ?_
      refine i_irem (n := 324) C 187 rfl rfl (by decide) ?_
      refine i_iconst (v := (3 : Int32)) (n := 325) C 188 rfl rfl rfl ?_
      refine i_icmp_ne (tgt := 337) (n := 328) C 189 rfl rfl rfl (fun c17 => ?_) (fun c17 => ?_)
      · replace hw := hw.1 c17
        exact e_Mo_stepOnce_337 C hret hb117 I A x1 x2 (I 8) ls _ _ hl h hw
      · replace hw := hw.2 c17
        refine i_aload_n (n := 329) C 190 rfl rfl rfl hl 0 rfl ?_
        refine fgM_Mo_25 (n := 332) C 191 rfl rfl h ?_
        refine i_iload_n (n := 333) C 192 rfl rfl rfl hl 2 rfl ?_
        obtain ⟨hb, hw⟩ := hw
        refine i_iald (n := 334) C 193 rfl rfl h (wM_arr 5 (by decide) rfl) hb ?_
        refine i_goto (tgt := 338) C 194 rfl rfl ?_
        exact e_Mo_stepOnce_338 C hret hb117 I A x1 x2 (I 8) (A 5 x2.toNatClampNeg) ls _ _ hl h hw
set_option maxHeartbeats 4000000 in
set_option maxRecDepth 100000 in
theorem e_Mo_stepOnce_206   {P : Int32 → ((Nat → Int32) × (Nat → Nat → Int32)) → Prop} {kb145 : (Nat → Int32) → (Nat → Nat → Int32) → Int32 → Int32 → Int32 → Int32 → Prop} (C : CX D cy R_Mo c_Mo_stepOnce tb_Mo_stepOnce 5 p s m args c Z) (hret : RetI p l e { frames := 4, cells := 0, slots := 0, locals := 95 } s m args below meth c c_Mo_stepOnce .int D Z Q (fun (u : (Nat → Int32) × (Nat → Nat → Int32)) => wM cy ad u.1 u.2) P 0 0)
    (hb145 : ∀ (I : Nat → Int32) (A : Nat → Nat → Int32) (x1 : Int32) (x2 : Int32) (x3 : Int32) (x4 : Int32) (ls : Array Slot) (H : Heap) (locs : List Loc), lv_has ls 5 [(0, .ref (ad 0)), (1, .int x1), (2, .int x2), (3, .int x3), (4, .int x4)] → HXw D Z s.heap H locs (wM cy ad I A) → kb145 I A x1 x2 x3 x4 → W p l e { frames := 4, cells := 0, slots := 0, locals := 95 } s m args below meth c H locs 0 0 Q (F0 m 145 ls [])) :
    ∀ (I : Nat → Int32) (A : Nat → Nat → Int32) (x1 : Int32) (x2 : Int32) (x4 : Int32) (s0 : Int32) (s1 : Int32) (ls : Array Slot) (H : Heap) (locs : List Loc), lv_has ls 5 [(0, .ref (ad 0)), (1, .int x1), (2, .int x2), (4, .int x4)] → HXw D Z s.heap H locs (wM cy ad I A) → g_Mo_stepOnce_206 P kb145 I A x1 x2 x4 s0 s1 → W p l e { frames := 4, cells := 0, slots := 0, locals := 95 } s m args below meth c H locs 0 0 Q (F0 m 206 ls [.int s1, .int s0]) := by
  intro I A x1 x2 x4 s0 s1 ls H locs hl h hw
  refine i_isub (n := 207) C 120 rfl rfl ?_
  refine lv_topi (fun y23 ey23 => ?_)
  replace hw := hw y23 ey23
  refine i_istore_n (lv' := [(3, .int y23), (0, .ref (ad 0)), (1, .int x1), (2, .int x2), (4, .int x4)]) (n := 208) C 121 rfl rfl rfl hl (by decide) rfl (fun ls hl => ?_)
  refine i_iinc (v := x4 + (1 : Int32)) (lv' := [(4, .int (x4 + (1 : Int32))), (3, .int y23), (0, .ref (ad 0)), (1, .int x1), (2, .int x2)]) (n := 211) C 122 rfl rfl hl 4 rfl rfl (by decide) rfl (fun ls hl => ?_)
  refine i_goto (tgt := 145) C 123 rfl rfl ?_
  exact hb145 I A x1 x2 y23 (x4 + (1 : Int32)) ls _ _ (lv_sub hl [2, 3, 4, 1, 0] rfl) h hw
set_option maxHeartbeats 4000000 in
set_option maxRecDepth 100000 in
theorem e_Mo_stepOnce_145   {P : Int32 → ((Nat → Int32) × (Nat → Nat → Int32)) → Prop} {kx145 : (Nat → Int32) → (Nat → Nat → Int32) → Int32 → Int32 → Int32 → Prop} (C : CX D cy R_Mo c_Mo_stepOnce tb_Mo_stepOnce 5 p s m args c Z) (hret : RetI p l e { frames := 4, cells := 0, slots := 0, locals := 95 } s m args below meth c c_Mo_stepOnce .int D Z Q (fun (u : (Nat → Int32) × (Nat → Nat → Int32)) => wM cy ad u.1 u.2) P 0 0)
    (hx145 : ∀ (I : Nat → Int32) (A : Nat → Nat → Int32) (x1 : Int32) (x2 : Int32) (x3 : Int32) (ls : Array Slot) (H : Heap) (locs : List Loc), lv_has ls 5 [(0, .ref (ad 0)), (1, .int x1), (2, .int x2), (3, .int x3)] → HXw D Z s.heap H locs (wM cy ad I A) → kx145 I A x1 x2 x3 → W p l e { frames := 4, cells := 0, slots := 0, locals := 95 } s m args below meth c H locs 0 0 Q (F0 m 214 ls [])) :
    ∀ (n : Nat) (I : Nat → Int32) (A : Nat → Nat → Int32) (x1 : Int32) (x2 : Int32) (x3 : Int32) (x4 : Int32) (ls : Array Slot) (H : Heap) (locs : List Loc), lv_has ls 5 [(0, .ref (ad 0)), (1, .int x1), (2, .int x2), (3, .int x3), (4, .int x4)] → HXw D Z s.heap H locs (wM cy ad I A) → g_Mo_stepOnce_145 P kx145 n I A x1 x2 x3 x4 → W p l e { frames := 4, cells := 0, slots := 0, locals := 95 } s m args below meth c H locs 0 0 Q (F0 m 145 ls []) := by
  intro n
  induction n with
  | zero => intro I A x1 x2 x3 x4 ls H locs hl h hw; exact hw.elim
  | succ n ih =>
    intro I A x1 x2 x3 x4 ls H locs hl h hw
    refine i_iload (n := 147) C 88 rfl rfl hl 4 rfl ?_
    refine i_aload_n (n := 148) C 89 rfl rfl rfl hl 0 rfl ?_
    refine fgM_Mo_130 (n := 151) C 90 rfl rfl h ?_
    refine i_icmp_ge (tgt := 214) (n := 154) C 91 rfl rfl rfl (fun c19 => ?_) (fun c19 => ?_)
    · replace hw := hw.1 c19
      exact hx145 I A x1 x2 x3 ls _ _ (lv_sub hl [0, 1, 2, 3] rfl) h hw
    · replace hw := hw.2 c19
      refine i_aload_n (n := 155) C 92 rfl rfl rfl hl 0 rfl ?_
      refine fgM_Mo_107 (n := 158) C 93 rfl rfl h ?_
      refine i_iload_n (n := 159) C 94 rfl rfl rfl hl 2 rfl ?_
      obtain ⟨hb, hw⟩ := hw
      refine i_zald (n := 160) C 95 rfl rfl h (wM_arr 32 (by decide) rfl) hb ?_
      refine i_if_eq (tgt := 214) (n := 163) C 96 rfl rfl rfl (fun c20 => ?_) (fun c20 => ?_)
      · replace hw := hw.1 c20
        exact hx145 I A x1 x2 x3 ls _ _ (lv_sub hl [0, 1, 2, 3] rfl) h hw
      · replace hw := hw.2 c20
        refine i_iload_n (n := 164) C 97 rfl rfl rfl hl 3 rfl ?_
        refine i_aload_n (n := 165) C 98 rfl rfl rfl hl 0 rfl ?_
        refine fgM_Mo_53 (n := 168) C 99 rfl rfl h ?_
        refine i_iload (n := 170) C 100 rfl rfl hl 4 rfl ?_
        obtain ⟨hb, hw⟩ := hw
        refine i_iald (n := 171) C 101 rfl rfl h (wM_arr 14 (by decide) rfl) hb ?_
        refine i_iload_n (n := 172) C 102 rfl rfl rfl hl 2 rfl ?_
        refine i_icmp_ne (tgt := 184) (n := 175) C 103 rfl rfl rfl (fun c21 => ?_) (fun c21 => ?_)
        · replace hw := hw.1 c21
          refine i_aload_n (n := 185) C 108 rfl rfl rfl hl 0 rfl ?_
          refine fgM_Mo_56 (n := 188) C 109 rfl rfl h ?_
          refine i_iload (n := 190) C 110 rfl rfl hl 4 rfl ?_
          obtain ⟨hb, hw⟩ := hw
          refine i_iald (n := 191) C 111 rfl rfl h (wM_arr 15 (by decide) rfl) hb ?_
          refine i_iload_n (n := 192) C 112 rfl rfl rfl hl 2 rfl ?_
          refine i_icmp_ne (tgt := 205) (n := 195) C 113 rfl rfl rfl (fun c22 => ?_) (fun c22 => ?_)
          · replace hw := hw.1 c22
            refine i_iconst (v := (0 : Int32)) (n := 206) C 119 rfl rfl rfl ?_
            exact e_Mo_stepOnce_206 C hret ih I A x1 x2 x4 x3 (0 : Int32) ls _ _ (lv_sub hl [0, 1, 2, 4] rfl) h hw
          · replace hw := hw.2 c22
            refine i_aload_n (n := 196) C 114 rfl rfl rfl hl 0 rfl ?_
            refine i_iload (n := 198) C 115 rfl rfl hl 4 rfl ?_
            refine i_callVp (rest := [.int x3]) (ci := 11) (qc := (R_Mo, T_Mo, 50)) (n := 201) C 116 rfl rfl hl h rfl (wM_get (h := 0) (by decide)) (kV_Mo_196 ⟨by decide, by decide⟩) (m_Mo_flowOf hw) rfl rfl (Nat.le_of_ble_eq_true rfl) ⟨by decide, by decide⟩ (fun r24 hw => ?_)
            refine i_ineg (n := 202) C 117 rfl rfl ?_
            refine i_goto (tgt := 206) C 118 rfl rfl ?_
            exact e_Mo_stepOnce_206 C hret ih I A x1 x2 x4 x3 (-r24) ls _ _ (lv_sub hl [0, 1, 2, 4] rfl) h hw
        · replace hw := hw.2 c21
          refine i_aload_n (n := 176) C 104 rfl rfl rfl hl 0 rfl ?_
          refine i_iload (n := 178) C 105 rfl rfl hl 4 rfl ?_
          refine i_callVp (rest := [.int x3]) (ci := 11) (qc := (R_Mo, T_Mo, 50)) (n := 181) C 106 rfl rfl hl h rfl (wM_get (h := 0) (by decide)) (kV_Mo_196 ⟨by decide, by decide⟩) (m_Mo_flowOf hw) rfl rfl (Nat.le_of_ble_eq_true rfl) ⟨by decide, by decide⟩ (fun r25 hw => ?_)
          refine i_goto (tgt := 206) C 107 rfl rfl ?_
          exact e_Mo_stepOnce_206 C hret ih I A x1 x2 x4 x3 r25 ls _ _ (lv_sub hl [0, 1, 2, 4] rfl) h hw
set_option maxHeartbeats 4000000 in
set_option maxRecDepth 100000 in
theorem e_Mo_stepOnce_293   {P : Int32 → ((Nat → Int32) × (Nat → Nat → Int32)) → Prop} {kb117 : (Nat → Int32) → (Nat → Nat → Int32) → Int32 → Int32 → Prop} (C : CX D cy R_Mo c_Mo_stepOnce tb_Mo_stepOnce 5 p s m args c Z) (hret : RetI p l e { frames := 4, cells := 0, slots := 0, locals := 95 } s m args below meth c c_Mo_stepOnce .int D Z Q (fun (u : (Nat → Int32) × (Nat → Nat → Int32)) => wM cy ad u.1 u.2) P 0 0)
    (hb117 : ∀ (I : Nat → Int32) (A : Nat → Nat → Int32) (x1 : Int32) (x2 : Int32) (ls : Array Slot) (H : Heap) (locs : List Loc), lv_has ls 5 [(0, .ref (ad 0)), (1, .int x1), (2, .int x2)] → HXw D Z s.heap H locs (wM cy ad I A) → kb117 I A x1 x2 → W p l e { frames := 4, cells := 0, slots := 0, locals := 95 } s m args below meth c H locs 0 0 Q (F0 m 117 ls [])) :
    ∀ (I : Nat → Int32) (A : Nat → Nat → Int32) (x1 : Int32) (x2 : Int32) (s1 : Int32) (s2 : Int32) (ls : Array Slot) (H : Heap) (locs : List Loc), lv_has ls 5 [(0, .ref (ad 0)), (1, .int x1), (2, .int x2)] → HXw D Z s.heap H locs (wM cy ad I A) → g_Mo_stepOnce_293 P kb117 I A x1 x2 s1 s2 → W p l e { frames := 4, cells := 0, slots := 0, locals := 95 } s m args below meth c H locs 0 0 Q (F0 m 293 ls [.int s2, .int s1, .ref (ad 8)]) := by
  intro I A x1 x2 s1 s2 ls H locs hl h hw
  obtain ⟨hb, hw⟩ := hw
  refine i_iast (n := 294) C 169 rfl rfl h (wM_arr 7 (by decide) rfl) hb (wM_sA 7 (by decide) rfl _ _) (fun H locs h => ?_)
  exact e_Mo_stepOnce_294 C hret hb117 I (sA A 7 s1 s2) x1 x2 ls _ _ hl h hw
set_option maxHeartbeats 4000000 in
set_option maxRecDepth 100000 in
theorem e_Mo_stepOnce_253   {P : Int32 → ((Nat → Int32) × (Nat → Nat → Int32)) → Prop} {kb117 : (Nat → Int32) → (Nat → Nat → Int32) → Int32 → Int32 → Prop} (C : CX D cy R_Mo c_Mo_stepOnce tb_Mo_stepOnce 5 p s m args c Z) (hret : RetI p l e { frames := 4, cells := 0, slots := 0, locals := 95 } s m args below meth c c_Mo_stepOnce .int D Z Q (fun (u : (Nat → Int32) × (Nat → Nat → Int32)) => wM cy ad u.1 u.2) P 0 0)
    (hb117 : ∀ (I : Nat → Int32) (A : Nat → Nat → Int32) (x1 : Int32) (x2 : Int32) (ls : Array Slot) (H : Heap) (locs : List Loc), lv_has ls 5 [(0, .ref (ad 0)), (1, .int x1), (2, .int x2)] → HXw D Z s.heap H locs (wM cy ad I A) → kb117 I A x1 x2 → W p l e { frames := 4, cells := 0, slots := 0, locals := 95 } s m args below meth c H locs 0 0 Q (F0 m 117 ls [])) :
    ∀ (I : Nat → Int32) (A : Nat → Nat → Int32) (x1 : Int32) (x2 : Int32) (x4 : Int32) (s1 : Int32) (s2 : Int32) (ls : Array Slot) (H : Heap) (locs : List Loc), lv_has ls 5 [(0, .ref (ad 0)), (1, .int x1), (2, .int x2), (4, .int x4)] → HXw D Z s.heap H locs (wM cy ad I A) → g_Mo_stepOnce_253 P kb117 I A x1 x2 x4 s1 s2 → W p l e { frames := 4, cells := 0, slots := 0, locals := 95 } s m args below meth c H locs 0 0 Q (F0 m 253 ls [.int s2, .int s1, .ref (ad 0)]) := by
  intro I A x1 x2 x4 s1 s2 ls H locs hl h hw
  refine i_iadd (n := 254) C 148 rfl rfl ?_
  refine fpM_Mo_199 (n := 257) C 149 rfl rfl h (fun H locs h => ?_)
  refine i_aload_n (n := 258) C 150 rfl rfl rfl hl 0 rfl ?_
  refine fgM_Mo_31 (n := 261) C 151 rfl rfl h ?_
  refine i_iload_n (n := 262) C 152 rfl rfl rfl hl 2 rfl ?_
  refine i_iload (n := 264) C 153 rfl rfl hl 3 rfl ?_
  refine i_if_ge (tgt := 271) (n := 267) C 154 rfl rfl rfl (fun c29 => ?_) (fun c29 => ?_)
  · replace hw := hw.1 c29
    refine i_iload (n := 273) C 157 rfl rfl hl 3 rfl ?_
    refine i_aload_n (n := 274) C 158 rfl rfl rfl hl 0 rfl ?_
    refine fgM_Mo_22 (n := 277) C 159 rfl rfl h ?_
    refine i_iload_n (n := 278) C 160 rfl rfl rfl hl 2 rfl ?_
    obtain ⟨hb, hw⟩ := hw
    refine i_iald (n := 279) C 161 rfl rfl h (wM_arr 4 (by decide) rfl) hb ?_
    refine i_icmp_le (tgt := 291) (n := 282) C 162 rfl rfl rfl (fun c30 => ?_) (fun c30 => ?_)
    · replace hw := hw.1 c30
      refine i_iload (n := 293) C 168 rfl rfl hl 3 rfl ?_
      exact e_Mo_stepOnce_293 C hret hb117 (va_up I 7 (s1 + s2)) A x1 x2 x2 x4 ls _ _ (lv_sub hl [0, 1, 2] rfl) h hw
    · replace hw := hw.2 c30
      refine i_aload_n (n := 283) C 163 rfl rfl rfl hl 0 rfl ?_
      refine fgM_Mo_22 (n := 286) C 164 rfl rfl h ?_
      refine i_iload_n (n := 287) C 165 rfl rfl rfl hl 2 rfl ?_
      obtain ⟨hb, hw⟩ := hw
      refine i_iald (n := 288) C 166 rfl rfl h (wM_arr 4 (by decide) rfl) hb ?_
      refine i_goto (tgt := 293) C 167 rfl rfl ?_
      exact e_Mo_stepOnce_293 C hret hb117 (va_up I 7 (s1 + s2)) A x1 x2 x2 (A 4 x2.toNatClampNeg) ls _ _ (lv_sub hl [0, 1, 2] rfl) h hw
  · replace hw := hw.2 c29
    refine i_iconst (v := (0 : Int32)) (n := 268) C 155 rfl rfl rfl ?_
    refine i_goto (tgt := 293) C 156 rfl rfl ?_
    exact e_Mo_stepOnce_293 C hret hb117 (va_up I 7 (s1 + s2)) A x1 x2 x2 (0 : Int32) ls _ _ (lv_sub hl [0, 1, 2] rfl) h hw
set_option maxHeartbeats 4000000 in
set_option maxRecDepth 100000 in
theorem e_Mo_stepOnce_214   {P : Int32 → ((Nat → Int32) × (Nat → Nat → Int32)) → Prop} {kb117 : (Nat → Int32) → (Nat → Nat → Int32) → Int32 → Int32 → Prop} (C : CX D cy R_Mo c_Mo_stepOnce tb_Mo_stepOnce 5 p s m args c Z) (hret : RetI p l e { frames := 4, cells := 0, slots := 0, locals := 95 } s m args below meth c c_Mo_stepOnce .int D Z Q (fun (u : (Nat → Int32) × (Nat → Nat → Int32)) => wM cy ad u.1 u.2) P 0 0)
    (hb117 : ∀ (I : Nat → Int32) (A : Nat → Nat → Int32) (x1 : Int32) (x2 : Int32) (ls : Array Slot) (H : Heap) (locs : List Loc), lv_has ls 5 [(0, .ref (ad 0)), (1, .int x1), (2, .int x2)] → HXw D Z s.heap H locs (wM cy ad I A) → kb117 I A x1 x2 → W p l e { frames := 4, cells := 0, slots := 0, locals := 95 } s m args below meth c H locs 0 0 Q (F0 m 117 ls [])) :
    ∀ (I : Nat → Int32) (A : Nat → Nat → Int32) (x1 : Int32) (x2 : Int32) (x3 : Int32) (ls : Array Slot) (H : Heap) (locs : List Loc), lv_has ls 5 [(0, .ref (ad 0)), (1, .int x1), (2, .int x2), (3, .int x3)] → HXw D Z s.heap H locs (wM cy ad I A) → g_Mo_stepOnce_214 P kb117 I A x1 x2 x3 → W p l e { frames := 4, cells := 0, slots := 0, locals := 95 } s m args below meth c H locs 0 0 Q (F0 m 214 ls []) := by
  intro I A x1 x2 x3 ls H locs hl h hw
  refine i_aload_n (n := 215) C 124 rfl rfl rfl hl 0 rfl ?_
  refine fgM_Mo_31 (n := 218) C 125 rfl rfl h ?_
  refine i_iload_n (n := 219) C 126 rfl rfl rfl hl 2 rfl ?_
  obtain ⟨hb, hw⟩ := hw
  refine i_iald (n := 220) C 127 rfl rfl h (wM_arr 7 (by decide) rfl) hb ?_
  refine i_iload_n (n := 221) C 128 rfl rfl rfl hl 3 rfl ?_
  refine i_iadd (n := 222) C 129 rfl rfl ?_
  refine lv_topi (fun y27 ey27 => ?_)
  replace hw := hw y27 ey27
  refine i_istore (lv' := [(4, .int y27), (0, .ref (ad 0)), (1, .int x1), (2, .int x2), (3, .int x3)]) (n := 224) C 130 rfl rfl hl (by decide) rfl (fun ls hl => ?_)
  refine i_aload_n (n := 225) C 131 rfl rfl rfl hl 1 rfl ?_
  refine i_dup (n := 226) C 132 rfl rfl rfl ?_
  refine fgM_Mo_199 (n := 229) C 133 rfl rfl h ?_
  refine i_iload (n := 231) C 134 rfl rfl hl 0 rfl ?_
  refine i_aload_n (n := 232) C 135 rfl rfl rfl hl 1 rfl ?_
  refine fgM_Mo_22 (n := 235) C 136 rfl rfl h ?_
  refine i_iload_n (n := 236) C 137 rfl rfl rfl hl 3 rfl ?_
  obtain ⟨hb, hw⟩ := hw
  refine i_iald (n := 237) C 138 rfl rfl h (wM_arr 4 (by decide) rfl) hb ?_
  refine i_icmp_le (tgt := 252) (n := 240) C 139 rfl rfl rfl (fun c28 => ?_) (fun c28 => ?_)
  · replace hw := hw.1 c28
    refine i_iconst (v := (0 : Int32)) (n := 253) C 147 rfl rfl rfl ?_
    exact e_Mo_stepOnce_253 C hret hb117 I A x1 x2 y27 (I 7) (0 : Int32) ls _ _ (lv_sub hl [1, 2, 3, 0] rfl) h hw
  · replace hw := hw.2 c28
    refine i_iload (n := 242) C 140 rfl rfl hl 0 rfl ?_
    refine i_aload_n (n := 243) C 141 rfl rfl rfl hl 1 rfl ?_
    refine fgM_Mo_22 (n := 246) C 142 rfl rfl h ?_
    refine i_iload_n (n := 247) C 143 rfl rfl rfl hl 3 rfl ?_
    obtain ⟨hb, hw⟩ := hw
    refine i_iald (n := 248) C 144 rfl rfl h (wM_arr 4 (by decide) rfl) hb ?_
    refine i_isub (n := 249) C 145 rfl rfl ?_
    refine i_goto (tgt := 253) C 146 rfl rfl ?_
    exact e_Mo_stepOnce_253 C hret hb117 I A x1 x2 y27 (I 7) (y27 - (A 4 x2.toNatClampNeg)) ls _ _ (lv_sub hl [1, 2, 3, 0] rfl) h hw
set_option maxHeartbeats 4000000 in
set_option maxRecDepth 100000 in
theorem e_Mo_stepOnce_117   {P : Int32 → ((Nat → Int32) × (Nat → Nat → Int32)) → Prop} {kx117 : (Nat → Int32) → (Nat → Nat → Int32) → Int32 → Prop} (C : CX D cy R_Mo c_Mo_stepOnce tb_Mo_stepOnce 5 p s m args c Z) (hret : RetI p l e { frames := 4, cells := 0, slots := 0, locals := 95 } s m args below meth c c_Mo_stepOnce .int D Z Q (fun (u : (Nat → Int32) × (Nat → Nat → Int32)) => wM cy ad u.1 u.2) P 0 0)
    (hx117 : ∀ (I : Nat → Int32) (A : Nat → Nat → Int32) (x1 : Int32) (ls : Array Slot) (H : Heap) (locs : List Loc), lv_has ls 5 [(0, .ref (ad 0)), (1, .int x1)] → HXw D Z s.heap H locs (wM cy ad I A) → kx117 I A x1 → W p l e { frames := 4, cells := 0, slots := 0, locals := 95 } s m args below meth c H locs 0 0 Q (F0 m 348 ls [])) :
    ∀ (n : Nat) (I : Nat → Int32) (A : Nat → Nat → Int32) (x1 : Int32) (x2 : Int32) (ls : Array Slot) (H : Heap) (locs : List Loc), lv_has ls 5 [(0, .ref (ad 0)), (1, .int x1), (2, .int x2)] → HXw D Z s.heap H locs (wM cy ad I A) → g_Mo_stepOnce_117 P kx117 n I A x1 x2 → W p l e { frames := 4, cells := 0, slots := 0, locals := 95 } s m args below meth c H locs 0 0 Q (F0 m 117 ls []) := by
  intro n
  induction n with
  | zero => intro I A x1 x2 ls H locs hl h hw; exact hw.elim
  | succ n ih =>
    intro I A x1 x2 ls H locs hl h hw
    refine i_iload_n (n := 118) C 71 rfl rfl rfl hl 2 rfl ?_
    refine i_aload_n (n := 119) C 72 rfl rfl rfl hl 0 rfl ?_
    refine fgM_Mo_122 (n := 122) C 73 rfl rfl h ?_
    refine i_icmp_ge (tgt := 348) (n := 125) C 74 rfl rfl rfl (fun c13 => ?_) (fun c13 => ?_)
    · replace hw := hw.1 c13
      exact hx117 I A x1 ls _ _ (lv_sub hl [0, 1] rfl) h hw
    · replace hw := hw.2 c13
      refine i_aload_n (n := 126) C 75 rfl rfl rfl hl 0 rfl ?_
      refine fgM_Mo_16 (n := 129) C 76 rfl rfl h ?_
      refine i_iload_n (n := 130) C 77 rfl rfl rfl hl 2 rfl ?_
      obtain ⟨hb, hw⟩ := hw
      refine i_iald (n := 131) C 78 rfl rfl h (wM_arr 2 (by decide) rfl) hb ?_
      refine i_iconst (v := (4 : Int32)) (n := 132) C 79 rfl rfl rfl ?_
      refine i_icmp_ne (tgt := 294) (n := 135) C 80 rfl rfl rfl (fun c14 => ?_) (fun c14 => ?_)
      · replace hw := hw.1 c14
        exact e_Mo_stepOnce_294 C hret ih I A x1 x2 ls _ _ hl h hw
      · replace hw := hw.2 c14
        refine i_aload_n (n := 136) C 81 rfl rfl rfl hl 0 rfl ?_
        refine fgM_Mo_104 (n := 139) C 82 rfl rfl h ?_
        refine i_iload_n (n := 140) C 83 rfl rfl rfl hl 2 rfl ?_
        obtain ⟨hb, hw⟩ := hw
        refine i_iald (n := 141) C 84 rfl rfl h (wM_arr 31 (by decide) rfl) hb ?_
        refine lv_topi (fun y18 ey18 => ?_)
        replace hw := hw y18 ey18
        refine i_istore_n (lv' := [(3, .int y18), (0, .ref (ad 0)), (1, .int x1), (2, .int x2)]) (n := 142) C 85 rfl rfl rfl hl (by decide) rfl (fun ls hl => ?_)
        refine i_iconst (v := (0 : Int32)) (n := 143) C 86 rfl rfl rfl ?_
        refine i_istore (lv' := [(4, .int (0 : Int32)), (3, .int y18), (0, .ref (ad 0)), (1, .int x1), (2, .int x2)]) (n := 145) C 87 rfl rfl hl (by decide) rfl (fun ls hl => ?_)
        obtain ⟨n26, hw⟩ := hw
        refine e_Mo_stepOnce_145 C hret (fun I_26 A_26 x1_26 x2_26 x3_26 ls H locs hl h hw => ?_) n26 I A x1 x2 y18 (0 : Int32) ls _ _ (lv_sub hl [2, 3, 4, 1, 0] rfl) h hw
        have hl : lv_has ls 5 [(0, .ref (ad 0)), (1, .int x1_26), (2, .int x2_26), (3, .int x3_26)] := hl
        exact e_Mo_stepOnce_214 C hret ih I_26 A_26 x1_26 x2_26 x3_26 ls _ _ hl h hw
set_option maxHeartbeats 4000000 in
set_option maxRecDepth 100000 in
theorem m_Mo_stepOnce {l : Launch} {D : va_G} {cy : Nat → ClassId} {ad : Nat → Nat} {I : Nat → Int32} {A : Nat → Nat → Int32}  {P : Int32 → ((Nat → Int32) × (Nat → Nat → Int32)) → Prop} (hw : g_Mo_stepOnce I A P) : ∀ sz, Met l y_Mo_stepOnce (WL y_Mo_stepOnce c_Mo_stepOnce 5 (some .int)) { frames := 4, cells := 0, slots := 0, locals := 95 } (va_Pc [.ref (ad 0)] (PreW D cy (wM cy ad I A) sz)) (va_Qi P (fun u t => PostW D (va_A (wM cy ad I A) sz) ((fun (u : (Nat → Int32) × (Nat → Nat → Int32)) => wM cy ad u.1 u.2) u) t) (va_A (wM cy ad I A) sz)) 0 0 (va_A (wM cy ad I A) sz) := by
  refine met_i (wf := fun (u : (Nat → Int32) × (Nat → Nat → Int32)) => wM cy ad u.1 u.2) R_Mo .int db_Mo_stepOnce (by decide) rfl rfl (Nat.le_of_ble_eq_true rfl) ?_
  intro p e s m below meth c Z Q ls C h hl hret
  have hl : lv_has ls 5 [(0, .ref (ad 0))] := hl
  refine i_aload_n (n := 1) C 0 rfl rfl rfl hl 0 rfl ?_
  refine i_callVi (rest := []) (ci := 11) (qc := (R_Mo, T_Mo, 50)) (n := 4) C 1 rfl rfl hl h rfl (wM_get (h := 0) (by decide)) (kV_Mo_190 ⟨by decide, by decide⟩) (m_Mo_workNet hw) rfl rfl (Nat.le_of_ble_eq_true rfl) ⟨by decide, by decide⟩ (fun r1 u2 H locs hw h => ?_)
  refine i_pop (n := 5) C 2 rfl rfl rfl ?_
  refine i_iconst (v := (0 : Int32)) (n := 6) C 3 rfl rfl rfl ?_
  refine i_istore_n (lv' := [(1, .int (0 : Int32)), (0, .ref (ad 0))]) (n := 7) C 4 rfl rfl rfl hl (by decide) rfl (fun ls hl => ?_)
  refine i_iconst (v := (0 : Int32)) (n := 8) C 5 rfl rfl rfl ?_
  refine i_istore_n (lv' := [(2, .int (0 : Int32)), (1, .int (0 : Int32)), (0, .ref (ad 0))]) (n := 9) C 6 rfl rfl rfl hl (by decide) rfl (fun ls hl => ?_)
  obtain ⟨n12, hw⟩ := hw
  refine e_Mo_stepOnce_9 C hret (fun I_12 A_12 x1_12 ls H locs hl h hw => ?_) n12 u2.1 u2.2 (0 : Int32) (0 : Int32) ls _ _ (lv_sub hl [2, 1, 0] rfl) h hw
  have hl : lv_has ls 5 [(0, .ref (ad 0)), (1, .int x1_12)] := hl
  refine i_iconst (v := (0 : Int32)) (n := 116) C 69 rfl rfl rfl ?_
  refine i_istore_n (lv' := [(2, .int (0 : Int32)), (0, .ref (ad 0)), (1, .int x1_12)]) (n := 117) C 70 rfl rfl rfl hl (by decide) rfl (fun ls hl => ?_)
  obtain ⟨n31, hw⟩ := hw
  refine e_Mo_stepOnce_117 C hret (fun I_31 A_31 x1_31 ls H locs hl h hw => ?_) n31 I_12 A_12 x1_12 (0 : Int32) ls _ _ (lv_sub hl [1, 2, 0] rfl) h hw
  have hl : lv_has ls 5 [(0, .ref (ad 0)), (1, .int x1_31)] := hl
  refine i_aload_n (n := 349) C 200 rfl rfl rfl hl 0 rfl ?_
  refine i_dup (n := 350) C 201 rfl rfl rfl ?_
  refine fgM_Mo_165 (n := 353) C 202 rfl rfl h ?_
  refine i_iconst (v := (1 : Int32)) (n := 354) C 203 rfl rfl rfl ?_
  refine i_iadd (n := 355) C 204 rfl rfl ?_
  refine fpM_Mo_165 (n := 358) C 205 rfl rfl h (fun H locs h => ?_)
  refine i_aload_n (n := 359) C 206 rfl rfl rfl hl 0 rfl ?_
  refine i_dup (n := 360) C 207 rfl rfl rfl ?_
  refine fgM_Mo_205 (n := 363) C 208 rfl rfl h ?_
  refine i_iload_n (n := 364) C 209 rfl rfl rfl hl 1 rfl ?_
  refine i_iadd (n := 365) C 210 rfl rfl ?_
  refine fpM_Mo_205 (n := 368) C 211 rfl rfl h (fun H locs h => ?_)
  refine i_iload_n (n := 369) C 212 rfl rfl rfl hl 1 rfl ?_
  exact hret _ (va_up (va_up I_31 3 ((I_31 3) + (1 : Int32))) 6 (((va_up I_31 3 ((I_31 3) + (1 : Int32))) 6) + x1_31), A_31) _ _ _ _ rfl hw h (C.dg (k := 213) rfl)
end S211
theorem kV_Mo_208 {R : Room} {s : State} {args : Array Value} (hR : 4 + 1 ≤ R.frames ∧ 8 + (5 + 11) + 95 ≤ R.locals) (ht : ∀ w ∈ GW, w.before args s = true) : CallW R s args R_Mo R_Mo 208 y_Mo_stepOnce c_Mo_stepOnce 5 (some .int) (WL y_Mo_stepOnce c_Mo_stepOnce 5 (some .int)) { frames := 4, cells := 0, slots := 0, locals := 95 } 0 0 0 := cwV 0 ht (GW_v w_6_169 w_6_171 w_0_42 w_1_7 (GW_wl w_6_172)) rfl rfl rfl (by decide +kernel) hR
section S212
variable {p : Program} {l : Launch} {e : Env} {R : Room} {s : State} {m : MethodId} {args : Array Value} {below : List Frame} {meth : Method} {c : Code} {H : Heap} {locs : List Loc} {cells slots : Nat} {Q : State → Prop}
variable {cc : ByteArray} {pc n nL : Nat} {ls : Array Slot} {rest : List Value} {D : va_G} {cy : Nat → ClassId} {Z : Nat → Prop} {ad : Nat → Nat} {tb : List (Nat × Instr × Nat)} {lv : List (Nat × Value)}
set_option maxHeartbeats 4000000 in
set_option maxRecDepth 100000 in
theorem e_Mo_step_18  {a1 : Int32} {P : Int32 → ((Nat → Int32) × (Nat → Nat → Int32)) → Prop} {kx18 : (Nat → Int32) → (Nat → Nat → Int32) → Int32 → Prop} (C : CX D cy R_Mo c_Mo_step tb_Mo_step 4 p s m args c Z) (hret : RetI p l e { frames := 5, cells := 0, slots := 0, locals := 119 } s m args below meth c c_Mo_step .int D Z Q (fun (u : (Nat → Int32) × (Nat → Nat → Int32)) => wM cy ad u.1 u.2) P 0 0)
    (hx18 : ∀ (I : Nat → Int32) (A : Nat → Nat → Int32) (x2 : Int32) (ls : Array Slot) (H : Heap) (locs : List Loc), lv_has ls 4 [(2, .int x2)] → HXw D Z s.heap H locs (wM cy ad I A) → kx18 I A x2 → W p l e { frames := 5, cells := 0, slots := 0, locals := 119 } s m args below meth c H locs 0 0 Q (F0 m 36 ls [])) :
    ∀ (n : Nat) (I : Nat → Int32) (A : Nat → Nat → Int32) (x2 : Int32) (x3 : Int32) (ls : Array Slot) (H : Heap) (locs : List Loc), lv_has ls 4 [(0, .ref (ad 0)), (1, .int a1), (2, .int x2), (3, .int x3)] → HXw D Z s.heap H locs (wM cy ad I A) → g_Mo_step_18 a1 P kx18 n I A x2 x3 → W p l e { frames := 5, cells := 0, slots := 0, locals := 119 } s m args below meth c H locs 0 0 Q (F0 m 18 ls []) := by
  intro n
  induction n with
  | zero => intro I A x2 x3 ls H locs hl h hw; exact hw.elim
  | succ n ih =>
    intro I A x2 x3 ls H locs hl h hw
    refine i_iload_n (n := 19) C 11 rfl rfl rfl hl 3 rfl ?_
    refine i_iload_n (n := 20) C 12 rfl rfl rfl hl 1 rfl ?_
    refine i_icmp_ge (tgt := 36) (n := 23) C 13 rfl rfl rfl (fun c3 => ?_) (fun c3 => ?_)
    · replace hw := hw.1 c3
      exact hx18 I A x2 ls _ _ (lv_sub hl [2] rfl) h hw
    · replace hw := hw.2 c3
      refine i_iload_n (n := 24) C 14 rfl rfl rfl hl 2 rfl ?_
      refine i_aload_n (n := 25) C 15 rfl rfl rfl hl 0 rfl ?_
      refine i_callVi (rest := [.int x2]) (ci := 11) (qc := (R_Mo, T_Mo, 50)) (n := 28) C 16 rfl rfl hl h rfl (wM_get (h := 0) (by decide)) (kV_Mo_208 ⟨by decide, by decide⟩) (m_Mo_stepOnce hw) rfl rfl (Nat.le_of_ble_eq_true rfl) ⟨by decide, by decide⟩ (fun r4 u5 H locs hw h => ?_)
      refine i_iadd (n := 29) C 17 rfl rfl ?_
      refine lv_topi (fun y6 ey6 => ?_)
      replace hw := hw y6 ey6
      refine i_istore_n (lv' := [(2, .int y6), (0, .ref (ad 0)), (1, .int a1), (3, .int x3)]) (n := 30) C 18 rfl rfl rfl hl (by decide) rfl (fun ls hl => ?_)
      refine i_iinc (v := x3 + (1 : Int32)) (lv' := [(3, .int (x3 + (1 : Int32))), (2, .int y6), (0, .ref (ad 0)), (1, .int a1)]) (n := 33) C 19 rfl rfl hl 3 rfl rfl (by decide) rfl (fun ls hl => ?_)
      refine i_goto (tgt := 18) C 20 rfl rfl ?_
      exact ih u5.1 u5.2 y6 (x3 + (1 : Int32)) ls _ _ (lv_sub hl [2, 3, 1, 0] rfl) h hw
set_option maxHeartbeats 4000000 in
set_option maxRecDepth 100000 in
theorem m_Mo_step {l : Launch} {D : va_G} {cy : Nat → ClassId} {ad : Nat → Nat} {I : Nat → Int32} {A : Nat → Nat → Int32} {a1 : Int32} {P : Int32 → ((Nat → Int32) × (Nat → Nat → Int32)) → Prop} (hw : g_Mo_step I A a1 P) : ∀ sz, Met l y_Mo_step (WL y_Mo_step c_Mo_step 4 (some .int)) { frames := 5, cells := 0, slots := 0, locals := 119 } (va_Pc [.ref (ad 0), .int a1] (PreW D cy (wM cy ad I A) sz)) (va_Qi P (fun u t => PostW D (va_A (wM cy ad I A) sz) ((fun (u : (Nat → Int32) × (Nat → Nat → Int32)) => wM cy ad u.1 u.2) u) t) (va_A (wM cy ad I A) sz)) 0 0 (va_A (wM cy ad I A) sz) := by
  refine met_i (wf := fun (u : (Nat → Int32) × (Nat → Nat → Int32)) => wM cy ad u.1 u.2) R_Mo .int db_Mo_step (by decide) rfl rfl (Nat.le_of_ble_eq_true rfl) ?_
  intro p e s m below meth c Z Q ls C h hl hret
  have hl : lv_has ls 4 [(0, .ref (ad 0)), (1, .int a1)] := hl
  refine i_iload_n (n := 1) C 0 rfl rfl rfl hl 1 rfl ?_
  refine i_iconst (v := (1 : Int32)) (n := 2) C 1 rfl rfl rfl ?_
  refine i_sipush (v := (400 : Int32)) (n := 5) C 2 rfl rfl rfl ?_
  refine i_callSp (rest := []) (n := 8) C 3 rfl rfl hl h (kS_Mo_126 ⟨by decide, by decide⟩) (m_Mo_in hw) rfl rfl (Nat.le_of_ble_eq_true rfl) ⟨by decide, by decide⟩ (fun r1 hw => ?_)
  refine i_if_ne (tgt := 14) (n := 11) C 4 rfl rfl rfl (fun c2 => ?_) (fun c2 => ?_)
  · replace hw := hw.1 c2
    refine i_iconst (v := (0 : Int32)) (n := 15) C 7 rfl rfl rfl ?_
    refine i_istore_n (lv' := [(2, .int (0 : Int32)), (0, .ref (ad 0)), (1, .int a1)]) (n := 16) C 8 rfl rfl rfl hl (by decide) rfl (fun ls hl => ?_)
    refine i_iconst (v := (0 : Int32)) (n := 17) C 9 rfl rfl rfl ?_
    refine i_istore_n (lv' := [(3, .int (0 : Int32)), (2, .int (0 : Int32)), (0, .ref (ad 0)), (1, .int a1)]) (n := 18) C 10 rfl rfl rfl hl (by decide) rfl (fun ls hl => ?_)
    obtain ⟨n7, hw⟩ := hw
    refine e_Mo_step_18 C hret (fun I_7 A_7 x2_7 ls H locs hl h hw => ?_) n7 I A (0 : Int32) (0 : Int32) ls _ _ (lv_sub hl [2, 3, 1, 0] rfl) h hw
    have hl : lv_has ls 4 [(2, .int x2_7)] := hl
    refine i_iload_n (n := 37) C 21 rfl rfl rfl hl 0 rfl ?_
    exact hret _ (I_7, A_7) _ _ _ _ rfl hw h (C.dg (k := 22) rfl)
  · replace hw := hw.2 c2
    refine i_bipush (v := (-2 : Int32)) (n := 13) C 5 rfl rfl rfl ?_
    exact hret _ (I, A) _ _ _ _ rfl hw h (C.dg (k := 6) rfl)
end S212
section S213
variable {p : Program} {l : Launch} {e : Env} {R : Room} {s : State} {m : MethodId} {args : Array Value} {below : List Frame} {meth : Method} {c : Code} {H : Heap} {locs : List Loc} {cells slots : Nat} {Q : State → Prop}
variable {cc : ByteArray} {pc n nL : Nat} {ls : Array Slot} {rest : List Value} {D : va_G} {cy : Nat → ClassId} {Z : Nat → Prop} {ad : Nat → Nat} {tb : List (Nat × Instr × Nat)} {lv : List (Nat × Value)}
set_option maxHeartbeats 4000000 in
set_option maxRecDepth 100000 in
theorem m_Mo_told {l : Launch} {D : va_G} {cy : Nat → ClassId} {ad : Nat → Nat} {I : Nat → Int32} {A : Nat → Nat → Int32} {a1 : Int32} {P : Int32 → Prop} (hw : g_Mo_told I a1 P) : ∀ sz, Met l y_Mo_told (WL y_Mo_told c_Mo_told 2 (some .int)) { frames := 0, cells := 0, slots := 0, locals := 0 } (va_Pc [.ref (ad 0), .int a1] (PreW D cy (wM cy ad I A) sz)) (vp_Si P) 0 0 (fun _ => False) := by
  refine met_p R_Mo .int db_Mo_told (by decide) rfl rfl (Nat.le_of_ble_eq_true rfl) ?_
  intro p e s m below meth c Z Q ls C h hl hret
  have hl : lv_has ls 2 [(0, .ref (ad 0)), (1, .int a1)] := hl
  refine i_iload_n (n := 1) C 0 rfl rfl rfl hl 1 rfl ?_
  by_cases c1 : a1 = (0 : Int32)
  · replace hw := hw.1 c1
    refine i_tsw (tgt := 60) C 1 rfl c1 (by decide) (by decide) rfl rfl ?_
    refine i_aload_n (n := 61) C 2 rfl rfl rfl hl 0 rfl ?_
    refine fgM_Mo_165 (n := 64) C 3 rfl rfl h ?_
    exact hret _ _ _ rfl hw (C.dg (k := 4) rfl)
  replace hw := hw.2
  by_cases c2 : a1 = (1 : Int32)
  · replace hw := hw.1 c2
    refine i_tsw (tgt := 65) C 1 rfl c2 (by decide) (by decide) rfl rfl ?_
    refine i_aload_n (n := 66) C 5 rfl rfl rfl hl 0 rfl ?_
    refine fgM_Mo_122 (n := 69) C 6 rfl rfl h ?_
    exact hret _ _ _ rfl hw (C.dg (k := 7) rfl)
  replace hw := hw.2
  by_cases c3 : a1 = (2 : Int32)
  · replace hw := hw.1 c3
    refine i_tsw (tgt := 70) C 1 rfl c3 (by decide) (by decide) rfl rfl ?_
    refine i_aload_n (n := 71) C 8 rfl rfl rfl hl 0 rfl ?_
    refine fgM_Mo_130 (n := 74) C 9 rfl rfl h ?_
    exact hret _ _ _ rfl hw (C.dg (k := 10) rfl)
  replace hw := hw.2
  by_cases c4 : a1 = (3 : Int32)
  · replace hw := hw.1 c4
    refine i_tsw (tgt := 75) C 1 rfl c4 (by decide) (by decide) rfl rfl ?_
    refine i_aload_n (n := 76) C 11 rfl rfl rfl hl 0 rfl ?_
    refine fgM_Mo_133 (n := 79) C 12 rfl rfl h ?_
    exact hret _ _ _ rfl hw (C.dg (k := 13) rfl)
  replace hw := hw.2
  by_cases c5 : a1 = (4 : Int32)
  · replace hw := hw.1 c5
    refine i_tsw (tgt := 80) C 1 rfl c5 (by decide) (by decide) rfl rfl ?_
    refine i_aload_n (n := 81) C 14 rfl rfl rfl hl 0 rfl ?_
    refine fgM_Mo_212 (n := 84) C 15 rfl rfl h ?_
    exact hret _ _ _ rfl hw (C.dg (k := 16) rfl)
  replace hw := hw.2
  by_cases c6 : a1 = (5 : Int32)
  · replace hw := hw.1 c6
    refine i_tsw (tgt := 85) C 1 rfl c6 (by decide) (by decide) rfl rfl ?_
    refine i_aload_n (n := 86) C 17 rfl rfl rfl hl 0 rfl ?_
    refine fgM_Mo_215 (n := 89) C 18 rfl rfl h ?_
    exact hret _ _ _ rfl hw (C.dg (k := 19) rfl)
  replace hw := hw.2
  by_cases c7 : a1 = (6 : Int32)
  · replace hw := hw.1 c7
    refine i_tsw (tgt := 90) C 1 rfl c7 (by decide) (by decide) rfl rfl ?_
    refine i_aload_n (n := 91) C 20 rfl rfl rfl hl 0 rfl ?_
    refine fgM_Mo_205 (n := 94) C 21 rfl rfl h ?_
    exact hret _ _ _ rfl hw (C.dg (k := 22) rfl)
  replace hw := hw.2
  by_cases c8 : a1 = (7 : Int32)
  · replace hw := hw.1 c8
    refine i_tsw (tgt := 95) C 1 rfl c8 (by decide) (by decide) rfl rfl ?_
    refine i_aload_n (n := 96) C 23 rfl rfl rfl hl 0 rfl ?_
    refine fgM_Mo_199 (n := 99) C 24 rfl rfl h ?_
    exact hret _ _ _ rfl hw (C.dg (k := 25) rfl)
  replace hw := hw.2
  by_cases c9 : a1 = (8 : Int32)
  · replace hw := hw.1 c9
    refine i_tsw (tgt := 100) C 1 rfl c9 (by decide) (by decide) rfl rfl ?_
    refine i_aload_n (n := 101) C 26 rfl rfl rfl hl 0 rfl ?_
    refine fgM_Mo_202 (n := 104) C 27 rfl rfl h ?_
    exact hret _ _ _ rfl hw (C.dg (k := 28) rfl)
  replace hw := hw.2
  by_cases c10 : a1 = (9 : Int32)
  · replace hw := hw.1 c10
    refine i_tsw (tgt := 105) C 1 rfl c10 (by decide) (by decide) rfl rfl ?_
    refine i_aload_n (n := 106) C 29 rfl rfl rfl hl 0 rfl ?_
    refine fgM_Mo_181 (n := 109) C 30 rfl rfl h ?_
    exact hret _ _ _ rfl hw (C.dg (k := 31) rfl)
  replace hw := hw.2
  by_cases c11 : a1 = (10 : Int32)
  · replace hw := hw.1 c11
    refine i_tsw (tgt := 110) C 1 rfl c11 (by decide) (by decide) rfl rfl ?_
    refine i_aload_n (n := 111) C 32 rfl rfl rfl hl 0 rfl ?_
    refine fgM_Mo_218 (n := 114) C 33 rfl rfl h ?_
    exact hret _ _ _ rfl hw (C.dg (k := 34) rfl)
  replace hw := hw.2
  replace hw := hw c1
  replace hw := hw c2
  replace hw := hw c3
  replace hw := hw c4
  replace hw := hw c5
  replace hw := hw c6
  replace hw := hw c7
  replace hw := hw c8
  replace hw := hw c9
  replace hw := hw c10
  replace hw := hw c11
  refine i_tswd (tgt := 115) C 1 rfl (fun j hj => match j, hj with | 0, _ => lv_neT c1 rfl | 1, _ => lv_neT c2 rfl | 2, _ => lv_neT c3 rfl | 3, _ => lv_neT c4 rfl | 4, _ => lv_neT c5 rfl | 5, _ => lv_neT c6 rfl | 6, _ => lv_neT c7 rfl | 7, _ => lv_neT c8 rfl | 8, _ => lv_neT c9 rfl | 9, _ => lv_neT c10 rfl | 10, _ => lv_neT c11 rfl | j + 11, hj => absurd hj (by omega)) rfl ?_
  refine i_bipush (v := (-2 : Int32)) (n := 117) C 35 rfl rfl rfl ?_
  exact hret _ _ _ rfl hw (C.dg (k := 36) rfl)
end S213
section S214
variable {p : Program} {l : Launch} {e : Env} {R : Room} {s : State} {m : MethodId} {args : Array Value} {below : List Frame} {meth : Method} {c : Code} {H : Heap} {locs : List Loc} {cells slots : Nat} {Q : State → Prop}
variable {cc : ByteArray} {pc n nL : Nat} {ls : Array Slot} {rest : List Value} {D : va_G} {cy : Nat → ClassId} {Z : Nat → Prop} {ad : Nat → Nat} {tb : List (Nat × Instr × Nat)} {lv : List (Nat × Value)}
set_option maxHeartbeats 4000000 in
set_option maxRecDepth 100000 in
theorem m_Mo_isRow {l : Launch} {D : va_G} {cy : Nat → ClassId}   {a1 : Int32} {w : va_W} {P : Int32 → Prop} (hw : g_Mo_isRow a1 P) : ∀ sz, Met l y_Mo_isRow (WL y_Mo_isRow c_Mo_isRow 1 (some .boolean)) { frames := 1, cells := 0, slots := 0, locals := 22 } (va_Pc [.int a1] (PreW D cy (w) sz)) (vp_Si P) 0 0 (fun _ => False) := by
  refine met_p R_Mo .boolean db_Mo_isRow (by decide) rfl rfl (Nat.le_of_ble_eq_true rfl) ?_
  intro p e s m below meth c Z Q ls C h hl hret
  have hl : lv_has ls 1 [(0, .int a1)] := hl
  refine i_iload_n (n := 1) C 0 rfl rfl rfl hl 0 rfl ?_
  refine i_iconst (v := (0 : Int32)) (n := 2) C 1 rfl rfl rfl ?_
  refine i_iconst (v := (3 : Int32)) (n := 3) C 2 rfl rfl rfl ?_
  refine i_callSp (rest := []) (n := 6) C 3 rfl rfl hl h (kS_Mo_126 ⟨by decide, by decide⟩) (m_Mo_in hw) rfl rfl (Nat.le_of_ble_eq_true rfl) ⟨by decide, by decide⟩ (fun r1 hw => ?_)
  obtain ⟨hB, hw⟩ := hw
  exact hret _ _ _ hB.nar hw (C.dg (k := 4) rfl)
end S214
theorem kS_Mo_221 {R : Room} {s : State} {args : Array Value} (hR : 1 + 1 ≤ R.frames ∧ 8 + (1 + 11) + 22 ≤ R.locals) (ht : ∀ w ∈ GW, w.before args s = true) : CallB R s args R_Mo 221 y_Mo_isRow c_Mo_isRow 1 (some .boolean) (WL y_Mo_isRow c_Mo_isRow 1 (some .boolean)) { frames := 1, cells := 0, slots := 0, locals := 22 } 0 0 1 ∧ (Cond.static y_Mo_isRow).before args s = true := cwS 1 ht (GW_s w_6_181 w_6_182 w_1_7 (GW_wl w_6_183)) rfl rfl rfl (by decide +kernel) hR
section S215
variable {p : Program} {l : Launch} {e : Env} {R : Room} {s : State} {m : MethodId} {args : Array Value} {below : List Frame} {meth : Method} {c : Code} {H : Heap} {locs : List Loc} {cells slots : Nat} {Q : State → Prop}
variable {cc : ByteArray} {pc n nL : Nat} {ls : Array Slot} {rest : List Value} {D : va_G} {cy : Nat → ClassId} {Z : Nat → Prop} {ad : Nat → Nat} {tb : List (Nat × Instr × Nat)} {lv : List (Nat × Value)}
set_option maxHeartbeats 4000000 in
set_option maxRecDepth 100000 in
theorem e_Mo_row_39 {I : Nat → Int32} {a1 : Int32} {a2 : Int32} {P : Int32 → ((Nat → Nat → Int32)) → Prop} {kx39 : (Nat → Nat → Int32) → Int32 → Prop} (C : CX D cy R_Mo c_Mo_row tb_Mo_row 5 p s m args c Z) (hret : RetI p l e { frames := 2, cells := 0, slots := 0, locals := 42 } s m args below meth c c_Mo_row .int D Z Q (fun (u : (Nat → Nat → Int32)) => wM cy ad I u) P 0 0)
    (hx39 : ∀ (A : Nat → Nat → Int32) (x3 : Int32) (ls : Array Slot) (H : Heap) (locs : List Loc), lv_has ls 5 [(3, .int x3)] → HXw D Z s.heap H locs (wM cy ad I A) → kx39 A x3 → W p l e { frames := 2, cells := 0, slots := 0, locals := 42 } s m args below meth c H locs 0 0 Q (F0 m 78 ls [])) :
    ∀ (n : Nat) (A : Nat → Nat → Int32) (x3 : Int32) (x4 : Int32) (ls : Array Slot) (H : Heap) (locs : List Loc), lv_has ls 5 [(0, .ref (ad 0)), (1, .int a1), (3, .int x3), (4, .int x4)] → HXw D Z s.heap H locs (wM cy ad I A) → g_Mo_row_39 a1 a2 P kx39 n A x3 x4 → W p l e { frames := 2, cells := 0, slots := 0, locals := 42 } s m args below meth c H locs 0 0 Q (F0 m 39 ls []) := by
  intro n
  induction n with
  | zero => intro A x3 x4 ls H locs hl h hw; exact hw.elim
  | succ n ih =>
    intro A x3 x4 ls H locs hl h hw
    refine i_iload (n := 41) C 24 rfl rfl hl 3 rfl ?_
    refine i_bipush (v := (20 : Int32)) (n := 43) C 25 rfl rfl rfl ?_
    refine i_icmp_ge (tgt := 78) (n := 46) C 26 rfl rfl rfl (fun c6 => ?_) (fun c6 => ?_)
    · replace hw := hw.1 c6
      exact hx39 A x3 ls _ _ (lv_sub hl [2] rfl) h hw
    · replace hw := hw.2 c6
      refine i_aload_n (n := 47) C 27 rfl rfl rfl hl 0 rfl ?_
      refine fgM_Mo_74 (n := 50) C 28 rfl rfl h ?_
      refine i_bipush (v := (20 : Int32)) (n := 52) C 29 rfl rfl rfl ?_
      refine i_iload_n (n := 53) C 30 rfl rfl rfl hl 1 rfl ?_
      refine i_imul (n := 54) C 31 rfl rfl ?_
      refine i_iload (n := 56) C 32 rfl rfl hl 3 rfl ?_
      refine i_iadd (n := 57) C 33 rfl rfl ?_
      refine i_iconst (v := (0 : Int32)) (n := 58) C 34 rfl rfl rfl ?_
      obtain ⟨hb, hw⟩ := hw
      refine i_iast (n := 59) C 35 rfl rfl h (wM_arr 21 (by decide) rfl) hb (wM_sA 21 (by decide) rfl _ _) (fun H locs h => ?_)
      refine i_aload_n (n := 60) C 36 rfl rfl rfl hl 0 rfl ?_
      refine fgM_Mo_77 (n := 63) C 37 rfl rfl h ?_
      refine i_bipush (v := (20 : Int32)) (n := 65) C 38 rfl rfl rfl ?_
      refine i_iload_n (n := 66) C 39 rfl rfl rfl hl 1 rfl ?_
      refine i_imul (n := 67) C 40 rfl rfl ?_
      refine i_iload (n := 69) C 41 rfl rfl hl 3 rfl ?_
      refine i_iadd (n := 70) C 42 rfl rfl ?_
      refine i_iconst (v := (0 : Int32)) (n := 71) C 43 rfl rfl rfl ?_
      obtain ⟨hb, hw⟩ := hw
      refine i_zast (n := 72) C 44 rfl rfl h (wM_arr 22 (by decide) rfl) hb (wM_sA 22 (by decide) rfl _ _) (fun H locs h => ?_)
      refine i_iinc (v := x4 + (1 : Int32)) (lv' := [(4, .int (x4 + (1 : Int32))), (0, .ref (ad 0)), (1, .int a1), (3, .int x3)]) (n := 75) C 45 rfl rfl hl 3 rfl rfl (by decide) rfl (fun ls hl => ?_)
      refine i_goto (tgt := 39) C 46 rfl rfl ?_
      exact ih (sA (sA A 21 (((20 : Int32) * a1) + x4) (0 : Int32)) 22 (((20 : Int32) * a1) + x4) (vp_nar .boolean (0 : Int32))) x3 (x4 + (1 : Int32)) ls _ _ (lv_sub hl [1, 2, 3, 0] rfl) h hw
set_option maxHeartbeats 4000000 in
set_option maxRecDepth 100000 in
theorem m_Mo_row {l : Launch} {D : va_G} {cy : Nat → ClassId} {ad : Nat → Nat} {I : Nat → Int32} {A : Nat → Nat → Int32} {a1 : Int32} {a2 : Int32} {P : Int32 → ((Nat → Nat → Int32)) → Prop} (hw : g_Mo_row A a1 a2 P) : ∀ sz, Met l y_Mo_row (WL y_Mo_row c_Mo_row 5 (some .int)) { frames := 2, cells := 0, slots := 0, locals := 42 } (va_Pc [.ref (ad 0), .int a1, .int a2] (PreW D cy (wM cy ad I A) sz)) (va_Qi P (fun u t => PostW D (va_A (wM cy ad I A) sz) ((fun (u : (Nat → Nat → Int32)) => wM cy ad I u) u) t) (va_A (wM cy ad I A) sz)) 0 0 (va_A (wM cy ad I A) sz) := by
  refine met_i (wf := fun (u : (Nat → Nat → Int32)) => wM cy ad I u) R_Mo .int db_Mo_row (by decide) rfl rfl (Nat.le_of_ble_eq_true rfl) ?_
  intro p e s m below meth c Z Q ls C h hl hret
  have hl : lv_has ls 5 [(0, .ref (ad 0)), (1, .int a1), (2, .int a2)] := hl
  refine i_iload_n (n := 1) C 0 rfl rfl rfl hl 1 rfl ?_
  refine i_callSp (rest := []) (n := 4) C 1 rfl rfl hl h (kS_Mo_221 ⟨by decide, by decide⟩) (m_Mo_isRow hw) rfl rfl (Nat.le_of_ble_eq_true rfl) ⟨by decide, by decide⟩ (fun r1 hw => ?_)
  refine i_if_ne (tgt := 9) (n := 7) C 2 rfl rfl rfl (fun c2 => ?_) (fun c2 => ?_)
  · replace hw := hw.1 c2
    refine i_iload_n (n := 10) C 5 rfl rfl rfl hl 2 rfl ?_
    refine i_iconst (v := (-1 : Int32)) (n := 11) C 6 rfl rfl rfl ?_
    refine i_bipush (v := (20 : Int32)) (n := 13) C 7 rfl rfl rfl ?_
    refine i_callSp (rest := []) (n := 16) C 8 rfl rfl hl h (kS_Mo_126 ⟨by decide, by decide⟩) (m_Mo_in hw) rfl rfl (Nat.le_of_ble_eq_true rfl) ⟨by decide, by decide⟩ (fun r3 hw => ?_)
    refine i_if_ne (tgt := 22) (n := 19) C 9 rfl rfl rfl (fun c4 => ?_) (fun c4 => ?_)
    · replace hw := hw.1 c4
      refine i_aload_n (n := 23) C 12 rfl rfl rfl hl 0 rfl ?_
      refine fgM_Mo_71 (n := 26) C 13 rfl rfl h ?_
      refine i_iload_n (n := 27) C 14 rfl rfl rfl hl 1 rfl ?_
      obtain ⟨hb, hw⟩ := hw
      refine i_iald (n := 28) C 15 rfl rfl h (wM_arr 20 (by decide) rfl) hb ?_
      refine lv_topi (fun y5 ey5 => ?_)
      replace hw := hw y5 ey5
      refine i_istore_n (lv' := [(3, .int y5), (0, .ref (ad 0)), (1, .int a1), (2, .int a2)]) (n := 29) C 16 rfl rfl rfl hl (by decide) rfl (fun ls hl => ?_)
      refine i_aload_n (n := 30) C 17 rfl rfl rfl hl 1 rfl ?_
      refine fgM_Mo_71 (n := 33) C 18 rfl rfl h ?_
      refine i_iload_n (n := 34) C 19 rfl rfl rfl hl 2 rfl ?_
      refine i_iload_n (n := 35) C 20 rfl rfl rfl hl 3 rfl ?_
      obtain ⟨hb, hw⟩ := hw
      refine i_iast (n := 36) C 21 rfl rfl h (wM_arr 20 (by decide) rfl) hb (wM_sA 20 (by decide) rfl _ _) (fun H locs h => ?_)
      refine i_iconst (v := (0 : Int32)) (n := 37) C 22 rfl rfl rfl ?_
      refine i_istore (lv' := [(4, .int (0 : Int32)), (3, .int y5), (0, .ref (ad 0)), (1, .int a1), (2, .int a2)]) (n := 39) C 23 rfl rfl hl (by decide) rfl (fun ls hl => ?_)
      obtain ⟨n7, hw⟩ := hw
      refine e_Mo_row_39 C hret (fun A_7 x3_7 ls H locs hl h hw => ?_) n7 (sA A 20 a1 a2) y5 (0 : Int32) ls _ _ (lv_sub hl [2, 3, 1, 0] rfl) h hw
      have hl : lv_has ls 5 [(3, .int x3_7)] := hl
      refine i_iload_n (n := 79) C 47 rfl rfl rfl hl 0 rfl ?_
      refine i_if_ge (tgt := 87) (n := 82) C 48 rfl rfl rfl (fun c8 => ?_) (fun c8 => ?_)
      · replace hw := hw.1 c8
        refine i_iload_n (n := 88) C 51 rfl rfl rfl hl 0 rfl ?_
        exact hret _ A_7 _ _ _ _ rfl hw h (C.dg (k := 52) rfl)
      · replace hw := hw.2 c8
        refine i_bipush (v := (-6 : Int32)) (n := 84) C 49 rfl rfl rfl ?_
        refine i_goto (tgt := 88) C 50 rfl rfl ?_
        exact hret _ A_7 _ _ _ _ rfl hw h (C.dg (k := 52) rfl)
    · replace hw := hw.2 c4
      refine i_bipush (v := (-2 : Int32)) (n := 21) C 10 rfl rfl rfl ?_
      exact hret _ A _ _ _ _ rfl hw h (C.dg (k := 11) rfl)
  · replace hw := hw.2 c2
    refine i_iconst (v := (-1 : Int32)) (n := 8) C 3 rfl rfl rfl ?_
    exact hret _ A _ _ _ _ rfl hw h (C.dg (k := 4) rfl)
end S215
