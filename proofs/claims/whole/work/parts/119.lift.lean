section S225
variable {p : Program} {l : Launch} {e : Env} {R : Room} {s : State} {m : MethodId} {args : Array Value} {below : List Frame} {meth : Method} {c : Code} {H : Heap} {locs : List Loc} {cells slots : Nat} {Q : State → Prop}
variable {cc : ByteArray} {pc n nL : Nat} {ls : Array Slot} {rest : List Value} {D : va_G} {cy : Nat → ClassId} {Z : Nat → Prop} {ad : Nat → Nat} {tb : List (Nat × Instr × Nat)} {lv : List (Nat × Value)}
set_option maxHeartbeats 4000000 in
set_option maxRecDepth 100000 in
theorem e_Mo_doAct_48 {I : Nat → Int32} {a1 : Int32} {a2 : Int32} {P : Int32 → ((Nat → Nat → Int32)) → Prop}  (C : CX D cy R_Mo c_Mo_doAct tb_Mo_doAct 5 p s m args c Z) (hret : RetI p l e { frames := 1, cells := 0, slots := 0, locals := 23 } s m args below meth c c_Mo_doAct .boolean D Z Q (fun (u : (Nat → Nat → Int32)) => wM cy ad I u) P 0 0) :
    ∀ (A : Nat → Nat → Int32) (s1 : Int32) (s2 : Int32) (ls : Array Slot) (H : Heap) (locs : List Loc), lv_has ls 5 [] → HXw D Z s.heap H locs (wM cy ad I A) → g_Mo_doAct_48 I a1 a2 P  A s1 s2 → W p l e { frames := 1, cells := 0, slots := 0, locals := 23 } s m args below meth c H locs 0 0 Q (F0 m 48 ls [.int s2, .int s1, .ref (ad 0)]) := by
  intro A s1 s2 ls H locs hl h hw
  refine i_callVi (rest := []) (ci := 11) (qc := (R_Mo, T_Mo, 50)) (n := 51) C 28 rfl rfl hl h rfl (wM_get (h := 0) (by decide)) (kV_Mo_177 ⟨by decide, by decide⟩) (m_Mo_setLit hw) rfl rfl (Nat.le_of_ble_eq_true rfl) ⟨by decide, by decide⟩ (fun r6 u7 H locs hw h => ?_)
  refine i_if_eq (tgt := 58) (n := 54) C 29 rfl rfl rfl (fun c8 => ?_) (fun c8 => ?_)
  · replace hw := hw.1 c8
    refine i_iconst (v := (0 : Int32)) (n := 59) C 32 rfl rfl rfl ?_
    exact hret _ u7 _ _ _ _ rfl hw h (C.dg (k := 33) rfl)
  · replace hw := hw.2 c8
    refine i_iconst (v := (1 : Int32)) (n := 55) C 30 rfl rfl rfl ?_
    refine i_goto (tgt := 59) C 31 rfl rfl ?_
    exact hret _ u7 _ _ _ _ rfl hw h (C.dg (k := 33) rfl)
set_option maxHeartbeats 4000000 in
set_option maxRecDepth 100000 in
theorem e_Mo_doAct_17 {I : Nat → Int32} {a1 : Int32} {a2 : Int32} {P : Int32 → ((Nat → Nat → Int32)) → Prop}  (C : CX D cy R_Mo c_Mo_doAct tb_Mo_doAct 5 p s m args c Z) (hret : RetI p l e { frames := 1, cells := 0, slots := 0, locals := 23 } s m args below meth c c_Mo_doAct .boolean D Z Q (fun (u : (Nat → Nat → Int32)) => wM cy ad I u) P 0 0) :
    ∀ (A : Nat → Nat → Int32) (x3 : Int32) (ls : Array Slot) (H : Heap) (locs : List Loc), lv_has ls 5 [(0, .ref (ad 0)), (1, .int a1), (3, .int x3)] → HXw D Z s.heap H locs (wM cy ad I A) → g_Mo_doAct_17 I a1 a2 P  A x3 → W p l e { frames := 1, cells := 0, slots := 0, locals := 23 } s m args below meth c H locs 0 0 Q (F0 m 17 ls []) := by
  intro A x3 ls H locs hl h hw
  refine i_iload_n (n := 18) C 10 rfl rfl rfl hl 2 rfl ?_
  refine i_aload_n (n := 19) C 11 rfl rfl rfl hl 0 rfl ?_
  refine fgM_Mo_122 (n := 22) C 12 rfl rfl h ?_
  refine i_icmp_ge (tgt := 58) (n := 25) C 13 rfl rfl rfl (fun c3 => ?_) (fun c3 => ?_)
  · replace hw := hw.1 c3
    refine i_iconst (v := (0 : Int32)) (n := 59) C 32 rfl rfl rfl ?_
    exact hret _ A _ _ _ _ rfl hw h (C.dg (k := 33) rfl)
  · replace hw := hw.2 c3
    refine i_aload_n (n := 26) C 14 rfl rfl rfl hl 0 rfl ?_
    refine fgM_Mo_16 (n := 29) C 15 rfl rfl h ?_
    refine i_iload_n (n := 30) C 16 rfl rfl rfl hl 2 rfl ?_
    obtain ⟨hb, hw⟩ := hw
    refine i_iald (n := 31) C 17 rfl rfl h (wM_arr 2 (by decide) rfl) hb ?_
    refine i_iconst (v := (5 : Int32)) (n := 32) C 18 rfl rfl rfl ?_
    refine i_icmp_ne (tgt := 58) (n := 35) C 19 rfl rfl rfl (fun c4 => ?_) (fun c4 => ?_)
    · replace hw := hw.1 c4
      refine i_iconst (v := (0 : Int32)) (n := 59) C 32 rfl rfl rfl ?_
      exact hret _ A _ _ _ _ rfl hw h (C.dg (k := 33) rfl)
    · replace hw := hw.2 c4
      refine i_aload_n (n := 36) C 20 rfl rfl rfl hl 0 rfl ?_
      refine i_iload_n (n := 37) C 21 rfl rfl rfl hl 2 rfl ?_
      refine i_iload_n (n := 38) C 22 rfl rfl rfl hl 1 rfl ?_
      refine i_bipush (v := (76 : Int32)) (n := 40) C 23 rfl rfl rfl ?_
      refine i_icmp_ne (tgt := 47) (n := 43) C 24 rfl rfl rfl (fun c5 => ?_) (fun c5 => ?_)
      · replace hw := hw.1 c5
        refine i_iconst (v := (0 : Int32)) (n := 48) C 27 rfl rfl rfl ?_
        exact e_Mo_doAct_48 C hret  A x3 (0 : Int32) ls _ _ (lv_sub hl [] rfl) h hw
      · replace hw := hw.2 c5
        refine i_iconst (v := (1 : Int32)) (n := 44) C 25 rfl rfl rfl ?_
        refine i_goto (tgt := 48) C 26 rfl rfl ?_
        exact e_Mo_doAct_48 C hret  A x3 (1 : Int32) ls _ _ (lv_sub hl [] rfl) h hw
set_option maxHeartbeats 4000000 in
set_option maxRecDepth 100000 in
theorem e_Mo_doAct_90 {I : Nat → Int32} {a1 : Int32} {a2 : Int32} {P : Int32 → ((Nat → Nat → Int32)) → Prop}  (C : CX D cy R_Mo c_Mo_doAct tb_Mo_doAct 5 p s m args c Z) (hret : RetI p l e { frames := 1, cells := 0, slots := 0, locals := 23 } s m args below meth c c_Mo_doAct .boolean D Z Q (fun (u : (Nat → Nat → Int32)) => wM cy ad I u) P 0 0) :
    ∀ (A : Nat → Nat → Int32) (x4 : Int32) (s0 : Int32) (s1 : Int32) (ls : Array Slot) (H : Heap) (locs : List Loc), lv_has ls 5 [(0, .ref (ad 0)), (1, .int a1), (4, .int x4)] → HXw D Z s.heap H locs (wM cy ad I A) → g_Mo_doAct_90 I a1 a2 P  A x4 s0 s1 → W p l e { frames := 1, cells := 0, slots := 0, locals := 23 } s m args below meth c H locs 0 0 Q (F0 m 90 ls [.int s1, .int s0]) := by
  intro A x4 s0 s1 ls H locs hl h hw
  refine i_icmp_ne (tgt := 95) (n := 93) C 50 rfl rfl rfl (fun c13 => ?_) (fun c13 => ?_)
  · replace hw := hw.1 c13
    refine i_aload_n (n := 96) C 53 rfl rfl rfl hl 0 rfl ?_
    refine fgM_Mo_68 (n := 99) C 54 rfl rfl h ?_
    refine i_iload (n := 101) C 55 rfl rfl hl 2 rfl ?_
    refine i_iload_n (n := 102) C 56 rfl rfl rfl hl 1 rfl ?_
    refine i_bipush (v := (83 : Int32)) (n := 104) C 57 rfl rfl rfl ?_
    refine i_icmp_ne (tgt := 111) (n := 107) C 58 rfl rfl rfl (fun c14 => ?_) (fun c14 => ?_)
    · replace hw := hw.1 c14
      refine i_iconst (v := (0 : Int32)) (n := 112) C 61 rfl rfl rfl ?_
      obtain ⟨hb, hw⟩ := hw
      refine i_zast (n := 113) C 62 rfl rfl h (wM_arr 19 (by decide) rfl) hb (wM_sA 19 (by decide) rfl _ _) (fun H locs h => ?_)
      refine i_iconst (v := (1 : Int32)) (n := 114) C 63 rfl rfl rfl ?_
      exact hret _ (sA A 19 x4 (vp_nar .boolean (0 : Int32))) _ _ _ _ rfl hw h (C.dg (k := 64) rfl)
    · replace hw := hw.2 c14
      refine i_iconst (v := (1 : Int32)) (n := 108) C 59 rfl rfl rfl ?_
      refine i_goto (tgt := 112) C 60 rfl rfl ?_
      obtain ⟨hb, hw⟩ := hw
      refine i_zast (n := 113) C 62 rfl rfl h (wM_arr 19 (by decide) rfl) hb (wM_sA 19 (by decide) rfl _ _) (fun H locs h => ?_)
      refine i_iconst (v := (1 : Int32)) (n := 114) C 63 rfl rfl rfl ?_
      exact hret _ (sA A 19 x4 (vp_nar .boolean (1 : Int32))) _ _ _ _ rfl hw h (C.dg (k := 64) rfl)
  · replace hw := hw.2 c13
    refine i_iconst (v := (0 : Int32)) (n := 94) C 51 rfl rfl rfl ?_
    exact hret _ A _ _ _ _ rfl hw h (C.dg (k := 52) rfl)
set_option maxHeartbeats 4000000 in
set_option maxRecDepth 100000 in
theorem m_Mo_doAct {l : Launch} {D : va_G} {cy : Nat → ClassId} {ad : Nat → Nat} {I : Nat → Int32} {A : Nat → Nat → Int32} {a1 : Int32} {a2 : Int32} {P : Int32 → ((Nat → Nat → Int32)) → Prop} (hw : g_Mo_doAct I A a1 a2 P) : ∀ sz, Met l y_Mo_doAct (WL y_Mo_doAct c_Mo_doAct 5 (some .boolean)) { frames := 1, cells := 0, slots := 0, locals := 23 } (va_Pc [.ref (ad 0), .int a1, .int a2] (PreW D cy (wM cy ad I A) sz)) (va_Qi P (fun u t => PostW D (va_A (wM cy ad I A) sz) ((fun (u : (Nat → Nat → Int32)) => wM cy ad I u) u) t) (va_A (wM cy ad I A) sz)) 0 0 (va_A (wM cy ad I A) sz) := by
  refine met_i (wf := fun (u : (Nat → Nat → Int32)) => wM cy ad I u) R_Mo .boolean db_Mo_doAct (by decide) rfl rfl (Nat.le_of_ble_eq_true rfl) ?_
  intro p e s m below meth c Z Q ls C h hl hret
  have hl : lv_has ls 5 [(0, .ref (ad 0)), (1, .int a1), (2, .int a2)] := hl
  refine i_iload_n (n := 1) C 0 rfl rfl rfl hl 2 rfl ?_
  refine i_bipush (v := (97 : Int32)) (n := 3) C 1 rfl rfl rfl ?_
  refine i_isub (n := 4) C 2 rfl rfl ?_
  refine lv_topi (fun y1 ey1 => ?_)
  replace hw := hw y1 ey1
  refine i_istore_n (lv' := [(3, .int y1), (0, .ref (ad 0)), (1, .int a1), (2, .int a2)]) (n := 5) C 3 rfl rfl rfl hl (by decide) rfl (fun ls hl => ?_)
  refine i_iload_n (n := 6) C 4 rfl rfl rfl hl 2 rfl ?_
  refine i_bipush (v := (76 : Int32)) (n := 8) C 5 rfl rfl rfl ?_
  refine i_icmp_eq (tgt := 17) (n := 11) C 6 rfl rfl rfl (fun c2 => ?_) (fun c2 => ?_)
  · replace hw := hw.1 c2
    exact e_Mo_doAct_17 C hret  A y1 ls _ _ (lv_sub hl [1, 2, 0] rfl) h hw
  · replace hw := hw.2 c2
    refine i_iload_n (n := 12) C 7 rfl rfl rfl hl 2 rfl ?_
    refine i_bipush (v := (68 : Int32)) (n := 14) C 8 rfl rfl rfl ?_
    refine i_icmp_ne (tgt := 60) (n := 17) C 9 rfl rfl rfl (fun c9 => ?_) (fun c9 => ?_)
    · replace hw := hw.1 c9
      refine i_aload_n (n := 61) C 34 rfl rfl rfl hl 1 rfl ?_
      refine i_iload_n (n := 62) C 35 rfl rfl rfl hl 0 rfl ?_
      refine i_callVp (rest := []) (ci := 11) (qc := (R_Mo, T_Mo, 50)) (n := 65) C 36 rfl rfl hl h rfl (wM_get (h := 0) (by decide)) (kV_Mo_147 ⟨by decide, by decide⟩) (m_Mo_valveByMap hw) rfl rfl (Nat.le_of_ble_eq_true rfl) ⟨by decide, by decide⟩ (fun r10 hw => ?_)
      refine i_istore (lv' := [(4, .int r10), (3, .int y1), (0, .ref (ad 0)), (1, .int a1), (2, .int a2)]) (n := 67) C 37 rfl rfl hl (by decide) rfl (fun ls hl => ?_)
      refine i_iload (n := 69) C 38 rfl rfl hl 0 rfl ?_
      refine i_if_lt (tgt := 93) (n := 72) C 39 rfl rfl rfl (fun c11 => ?_) (fun c11 => ?_)
      · replace hw := hw.1 c11
        refine i_iconst (v := (0 : Int32)) (n := 94) C 51 rfl rfl rfl ?_
        exact hret _ A _ _ _ _ rfl hw h (C.dg (k := 52) rfl)
      · replace hw := hw.2 c11
        refine i_aload_n (n := 73) C 40 rfl rfl rfl hl 2 rfl ?_
        refine fgM_Mo_68 (n := 76) C 41 rfl rfl h ?_
        refine i_iload (n := 78) C 42 rfl rfl hl 0 rfl ?_
        obtain ⟨hb, hw⟩ := hw
        refine i_zald (n := 79) C 43 rfl rfl h (wM_arr 19 (by decide) rfl) hb ?_
        refine i_iload_n (n := 80) C 44 rfl rfl rfl hl 3 rfl ?_
        refine i_bipush (v := (83 : Int32)) (n := 82) C 45 rfl rfl rfl ?_
        refine i_icmp_ne (tgt := 89) (n := 85) C 46 rfl rfl rfl (fun c12 => ?_) (fun c12 => ?_)
        · replace hw := hw.1 c12
          refine i_iconst (v := (0 : Int32)) (n := 90) C 49 rfl rfl rfl ?_
          exact e_Mo_doAct_90 C hret  A r10 (A 19 r10.toNatClampNeg) (0 : Int32) ls _ _ (lv_sub hl [2, 3, 0] rfl) h hw
        · replace hw := hw.2 c12
          refine i_iconst (v := (1 : Int32)) (n := 86) C 47 rfl rfl rfl ?_
          refine i_goto (tgt := 90) C 48 rfl rfl ?_
          exact e_Mo_doAct_90 C hret  A r10 (A 19 r10.toNatClampNeg) (1 : Int32) ls _ _ (lv_sub hl [2, 3, 0] rfl) h hw
    · replace hw := hw.2 c9
      exact e_Mo_doAct_17 C hret  A y1 ls _ _ (lv_sub hl [1, 2, 0] rfl) h hw
end S225
theorem kV_Mo_238 {R : Room} {s : State} {args : Array Value} (hR : 1 + 1 ≤ R.frames ∧ 8 + (5 + 11) + 23 ≤ R.locals) (ht : ∀ w ∈ GW, w.before args s = true) : CallW R s args R_Mo R_Mo 238 y_Mo_doAct c_Mo_doAct 5 (some .boolean) (WL y_Mo_doAct c_Mo_doAct 5 (some .boolean)) { frames := 1, cells := 0, slots := 0, locals := 23 } 0 0 2 := cwV 2 ht (GW_v w_6_233 w_6_235 w_0_46 w_1_7 (GW_wl w_6_236)) rfl rfl rfl (by decide +kernel) hR
section S226
variable {p : Program} {l : Launch} {e : Env} {R : Room} {s : State} {m : MethodId} {args : Array Value} {below : List Frame} {meth : Method} {c : Code} {H : Heap} {locs : List Loc} {cells slots : Nat} {Q : State → Prop}
variable {cc : ByteArray} {pc n nL : Nat} {ls : Array Slot} {rest : List Value} {D : va_G} {cy : Nat → ClassId} {Z : Nat → Prop} {ad : Nat → Nat} {tb : List (Nat × Instr × Nat)} {lv : List (Nat × Value)}
set_option maxHeartbeats 4000000 in
set_option maxRecDepth 100000 in
theorem e_Mo_goThrough_129  {a1 : Int32} {a2 : Int32} {P : Int32 → ((Nat → Int32) × (Nat → Nat → Int32)) → Prop} {kx129 : (Nat → Int32) → (Nat → Nat → Int32) → Int32 → Int32 → Int32 → Int32 → Int32 → Int32 → Int32 → Int32 → Prop} (C : CX D cy R_Mo c_Mo_goThrough tb_Mo_goThrough 12 p s m args c Z) (hret : RetI p l e { frames := 2, cells := 0, slots := 0, locals := 47 } s m args below meth c c_Mo_goThrough .int D Z Q (fun (u : (Nat → Int32) × (Nat → Nat → Int32)) => wM cy ad u.1 u.2) P 0 0)
    (hx129 : ∀ (I : Nat → Int32) (A : Nat → Nat → Int32) (x3 : Int32) (x4 : Int32) (x5 : Int32) (x6 : Int32) (x7 : Int32) (x8 : Int32) (x9 : Int32) (x10 : Int32) (ls : Array Slot) (H : Heap) (locs : List Loc), lv_has ls 12 [(0, .ref (ad 0)), (1, .int a1), (2, .int a2), (3, .int x3), (4, .int x4), (5, .int x5), (6, .int x6), (7, .int x7), (8, .int x8), (9, .int x9), (10, .int x10)] → HXw D Z s.heap H locs (wM cy ad I A) → kx129 I A x3 x4 x5 x6 x7 x8 x9 x10 → W p l e { frames := 2, cells := 0, slots := 0, locals := 47 } s m args below meth c H locs 0 0 Q (F0 m 180 ls [])) :
    ∀ (n : Nat) (I : Nat → Int32) (A : Nat → Nat → Int32) (x3 : Int32) (x4 : Int32) (x5 : Int32) (x6 : Int32) (x7 : Int32) (x8 : Int32) (x9 : Int32) (x10 : Int32) (ls : Array Slot) (H : Heap) (locs : List Loc), lv_has ls 12 [(0, .ref (ad 0)), (1, .int a1), (2, .int a2), (3, .int x3), (4, .int x4), (5, .int x5), (6, .int x6), (7, .int x7), (8, .int x8), (9, .int x9), (10, .int x10)] → HXw D Z s.heap H locs (wM cy ad I A) → g_Mo_goThrough_129 a1 a2 P kx129 n I A x3 x4 x5 x6 x7 x8 x9 x10 → W p l e { frames := 2, cells := 0, slots := 0, locals := 47 } s m args below meth c H locs 0 0 Q (F0 m 129 ls []) := by
  intro n
  induction n with
  | zero => intro I A x3 x4 x5 x6 x7 x8 x9 x10 ls H locs hl h hw; exact hw.elim
  | succ n ih =>
    intro I A x3 x4 x5 x6 x7 x8 x9 x10 ls H locs hl h hw
    refine i_aload_n (n := 130) C 74 rfl rfl rfl hl 0 rfl ?_
    refine fgM_Mo_89 (n := 133) C 75 rfl rfl h ?_
    refine i_bipush (v := (40 : Int32)) (n := 135) C 76 rfl rfl rfl ?_
    refine i_iload_n (n := 136) C 77 rfl rfl rfl hl 1 rfl ?_
    refine i_imul (n := 137) C 78 rfl rfl ?_
    refine i_iload (n := 139) C 79 rfl rfl hl 6 rfl ?_
    refine i_iadd (n := 140) C 80 rfl rfl ?_
    obtain ⟨hb, hw⟩ := hw
    refine i_iald (n := 141) C 81 rfl rfl h (wM_arr 26 (by decide) rfl) hb ?_
    refine i_bipush (v := (48 : Int32)) (n := 143) C 82 rfl rfl rfl ?_
    refine i_bipush (v := (57 : Int32)) (n := 145) C 83 rfl rfl rfl ?_
    refine i_callSp (rest := []) (n := 148) C 84 rfl rfl hl h (kS_Mo_126 ⟨by decide, by decide⟩) (m_Mo_in hw) rfl rfl (Nat.le_of_ble_eq_true rfl) ⟨by decide, by decide⟩ (fun r8 hw => ?_)
    refine i_if_eq (tgt := 180) (n := 151) C 85 rfl rfl rfl (fun c9 => ?_) (fun c9 => ?_)
    · replace hw := hw.1 c9
      exact hx129 I A x3 x4 x5 x6 x7 x8 x9 x10 ls _ _ hl h hw
    · replace hw := hw.2 c9
      refine i_bipush (v := (10 : Int32)) (n := 153) C 86 rfl rfl rfl ?_
      refine i_iload (n := 155) C 87 rfl rfl hl 10 rfl ?_
      refine i_imul (n := 156) C 88 rfl rfl ?_
      refine i_aload_n (n := 157) C 89 rfl rfl rfl hl 0 rfl ?_
      refine fgM_Mo_89 (n := 160) C 90 rfl rfl h ?_
      refine i_bipush (v := (40 : Int32)) (n := 162) C 91 rfl rfl rfl ?_
      refine i_iload_n (n := 163) C 92 rfl rfl rfl hl 1 rfl ?_
      refine i_imul (n := 164) C 93 rfl rfl ?_
      refine i_iload (n := 166) C 94 rfl rfl hl 6 rfl ?_
      refine i_iadd (n := 167) C 95 rfl rfl ?_
      obtain ⟨hb, hw⟩ := hw
      refine i_iald (n := 168) C 96 rfl rfl h (wM_arr 26 (by decide) rfl) hb ?_
      refine i_iadd (n := 169) C 97 rfl rfl ?_
      refine i_bipush (v := (48 : Int32)) (n := 171) C 98 rfl rfl rfl ?_
      refine i_isub (n := 172) C 99 rfl rfl ?_
      refine lv_topi (fun y10 ey10 => ?_)
      replace hw := hw y10 ey10
      refine i_istore (lv' := [(10, .int y10), (0, .ref (ad 0)), (1, .int a1), (2, .int a2), (3, .int x3), (4, .int x4), (5, .int x5), (6, .int x6), (7, .int x7), (8, .int x8), (9, .int x9)]) (n := 174) C 100 rfl rfl hl (by decide) rfl (fun ls hl => ?_)
      refine i_iinc (v := x6 + (1 : Int32)) (lv' := [(6, .int (x6 + (1 : Int32))), (10, .int y10), (0, .ref (ad 0)), (1, .int a1), (2, .int a2), (3, .int x3), (4, .int x4), (5, .int x5), (7, .int x7), (8, .int x8), (9, .int x9)]) (n := 177) C 101 rfl rfl hl 7 rfl rfl (by decide) rfl (fun ls hl => ?_)
      refine i_goto (tgt := 129) C 102 rfl rfl ?_
      exact ih I A x3 x4 x5 (x6 + (1 : Int32)) x7 x8 x9 y10 ls _ _ (lv_sub hl [2, 3, 4, 5, 6, 7, 0, 8, 9, 10, 1] rfl) h hw
set_option maxHeartbeats 4000000 in
set_option maxRecDepth 100000 in
theorem e_Mo_goThrough_384  {a1 : Int32} {a2 : Int32} {P : Int32 → ((Nat → Int32) × (Nat → Nat → Int32)) → Prop} {kb16 : (Nat → Int32) → (Nat → Nat → Int32) → Int32 → Int32 → Int32 → Int32 → Prop} (C : CX D cy R_Mo c_Mo_goThrough tb_Mo_goThrough 12 p s m args c Z) (hret : RetI p l e { frames := 2, cells := 0, slots := 0, locals := 47 } s m args below meth c c_Mo_goThrough .int D Z Q (fun (u : (Nat → Int32) × (Nat → Nat → Int32)) => wM cy ad u.1 u.2) P 0 0)
    (hb16 : ∀ (I : Nat → Int32) (A : Nat → Nat → Int32) (x3 : Int32) (x4 : Int32) (x5 : Int32) (x6 : Int32) (ls : Array Slot) (H : Heap) (locs : List Loc), lv_has ls 12 [(0, .ref (ad 0)), (1, .int a1), (2, .int a2), (3, .int x3), (4, .int x4), (5, .int x5), (6, .int x6)] → HXw D Z s.heap H locs (wM cy ad I A) → kb16 I A x3 x4 x5 x6 → W p l e { frames := 2, cells := 0, slots := 0, locals := 47 } s m args below meth c H locs 0 0 Q (F0 m 16 ls [])) :
    ∀ (I : Nat → Int32) (A : Nat → Nat → Int32) (x3 : Int32) (x4 : Int32) (x5 : Int32) (x6 : Int32) (ls : Array Slot) (H : Heap) (locs : List Loc), lv_has ls 12 [(0, .ref (ad 0)), (1, .int a1), (2, .int a2), (3, .int x3), (4, .int x4), (5, .int x5), (6, .int x6)] → HXw D Z s.heap H locs (wM cy ad I A) → g_Mo_goThrough_384 a1 a2 P kb16 I A x3 x4 x5 x6 → W p l e { frames := 2, cells := 0, slots := 0, locals := 47 } s m args below meth c H locs 0 0 Q (F0 m 384 ls []) := by
  intro I A x3 x4 x5 x6 ls H locs hl h hw
  refine i_goto (tgt := 16) C 208 rfl rfl ?_
  exact hb16 I A x3 x4 x5 x6 ls _ _ hl h hw
set_option maxHeartbeats 4000000 in
set_option maxRecDepth 100000 in
theorem e_Mo_goThrough_275  {a1 : Int32} {a2 : Int32} {P : Int32 → ((Nat → Int32) × (Nat → Nat → Int32)) → Prop} {kb16 : (Nat → Int32) → (Nat → Nat → Int32) → Int32 → Int32 → Int32 → Int32 → Prop} (C : CX D cy R_Mo c_Mo_goThrough tb_Mo_goThrough 12 p s m args c Z) (hret : RetI p l e { frames := 2, cells := 0, slots := 0, locals := 47 } s m args below meth c c_Mo_goThrough .int D Z Q (fun (u : (Nat → Int32) × (Nat → Nat → Int32)) => wM cy ad u.1 u.2) P 0 0)
    (hb16 : ∀ (I : Nat → Int32) (A : Nat → Nat → Int32) (x3 : Int32) (x4 : Int32) (x5 : Int32) (x6 : Int32) (ls : Array Slot) (H : Heap) (locs : List Loc), lv_has ls 12 [(0, .ref (ad 0)), (1, .int a1), (2, .int a2), (3, .int x3), (4, .int x4), (5, .int x5), (6, .int x6)] → HXw D Z s.heap H locs (wM cy ad I A) → kb16 I A x3 x4 x5 x6 → W p l e { frames := 2, cells := 0, slots := 0, locals := 47 } s m args below meth c H locs 0 0 Q (F0 m 16 ls [])) :
    ∀ (I : Nat → Int32) (A : Nat → Nat → Int32) (x3 : Int32) (x4 : Int32) (x6 : Int32) (s0 : Int32) (ls : Array Slot) (H : Heap) (locs : List Loc), lv_has ls 12 [(0, .ref (ad 0)), (1, .int a1), (2, .int a2), (3, .int x3), (4, .int x4), (6, .int x6)] → HXw D Z s.heap H locs (wM cy ad I A) → g_Mo_goThrough_275 a1 a2 P kb16 I A x3 x4 x6 s0 → W p l e { frames := 2, cells := 0, slots := 0, locals := 47 } s m args below meth c H locs 0 0 Q (F0 m 275 ls [.int s0]) := by
  intro I A x3 x4 x6 s0 ls H locs hl h hw
  refine i_istore (lv' := [(5, .int s0), (0, .ref (ad 0)), (1, .int a1), (2, .int a2), (3, .int x3), (4, .int x4), (6, .int x6)]) (n := 277) C 149 rfl rfl hl (by decide) rfl (fun ls hl => ?_)
  refine i_goto (tgt := 384) C 150 rfl rfl ?_
  exact e_Mo_goThrough_384 C hret hb16 I A x3 x4 s0 x6 ls _ _ (lv_sub hl [1, 2, 3, 4, 5, 0, 6] rfl) h hw
set_option maxHeartbeats 4000000 in
set_option maxRecDepth 100000 in
theorem e_Mo_goThrough_274  {a1 : Int32} {a2 : Int32} {P : Int32 → ((Nat → Int32) × (Nat → Nat → Int32)) → Prop} {kb16 : (Nat → Int32) → (Nat → Nat → Int32) → Int32 → Int32 → Int32 → Int32 → Prop} (C : CX D cy R_Mo c_Mo_goThrough tb_Mo_goThrough 12 p s m args c Z) (hret : RetI p l e { frames := 2, cells := 0, slots := 0, locals := 47 } s m args below meth c c_Mo_goThrough .int D Z Q (fun (u : (Nat → Int32) × (Nat → Nat → Int32)) => wM cy ad u.1 u.2) P 0 0)
    (hb16 : ∀ (I : Nat → Int32) (A : Nat → Nat → Int32) (x3 : Int32) (x4 : Int32) (x5 : Int32) (x6 : Int32) (ls : Array Slot) (H : Heap) (locs : List Loc), lv_has ls 12 [(0, .ref (ad 0)), (1, .int a1), (2, .int a2), (3, .int x3), (4, .int x4), (5, .int x5), (6, .int x6)] → HXw D Z s.heap H locs (wM cy ad I A) → kb16 I A x3 x4 x5 x6 → W p l e { frames := 2, cells := 0, slots := 0, locals := 47 } s m args below meth c H locs 0 0 Q (F0 m 16 ls [])) :
    ∀ (I : Nat → Int32) (A : Nat → Nat → Int32) (x3 : Int32) (x4 : Int32) (x6 : Int32) (ls : Array Slot) (H : Heap) (locs : List Loc), lv_has ls 12 [(0, .ref (ad 0)), (1, .int a1), (2, .int a2), (3, .int x3), (4, .int x4), (6, .int x6)] → HXw D Z s.heap H locs (wM cy ad I A) → g_Mo_goThrough_274 a1 a2 P kb16 I A x3 x4 x6 → W p l e { frames := 2, cells := 0, slots := 0, locals := 47 } s m args below meth c H locs 0 0 Q (F0 m 274 ls []) := by
  intro I A x3 x4 x6 ls H locs hl h hw
  refine i_iconst (v := (0 : Int32)) (n := 275) C 148 rfl rfl rfl ?_
  exact e_Mo_goThrough_275 C hret hb16 I A x3 x4 x6 (0 : Int32) ls _ _ hl h hw
set_option maxHeartbeats 4000000 in
set_option maxRecDepth 100000 in
theorem e_Mo_goThrough_270  {a1 : Int32} {a2 : Int32} {P : Int32 → ((Nat → Int32) × (Nat → Nat → Int32)) → Prop} {kb16 : (Nat → Int32) → (Nat → Nat → Int32) → Int32 → Int32 → Int32 → Int32 → Prop} (C : CX D cy R_Mo c_Mo_goThrough tb_Mo_goThrough 12 p s m args c Z) (hret : RetI p l e { frames := 2, cells := 0, slots := 0, locals := 47 } s m args below meth c c_Mo_goThrough .int D Z Q (fun (u : (Nat → Int32) × (Nat → Nat → Int32)) => wM cy ad u.1 u.2) P 0 0)
    (hb16 : ∀ (I : Nat → Int32) (A : Nat → Nat → Int32) (x3 : Int32) (x4 : Int32) (x5 : Int32) (x6 : Int32) (ls : Array Slot) (H : Heap) (locs : List Loc), lv_has ls 12 [(0, .ref (ad 0)), (1, .int a1), (2, .int a2), (3, .int x3), (4, .int x4), (5, .int x5), (6, .int x6)] → HXw D Z s.heap H locs (wM cy ad I A) → kb16 I A x3 x4 x5 x6 → W p l e { frames := 2, cells := 0, slots := 0, locals := 47 } s m args below meth c H locs 0 0 Q (F0 m 16 ls [])) :
    ∀ (I : Nat → Int32) (A : Nat → Nat → Int32) (x3 : Int32) (x4 : Int32) (x6 : Int32) (ls : Array Slot) (H : Heap) (locs : List Loc), lv_has ls 12 [(0, .ref (ad 0)), (1, .int a1), (2, .int a2), (3, .int x3), (4, .int x4), (6, .int x6)] → HXw D Z s.heap H locs (wM cy ad I A) → g_Mo_goThrough_270 a1 a2 P kb16 I A x3 x4 x6 → W p l e { frames := 2, cells := 0, slots := 0, locals := 47 } s m args below meth c H locs 0 0 Q (F0 m 270 ls []) := by
  intro I A x3 x4 x6 ls H locs hl h hw
  refine i_iconst (v := (1 : Int32)) (n := 271) C 146 rfl rfl rfl ?_
  refine i_goto (tgt := 275) C 147 rfl rfl ?_
  exact e_Mo_goThrough_275 C hret hb16 I A x3 x4 x6 (1 : Int32) ls _ _ hl h hw
set_option maxHeartbeats 4000000 in
set_option maxRecDepth 100000 in
theorem e_Mo_goThrough_239  {a1 : Int32} {a2 : Int32} {P : Int32 → ((Nat → Int32) × (Nat → Nat → Int32)) → Prop} {kb16 : (Nat → Int32) → (Nat → Nat → Int32) → Int32 → Int32 → Int32 → Int32 → Prop} (C : CX D cy R_Mo c_Mo_goThrough tb_Mo_goThrough 12 p s m args c Z) (hret : RetI p l e { frames := 2, cells := 0, slots := 0, locals := 47 } s m args below meth c c_Mo_goThrough .int D Z Q (fun (u : (Nat → Int32) × (Nat → Nat → Int32)) => wM cy ad u.1 u.2) P 0 0)
    (hb16 : ∀ (I : Nat → Int32) (A : Nat → Nat → Int32) (x3 : Int32) (x4 : Int32) (x5 : Int32) (x6 : Int32) (ls : Array Slot) (H : Heap) (locs : List Loc), lv_has ls 12 [(0, .ref (ad 0)), (1, .int a1), (2, .int a2), (3, .int x3), (4, .int x4), (5, .int x5), (6, .int x6)] → HXw D Z s.heap H locs (wM cy ad I A) → kb16 I A x3 x4 x5 x6 → W p l e { frames := 2, cells := 0, slots := 0, locals := 47 } s m args below meth c H locs 0 0 Q (F0 m 16 ls [])) :
    ∀ (I : Nat → Int32) (A : Nat → Nat → Int32) (x3 : Int32) (x4 : Int32) (x5 : Int32) (x6 : Int32) (x9 : Int32) (x10 : Int32) (s0 : Int32) (ls : Array Slot) (H : Heap) (locs : List Loc), lv_has ls 12 [(0, .ref (ad 0)), (1, .int a1), (2, .int a2), (3, .int x3), (4, .int x4), (5, .int x5), (6, .int x6), (9, .int x9), (10, .int x10)] → HXw D Z s.heap H locs (wM cy ad I A) → g_Mo_goThrough_239 a1 a2 P kb16 I A x3 x4 x5 x6 x9 x10 s0 → W p l e { frames := 2, cells := 0, slots := 0, locals := 47 } s m args below meth c H locs 0 0 Q (F0 m 239 ls [.int s0]) := by
  intro I A x3 x4 x5 x6 x9 x10 s0 ls H locs hl h hw
  refine i_istore (lv' := [(11, .int s0), (0, .ref (ad 0)), (1, .int a1), (2, .int a2), (3, .int x3), (4, .int x4), (5, .int x5), (6, .int x6), (9, .int x9), (10, .int x10)]) (n := 241) C 133 rfl rfl hl (by decide) rfl (fun ls hl => ?_)
  refine i_iload (n := 243) C 134 rfl rfl hl 6 rfl ?_
  refine i_if_eq (tgt := 274) (n := 246) C 135 rfl rfl rfl (fun c15 => ?_) (fun c15 => ?_)
  · replace hw := hw.1 c15
    exact e_Mo_goThrough_274 C hret hb16 I A x3 x4 x6 ls _ _ (lv_sub hl [1, 2, 3, 4, 5, 7] rfl) h hw
  · replace hw := hw.2 c15
    refine i_iload (n := 248) C 136 rfl rfl hl 8 rfl ?_
    refine i_bipush (v := (60 : Int32)) (n := 250) C 137 rfl rfl rfl ?_
    refine i_icmp_ne (tgt := 263) (n := 253) C 138 rfl rfl rfl (fun c16 => ?_) (fun c16 => ?_)
    · replace hw := hw.1 c16
      refine i_iload (n := 265) C 143 rfl rfl hl 0 rfl ?_
      refine i_iload (n := 267) C 144 rfl rfl hl 9 rfl ?_
      refine i_icmp_le (tgt := 274) (n := 270) C 145 rfl rfl rfl (fun c17 => ?_) (fun c17 => ?_)
      · replace hw := hw.1 c17
        exact e_Mo_goThrough_274 C hret hb16 I A x3 x4 x6 ls _ _ (lv_sub hl [1, 2, 3, 4, 5, 7] rfl) h hw
      · replace hw := hw.2 c17
        exact e_Mo_goThrough_270 C hret hb16 I A x3 x4 x6 ls _ _ (lv_sub hl [1, 2, 3, 4, 5, 7] rfl) h hw
    · replace hw := hw.2 c16
      refine i_iload (n := 255) C 139 rfl rfl hl 0 rfl ?_
      refine i_iload (n := 257) C 140 rfl rfl hl 9 rfl ?_
      refine i_icmp_ge (tgt := 274) (n := 260) C 141 rfl rfl rfl (fun c18 => ?_) (fun c18 => ?_)
      · replace hw := hw.1 c18
        exact e_Mo_goThrough_274 C hret hb16 I A x3 x4 x6 ls _ _ (lv_sub hl [1, 2, 3, 4, 5, 7] rfl) h hw
      · replace hw := hw.2 c18
        refine i_goto (tgt := 270) C 142 rfl rfl ?_
        exact e_Mo_goThrough_270 C hret hb16 I A x3 x4 x6 ls _ _ (lv_sub hl [1, 2, 3, 4, 5, 7] rfl) h hw
set_option maxHeartbeats 4000000 in
set_option maxRecDepth 100000 in
theorem e_Mo_goThrough_106  {a1 : Int32} {a2 : Int32} {P : Int32 → ((Nat → Int32) × (Nat → Nat → Int32)) → Prop} {kb16 : (Nat → Int32) → (Nat → Nat → Int32) → Int32 → Int32 → Int32 → Int32 → Prop} (C : CX D cy R_Mo c_Mo_goThrough tb_Mo_goThrough 12 p s m args c Z) (hret : RetI p l e { frames := 2, cells := 0, slots := 0, locals := 47 } s m args below meth c c_Mo_goThrough .int D Z Q (fun (u : (Nat → Int32) × (Nat → Nat → Int32)) => wM cy ad u.1 u.2) P 0 0)
    (hb16 : ∀ (I : Nat → Int32) (A : Nat → Nat → Int32) (x3 : Int32) (x4 : Int32) (x5 : Int32) (x6 : Int32) (ls : Array Slot) (H : Heap) (locs : List Loc), lv_has ls 12 [(0, .ref (ad 0)), (1, .int a1), (2, .int a2), (3, .int x3), (4, .int x4), (5, .int x5), (6, .int x6)] → HXw D Z s.heap H locs (wM cy ad I A) → kb16 I A x3 x4 x5 x6 → W p l e { frames := 2, cells := 0, slots := 0, locals := 47 } s m args below meth c H locs 0 0 Q (F0 m 16 ls [])) :
    ∀ (I : Nat → Int32) (A : Nat → Nat → Int32) (x3 : Int32) (x4 : Int32) (x5 : Int32) (x7 : Int32) (x8 : Int32) (s0 : Int32) (s1 : Int32) (ls : Array Slot) (H : Heap) (locs : List Loc), lv_has ls 12 [(0, .ref (ad 0)), (1, .int a1), (2, .int a2), (3, .int x3), (4, .int x4), (5, .int x5), (7, .int x7), (8, .int x8)] → HXw D Z s.heap H locs (wM cy ad I A) → g_Mo_goThrough_106 a1 a2 P kb16 I A x3 x4 x5 x7 x8 s0 s1 → W p l e { frames := 2, cells := 0, slots := 0, locals := 47 } s m args below meth c H locs 0 0 Q (F0 m 106 ls [.int s1, .int s0]) := by
  intro I A x3 x4 x5 x7 x8 s0 s1 ls H locs hl h hw
  refine i_iadd (n := 107) C 60 rfl rfl ?_
  refine lv_topi (fun y6 ey6 => ?_)
  replace hw := hw y6 ey6
  refine i_istore (lv' := [(6, .int y6), (0, .ref (ad 0)), (1, .int a1), (2, .int a2), (3, .int x3), (4, .int x4), (5, .int x5), (7, .int x7), (8, .int x8)]) (n := 109) C 61 rfl rfl hl (by decide) rfl (fun ls hl => ?_)
  refine i_aload_n (n := 110) C 62 rfl rfl rfl hl 1 rfl ?_
  refine fgM_Mo_89 (n := 113) C 63 rfl rfl h ?_
  refine i_bipush (v := (40 : Int32)) (n := 115) C 64 rfl rfl rfl ?_
  refine i_iload_n (n := 116) C 65 rfl rfl rfl hl 2 rfl ?_
  refine i_imul (n := 117) C 66 rfl rfl ?_
  refine i_iload (n := 119) C 67 rfl rfl hl 0 rfl ?_
  refine i_iadd (n := 120) C 68 rfl rfl ?_
  obtain ⟨hb, hw⟩ := hw
  refine i_iald (n := 121) C 69 rfl rfl h (wM_arr 26 (by decide) rfl) hb ?_
  refine lv_topi (fun y7 ey7 => ?_)
  replace hw := hw y7 ey7
  refine i_istore (lv' := [(9, .int y7), (6, .int y6), (0, .ref (ad 0)), (1, .int a1), (2, .int a2), (3, .int x3), (4, .int x4), (5, .int x5), (7, .int x7), (8, .int x8)]) (n := 123) C 70 rfl rfl hl (by decide) rfl (fun ls hl => ?_)
  refine i_iinc (v := y6 + (1 : Int32)) (lv' := [(6, .int (y6 + (1 : Int32))), (9, .int y7), (0, .ref (ad 0)), (1, .int a1), (2, .int a2), (3, .int x3), (4, .int x4), (5, .int x5), (7, .int x7), (8, .int x8)]) (n := 126) C 71 rfl rfl hl 1 rfl rfl (by decide) rfl (fun ls hl => ?_)
  refine i_iconst (v := (0 : Int32)) (n := 127) C 72 rfl rfl rfl ?_
  refine i_istore (lv' := [(10, .int (0 : Int32)), (6, .int (y6 + (1 : Int32))), (9, .int y7), (0, .ref (ad 0)), (1, .int a1), (2, .int a2), (3, .int x3), (4, .int x4), (5, .int x5), (7, .int x7), (8, .int x8)]) (n := 129) C 73 rfl rfl hl (by decide) rfl (fun ls hl => ?_)
  obtain ⟨n11, hw⟩ := hw
  refine e_Mo_goThrough_129 C hret (fun I_11 A_11 x3_11 x4_11 x5_11 x6_11 x7_11 x8_11 x9_11 x10_11 ls H locs hl h hw => ?_) n11 I A x3 x4 x5 (y6 + (1 : Int32)) x7 x8 y7 (0 : Int32) ls _ _ (lv_sub hl [3, 4, 5, 6, 7, 8, 1, 9, 10, 2, 0] rfl) h hw
  have hl : lv_has ls 12 [(0, .ref (ad 0)), (1, .int a1), (2, .int a2), (3, .int x3_11), (4, .int x4_11), (5, .int x5_11), (6, .int x6_11), (7, .int x7_11), (8, .int x8_11), (9, .int x9_11), (10, .int x10_11)] := hl
  refine i_iload (n := 182) C 103 rfl rfl hl 7 rfl ?_
  refine i_bipush (v := (109 : Int32)) (n := 184) C 104 rfl rfl rfl ?_
  refine i_icmp_ne (tgt := 200) (n := 187) C 105 rfl rfl rfl (fun c12 => ?_) (fun c12 => ?_)
  · replace hw := hw.1 c12
    refine i_iload (n := 202) C 113 rfl rfl hl 7 rfl ?_
    refine i_bipush (v := (103 : Int32)) (n := 204) C 114 rfl rfl rfl ?_
    refine i_icmp_ne (tgt := 217) (n := 207) C 115 rfl rfl rfl (fun c13 => ?_) (fun c13 => ?_)
    · replace hw := hw.1 c13
      refine i_aload_n (n := 218) C 121 rfl rfl rfl hl 0 rfl ?_
      refine fgM_Mo_16 (n := 221) C 122 rfl rfl h ?_
      refine i_iload (n := 223) C 123 rfl rfl hl 8 rfl ?_
      obtain ⟨hb, hw⟩ := hw
      refine i_iald (n := 224) C 124 rfl rfl h (wM_arr 2 (by decide) rfl) hb ?_
      refine i_iconst (v := (4 : Int32)) (n := 225) C 125 rfl rfl rfl ?_
      refine i_icmp_ne (tgt := 238) (n := 228) C 126 rfl rfl rfl (fun c14 => ?_) (fun c14 => ?_)
      · replace hw := hw.1 c14
        refine i_iconst (v := (0 : Int32)) (n := 239) C 132 rfl rfl rfl ?_
        exact e_Mo_goThrough_239 C hret hb16 I_11 A_11 x3_11 x4_11 x5_11 x6_11 x9_11 x10_11 (0 : Int32) ls _ _ (lv_sub hl [0, 1, 2, 3, 4, 5, 6, 9, 10] rfl) h hw
      · replace hw := hw.2 c14
        refine i_aload_n (n := 229) C 127 rfl rfl rfl hl 0 rfl ?_
        refine fgM_Mo_31 (n := 232) C 128 rfl rfl h ?_
        refine i_iload (n := 234) C 129 rfl rfl hl 8 rfl ?_
        obtain ⟨hb, hw⟩ := hw
        refine i_iald (n := 235) C 130 rfl rfl h (wM_arr 7 (by decide) rfl) hb ?_
        refine i_goto (tgt := 239) C 131 rfl rfl ?_
        exact e_Mo_goThrough_239 C hret hb16 I_11 A_11 x3_11 x4_11 x5_11 x6_11 x9_11 x10_11 (A_11 7 x8_11.toNatClampNeg) ls _ _ (lv_sub hl [0, 1, 2, 3, 4, 5, 6, 9, 10] rfl) h hw
    · replace hw := hw.2 c13
      refine i_aload_n (n := 208) C 116 rfl rfl rfl hl 0 rfl ?_
      refine fgM_Mo_47 (n := 211) C 117 rfl rfl h ?_
      refine i_iload (n := 213) C 118 rfl rfl hl 8 rfl ?_
      obtain ⟨hb, hw⟩ := hw
      refine i_iald (n := 214) C 119 rfl rfl h (wM_arr 12 (by decide) rfl) hb ?_
      refine i_goto (tgt := 239) C 120 rfl rfl ?_
      exact e_Mo_goThrough_239 C hret hb16 I_11 A_11 x3_11 x4_11 x5_11 x6_11 x9_11 x10_11 (A_11 12 x8_11.toNatClampNeg) ls _ _ (lv_sub hl [0, 1, 2, 3, 4, 5, 6, 9, 10] rfl) h hw
  · replace hw := hw.2 c12
    refine i_aload_n (n := 188) C 106 rfl rfl rfl hl 0 rfl ?_
    refine fgM_Mo_165 (n := 191) C 107 rfl rfl h ?_
    refine i_iconst (v := (4 : Int32)) (n := 192) C 108 rfl rfl rfl ?_
    refine i_idiv (n := 193) C 109 rfl rfl (by decide) ?_
    refine i_sipush (v := (1440 : Int32)) (n := 196) C 110 rfl rfl rfl ?_
    refine i_irem (n := 197) C 111 rfl rfl (by decide) ?_
    refine i_goto (tgt := 239) C 112 rfl rfl ?_
    exact e_Mo_goThrough_239 C hret hb16 I_11 A_11 x3_11 x4_11 x5_11 x6_11 x9_11 x10_11 (((I_11 3) / (4 : Int32)) - ((I_11 3) / (4 : Int32)) / (1440 : Int32) * (1440 : Int32)) ls _ _ (lv_sub hl [0, 1, 2, 3, 4, 5, 6, 9, 10] rfl) h hw
set_option maxHeartbeats 4000000 in
set_option maxRecDepth 100000 in
theorem e_Mo_goThrough_90  {a1 : Int32} {a2 : Int32} {P : Int32 → ((Nat → Int32) × (Nat → Nat → Int32)) → Prop} {kb16 : (Nat → Int32) → (Nat → Nat → Int32) → Int32 → Int32 → Int32 → Int32 → Prop} (C : CX D cy R_Mo c_Mo_goThrough tb_Mo_goThrough 12 p s m args c Z) (hret : RetI p l e { frames := 2, cells := 0, slots := 0, locals := 47 } s m args below meth c c_Mo_goThrough .int D Z Q (fun (u : (Nat → Int32) × (Nat → Nat → Int32)) => wM cy ad u.1 u.2) P 0 0)
    (hb16 : ∀ (I : Nat → Int32) (A : Nat → Nat → Int32) (x3 : Int32) (x4 : Int32) (x5 : Int32) (x6 : Int32) (ls : Array Slot) (H : Heap) (locs : List Loc), lv_has ls 12 [(0, .ref (ad 0)), (1, .int a1), (2, .int a2), (3, .int x3), (4, .int x4), (5, .int x5), (6, .int x6)] → HXw D Z s.heap H locs (wM cy ad I A) → kb16 I A x3 x4 x5 x6 → W p l e { frames := 2, cells := 0, slots := 0, locals := 47 } s m args below meth c H locs 0 0 Q (F0 m 16 ls [])) :
    ∀ (I : Nat → Int32) (A : Nat → Nat → Int32) (x3 : Int32) (x4 : Int32) (x5 : Int32) (x6 : Int32) (x7 : Int32) (s0 : Int32) (ls : Array Slot) (H : Heap) (locs : List Loc), lv_has ls 12 [(0, .ref (ad 0)), (1, .int a1), (2, .int a2), (3, .int x3), (4, .int x4), (5, .int x5), (6, .int x6), (7, .int x7)] → HXw D Z s.heap H locs (wM cy ad I A) → g_Mo_goThrough_90 a1 a2 P kb16 I A x3 x4 x5 x6 x7 s0 → W p l e { frames := 2, cells := 0, slots := 0, locals := 47 } s m args below meth c H locs 0 0 Q (F0 m 90 ls [.int s0]) := by
  intro I A x3 x4 x5 x6 x7 s0 ls H locs hl h hw
  refine i_istore (lv' := [(8, .int s0), (0, .ref (ad 0)), (1, .int a1), (2, .int a2), (3, .int x3), (4, .int x4), (5, .int x5), (6, .int x6), (7, .int x7)]) (n := 92) C 52 rfl rfl hl (by decide) rfl (fun ls hl => ?_)
  refine i_iload (n := 94) C 53 rfl rfl hl 7 rfl ?_
  refine i_iload (n := 96) C 54 rfl rfl hl 8 rfl ?_
  refine i_bipush (v := (109 : Int32)) (n := 98) C 55 rfl rfl rfl ?_
  refine i_icmp_ne (tgt := 105) (n := 101) C 56 rfl rfl rfl (fun c5 => ?_) (fun c5 => ?_)
  · replace hw := hw.1 c5
    refine i_iconst (v := (2 : Int32)) (n := 106) C 59 rfl rfl rfl ?_
    exact e_Mo_goThrough_106 C hret hb16 I A x3 x4 x5 x7 s0 x6 (2 : Int32) ls _ _ (lv_sub hl [1, 2, 3, 4, 5, 6, 8, 0] rfl) h hw
  · replace hw := hw.2 c5
    refine i_iconst (v := (1 : Int32)) (n := 102) C 57 rfl rfl rfl ?_
    refine i_goto (tgt := 106) C 58 rfl rfl ?_
    exact e_Mo_goThrough_106 C hret hb16 I A x3 x4 x5 x7 s0 x6 (1 : Int32) ls _ _ (lv_sub hl [1, 2, 3, 4, 5, 6, 8, 0] rfl) h hw
set_option maxHeartbeats 4000000 in
set_option maxRecDepth 100000 in
theorem e_Mo_goThrough_62  {a1 : Int32} {a2 : Int32} {P : Int32 → ((Nat → Int32) × (Nat → Nat → Int32)) → Prop} {kb16 : (Nat → Int32) → (Nat → Nat → Int32) → Int32 → Int32 → Int32 → Int32 → Prop} (C : CX D cy R_Mo c_Mo_goThrough tb_Mo_goThrough 12 p s m args c Z) (hret : RetI p l e { frames := 2, cells := 0, slots := 0, locals := 47 } s m args below meth c c_Mo_goThrough .int D Z Q (fun (u : (Nat → Int32) × (Nat → Nat → Int32)) => wM cy ad u.1 u.2) P 0 0)
    (hb16 : ∀ (I : Nat → Int32) (A : Nat → Nat → Int32) (x3 : Int32) (x4 : Int32) (x5 : Int32) (x6 : Int32) (ls : Array Slot) (H : Heap) (locs : List Loc), lv_has ls 12 [(0, .ref (ad 0)), (1, .int a1), (2, .int a2), (3, .int x3), (4, .int x4), (5, .int x5), (6, .int x6)] → HXw D Z s.heap H locs (wM cy ad I A) → kb16 I A x3 x4 x5 x6 → W p l e { frames := 2, cells := 0, slots := 0, locals := 47 } s m args below meth c H locs 0 0 Q (F0 m 16 ls [])) :
    ∀ (I : Nat → Int32) (A : Nat → Nat → Int32) (x3 : Int32) (x4 : Int32) (x5 : Int32) (x6 : Int32) (x7 : Int32) (ls : Array Slot) (H : Heap) (locs : List Loc), lv_has ls 12 [(0, .ref (ad 0)), (1, .int a1), (2, .int a2), (3, .int x3), (4, .int x4), (5, .int x5), (6, .int x6), (7, .int x7)] → HXw D Z s.heap H locs (wM cy ad I A) → g_Mo_goThrough_62 a1 a2 P kb16 I A x3 x4 x5 x6 x7 → W p l e { frames := 2, cells := 0, slots := 0, locals := 47 } s m args below meth c H locs 0 0 Q (F0 m 62 ls []) := by
  intro I A x3 x4 x5 x6 x7 ls H locs hl h hw
  refine i_iload (n := 64) C 35 rfl rfl hl 7 rfl ?_
  refine i_bipush (v := (109 : Int32)) (n := 66) C 36 rfl rfl rfl ?_
  refine i_icmp_ne (tgt := 73) (n := 69) C 37 rfl rfl rfl (fun c4 => ?_) (fun c4 => ?_)
  · replace hw := hw.1 c4
    refine i_aload_n (n := 74) C 40 rfl rfl rfl hl 0 rfl ?_
    refine fgM_Mo_89 (n := 77) C 41 rfl rfl h ?_
    refine i_bipush (v := (40 : Int32)) (n := 79) C 42 rfl rfl rfl ?_
    refine i_iload_n (n := 80) C 43 rfl rfl rfl hl 1 rfl ?_
    refine i_imul (n := 81) C 44 rfl rfl ?_
    refine i_iload (n := 83) C 45 rfl rfl hl 6 rfl ?_
    refine i_iadd (n := 84) C 46 rfl rfl ?_
    refine i_iconst (v := (1 : Int32)) (n := 85) C 47 rfl rfl rfl ?_
    refine i_iadd (n := 86) C 48 rfl rfl ?_
    obtain ⟨hb, hw⟩ := hw
    refine i_iald (n := 87) C 49 rfl rfl h (wM_arr 26 (by decide) rfl) hb ?_
    refine i_bipush (v := (97 : Int32)) (n := 89) C 50 rfl rfl rfl ?_
    refine i_isub (n := 90) C 51 rfl rfl ?_
    exact e_Mo_goThrough_90 C hret hb16 I A x3 x4 x5 x6 x7 ((A 26 ((((40 : Int32) * a1) + x6) + (1 : Int32)).toNatClampNeg) - (97 : Int32)) ls _ _ hl h hw
  · replace hw := hw.2 c4
    refine i_iconst (v := (0 : Int32)) (n := 70) C 38 rfl rfl rfl ?_
    refine i_goto (tgt := 90) C 39 rfl rfl ?_
    exact e_Mo_goThrough_90 C hret hb16 I A x3 x4 x5 x6 x7 (0 : Int32) ls _ _ hl h hw
set_option maxHeartbeats 4000000 in
set_option maxRecDepth 100000 in
theorem e_Mo_goThrough_381  {a1 : Int32} {a2 : Int32} {P : Int32 → ((Nat → Int32) × (Nat → Nat → Int32)) → Prop} {kb16 : (Nat → Int32) → (Nat → Nat → Int32) → Int32 → Int32 → Int32 → Int32 → Prop} (C : CX D cy R_Mo c_Mo_goThrough tb_Mo_goThrough 12 p s m args c Z) (hret : RetI p l e { frames := 2, cells := 0, slots := 0, locals := 47 } s m args below meth c c_Mo_goThrough .int D Z Q (fun (u : (Nat → Int32) × (Nat → Nat → Int32)) => wM cy ad u.1 u.2) P 0 0)
    (hb16 : ∀ (I : Nat → Int32) (A : Nat → Nat → Int32) (x3 : Int32) (x4 : Int32) (x5 : Int32) (x6 : Int32) (ls : Array Slot) (H : Heap) (locs : List Loc), lv_has ls 12 [(0, .ref (ad 0)), (1, .int a1), (2, .int a2), (3, .int x3), (4, .int x4), (5, .int x5), (6, .int x6)] → HXw D Z s.heap H locs (wM cy ad I A) → kb16 I A x3 x4 x5 x6 → W p l e { frames := 2, cells := 0, slots := 0, locals := 47 } s m args below meth c H locs 0 0 Q (F0 m 16 ls [])) :
    ∀ (I : Nat → Int32) (A : Nat → Nat → Int32) (x3 : Int32) (x4 : Int32) (x5 : Int32) (x6 : Int32) (ls : Array Slot) (H : Heap) (locs : List Loc), lv_has ls 12 [(0, .ref (ad 0)), (1, .int a1), (2, .int a2), (3, .int x3), (4, .int x4), (5, .int x5), (6, .int x6)] → HXw D Z s.heap H locs (wM cy ad I A) → g_Mo_goThrough_381 a1 a2 P kb16 I A x3 x4 x5 x6 → W p l e { frames := 2, cells := 0, slots := 0, locals := 47 } s m args below meth c H locs 0 0 Q (F0 m 381 ls []) := by
  intro I A x3 x4 x5 x6 ls H locs hl h hw
  refine i_iinc (v := x6 + (1 : Int32)) (lv' := [(6, .int (x6 + (1 : Int32))), (0, .ref (ad 0)), (1, .int a1), (2, .int a2), (3, .int x3), (4, .int x4), (5, .int x5)]) (n := 384) C 207 rfl rfl hl 6 rfl rfl (by decide) rfl (fun ls hl => ?_)
  exact e_Mo_goThrough_384 C hret hb16 I A x3 x4 x5 (x6 + (1 : Int32)) ls _ _ (lv_sub hl [1, 2, 3, 4, 5, 6, 0] rfl) h hw
set_option maxHeartbeats 4000000 in
set_option maxRecDepth 100000 in
theorem e_Mo_goThrough_362  {a1 : Int32} {a2 : Int32} {P : Int32 → ((Nat → Int32) × (Nat → Nat → Int32)) → Prop} {kb16 : (Nat → Int32) → (Nat → Nat → Int32) → Int32 → Int32 → Int32 → Int32 → Prop} (C : CX D cy R_Mo c_Mo_goThrough tb_Mo_goThrough 12 p s m args c Z) (hret : RetI p l e { frames := 2, cells := 0, slots := 0, locals := 47 } s m args below meth c c_Mo_goThrough .int D Z Q (fun (u : (Nat → Int32) × (Nat → Nat → Int32)) => wM cy ad u.1 u.2) P 0 0)
    (hb16 : ∀ (I : Nat → Int32) (A : Nat → Nat → Int32) (x3 : Int32) (x4 : Int32) (x5 : Int32) (x6 : Int32) (ls : Array Slot) (H : Heap) (locs : List Loc), lv_has ls 12 [(0, .ref (ad 0)), (1, .int a1), (2, .int a2), (3, .int x3), (4, .int x4), (5, .int x5), (6, .int x6)] → HXw D Z s.heap H locs (wM cy ad I A) → kb16 I A x3 x4 x5 x6 → W p l e { frames := 2, cells := 0, slots := 0, locals := 47 } s m args below meth c H locs 0 0 Q (F0 m 16 ls [])) :
    ∀ (I : Nat → Int32) (A : Nat → Nat → Int32) (x3 : Int32) (x4 : Int32) (x5 : Int32) (x6 : Int32) (ls : Array Slot) (H : Heap) (locs : List Loc), lv_has ls 12 [(0, .ref (ad 0)), (1, .int a1), (2, .int a2), (3, .int x3), (4, .int x4), (5, .int x5), (6, .int x6)] → HXw D Z s.heap H locs (wM cy ad I A) → g_Mo_goThrough_362 a1 a2 P kb16 I A x3 x4 x5 x6 → W p l e { frames := 2, cells := 0, slots := 0, locals := 47 } s m args below meth c H locs 0 0 Q (F0 m 362 ls []) := by
  intro I A x3 x4 x5 x6 ls H locs hl h hw
  refine i_iinc (v := x6 + (3 : Int32)) (lv' := [(6, .int (x6 + (3 : Int32))), (0, .ref (ad 0)), (1, .int a1), (2, .int a2), (3, .int x3), (4, .int x4), (5, .int x5)]) (n := 365) C 199 rfl rfl hl 6 rfl rfl (by decide) rfl (fun ls hl => ?_)
  refine i_goto (tgt := 384) C 200 rfl rfl ?_
  exact e_Mo_goThrough_384 C hret hb16 I A x3 x4 x5 (x6 + (3 : Int32)) ls _ _ (lv_sub hl [1, 2, 3, 4, 5, 6, 0] rfl) h hw
set_option maxHeartbeats 4000000 in
set_option maxRecDepth 100000 in
theorem e_Mo_goThrough_358  {a1 : Int32} {a2 : Int32} {P : Int32 → ((Nat → Int32) × (Nat → Nat → Int32)) → Prop} {kb16 : (Nat → Int32) → (Nat → Nat → Int32) → Int32 → Int32 → Int32 → Int32 → Prop} (C : CX D cy R_Mo c_Mo_goThrough tb_Mo_goThrough 12 p s m args c Z) (hret : RetI p l e { frames := 2, cells := 0, slots := 0, locals := 47 } s m args below meth c c_Mo_goThrough .int D Z Q (fun (u : (Nat → Int32) × (Nat → Nat → Int32)) => wM cy ad u.1 u.2) P 0 0)
    (hb16 : ∀ (I : Nat → Int32) (A : Nat → Nat → Int32) (x3 : Int32) (x4 : Int32) (x5 : Int32) (x6 : Int32) (ls : Array Slot) (H : Heap) (locs : List Loc), lv_has ls 12 [(0, .ref (ad 0)), (1, .int a1), (2, .int a2), (3, .int x3), (4, .int x4), (5, .int x5), (6, .int x6)] → HXw D Z s.heap H locs (wM cy ad I A) → kb16 I A x3 x4 x5 x6 → W p l e { frames := 2, cells := 0, slots := 0, locals := 47 } s m args below meth c H locs 0 0 Q (F0 m 16 ls [])) :
    ∀ (I : Nat → Int32) (A : Nat → Nat → Int32) (x3 : Int32) (x4 : Int32) (x5 : Int32) (x6 : Int32) (s1 : Int32) (s2 : Int32) (ls : Array Slot) (H : Heap) (locs : List Loc), lv_has ls 12 [(0, .ref (ad 0)), (1, .int a1), (2, .int a2), (3, .int x3), (4, .int x4), (5, .int x5), (6, .int x6)] → HXw D Z s.heap H locs (wM cy ad I A) → g_Mo_goThrough_358 a1 a2 P kb16 I A x3 x4 x5 x6 s1 s2 → W p l e { frames := 2, cells := 0, slots := 0, locals := 47 } s m args below meth c H locs 0 0 Q (F0 m 358 ls [.int s2, .int s1, .ref (ad 0)]) := by
  intro I A x3 x4 x5 x6 s1 s2 ls H locs hl h hw
  refine i_iadd (n := 359) C 197 rfl rfl ?_
  refine fpM_Mo_235 (n := 362) C 198 rfl rfl h (fun H locs h => ?_)
  exact e_Mo_goThrough_362 C hret hb16 (va_up I 12 (s1 + s2)) A x3 x4 x5 x6 ls _ _ hl h hw
set_option maxHeartbeats 4000000 in
set_option maxRecDepth 100000 in
theorem e_Mo_goThrough_301  {a1 : Int32} {a2 : Int32} {P : Int32 → ((Nat → Int32) × (Nat → Nat → Int32)) → Prop} {kb16 : (Nat → Int32) → (Nat → Nat → Int32) → Int32 → Int32 → Int32 → Int32 → Prop} (C : CX D cy R_Mo c_Mo_goThrough tb_Mo_goThrough 12 p s m args c Z) (hret : RetI p l e { frames := 2, cells := 0, slots := 0, locals := 47 } s m args below meth c c_Mo_goThrough .int D Z Q (fun (u : (Nat → Int32) × (Nat → Nat → Int32)) => wM cy ad u.1 u.2) P 0 0)
    (hb16 : ∀ (I : Nat → Int32) (A : Nat → Nat → Int32) (x3 : Int32) (x4 : Int32) (x5 : Int32) (x6 : Int32) (ls : Array Slot) (H : Heap) (locs : List Loc), lv_has ls 12 [(0, .ref (ad 0)), (1, .int a1), (2, .int a2), (3, .int x3), (4, .int x4), (5, .int x5), (6, .int x6)] → HXw D Z s.heap H locs (wM cy ad I A) → kb16 I A x3 x4 x5 x6 → W p l e { frames := 2, cells := 0, slots := 0, locals := 47 } s m args below meth c H locs 0 0 Q (F0 m 16 ls [])) :
    ∀ (I : Nat → Int32) (A : Nat → Nat → Int32) (x3 : Int32) (x5 : Int32) (x6 : Int32) (s0 : Int32) (s1 : Int32) (ls : Array Slot) (H : Heap) (locs : List Loc), lv_has ls 12 [(0, .ref (ad 0)), (1, .int a1), (2, .int a2), (3, .int x3), (5, .int x5), (6, .int x6)] → HXw D Z s.heap H locs (wM cy ad I A) → g_Mo_goThrough_301 a1 a2 P kb16 I A x3 x5 x6 s0 s1 → W p l e { frames := 2, cells := 0, slots := 0, locals := 47 } s m args below meth c H locs 0 0 Q (F0 m 301 ls [.int s1, .int s0]) := by
  intro I A x3 x5 x6 s0 s1 ls H locs hl h hw
  refine i_ior (n := 302) C 162 rfl rfl ?_
  refine lv_topi (fun y24 ey24 => ?_)
  replace hw := hw y24 ey24
  refine i_istore (lv' := [(4, .int y24), (0, .ref (ad 0)), (1, .int a1), (2, .int a2), (3, .int x3), (5, .int x5), (6, .int x6)]) (n := 304) C 163 rfl rfl hl (by decide) rfl (fun ls hl => ?_)
  refine i_iload (n := 306) C 164 rfl rfl hl 5 rfl ?_
  refine i_if_eq (tgt := 362) (n := 309) C 165 rfl rfl rfl (fun c25 => ?_) (fun c25 => ?_)
  · replace hw := hw.1 c25
    exact e_Mo_goThrough_362 C hret hb16 I A x3 y24 x5 x6 ls _ _ (lv_sub hl [1, 2, 3, 4, 0, 5, 6] rfl) h hw
  · replace hw := hw.2 c25
    refine i_iload_n (n := 310) C 166 rfl rfl rfl hl 3 rfl ?_
    refine i_if_eq (tgt := 362) (n := 313) C 167 rfl rfl rfl (fun c26 => ?_) (fun c26 => ?_)
    · replace hw := hw.1 c26
      exact e_Mo_goThrough_362 C hret hb16 I A x3 y24 x5 x6 ls _ _ (lv_sub hl [1, 2, 3, 4, 0, 5, 6] rfl) h hw
    · replace hw := hw.2 c26
      refine i_aload_n (n := 314) C 168 rfl rfl rfl hl 1 rfl ?_
      refine i_dup (n := 315) C 169 rfl rfl rfl ?_
      refine fgM_Mo_235 (n := 318) C 170 rfl rfl h ?_
      refine i_aload_n (n := 319) C 171 rfl rfl rfl hl 1 rfl ?_
      refine i_aload_n (n := 320) C 172 rfl rfl rfl hl 1 rfl ?_
      refine fgM_Mo_89 (n := 323) C 173 rfl rfl h ?_
      refine i_bipush (v := (40 : Int32)) (n := 325) C 174 rfl rfl rfl ?_
      refine i_iload_n (n := 326) C 175 rfl rfl rfl hl 2 rfl ?_
      refine i_imul (n := 327) C 176 rfl rfl ?_
      refine i_iload (n := 329) C 177 rfl rfl hl 6 rfl ?_
      refine i_iadd (n := 330) C 178 rfl rfl ?_
      refine i_iconst (v := (1 : Int32)) (n := 331) C 179 rfl rfl rfl ?_
      refine i_iadd (n := 332) C 180 rfl rfl ?_
      obtain ⟨hb, hw⟩ := hw
      refine i_iald (n := 333) C 181 rfl rfl h (wM_arr 26 (by decide) rfl) hb ?_
      refine i_aload_n (n := 334) C 182 rfl rfl rfl hl 1 rfl ?_
      refine fgM_Mo_89 (n := 337) C 183 rfl rfl h ?_
      refine i_bipush (v := (40 : Int32)) (n := 339) C 184 rfl rfl rfl ?_
      refine i_iload_n (n := 340) C 185 rfl rfl rfl hl 2 rfl ?_
      refine i_imul (n := 341) C 186 rfl rfl ?_
      refine i_iload (n := 343) C 187 rfl rfl hl 6 rfl ?_
      refine i_iadd (n := 344) C 188 rfl rfl ?_
      refine i_iconst (v := (2 : Int32)) (n := 345) C 189 rfl rfl rfl ?_
      refine i_iadd (n := 346) C 190 rfl rfl ?_
      obtain ⟨hb, hw⟩ := hw
      refine i_iald (n := 347) C 191 rfl rfl h (wM_arr 26 (by decide) rfl) hb ?_
      refine i_callVi (rest := [.int (I 12), .ref (ad 0)]) (ci := 11) (qc := (R_Mo, T_Mo, 50)) (n := 350) C 192 rfl rfl hl h rfl (wM_get (h := 0) (by decide)) (kV_Mo_238 ⟨by decide, by decide⟩) (m_Mo_doAct hw) rfl rfl (Nat.le_of_ble_eq_true rfl) ⟨by decide, by decide⟩ (fun r27 u28 H locs hw h => ?_)
      refine i_if_eq (tgt := 357) (n := 353) C 193 rfl rfl rfl (fun c29 => ?_) (fun c29 => ?_)
      · replace hw := hw.1 c29
        refine i_iconst (v := (0 : Int32)) (n := 358) C 196 rfl rfl rfl ?_
        exact e_Mo_goThrough_358 C hret hb16 I u28 x3 y24 x5 x6 (I 12) (0 : Int32) ls _ _ (lv_sub hl [1, 2, 3, 4, 0, 5, 6] rfl) h hw
      · replace hw := hw.2 c29
        refine i_iconst (v := (1 : Int32)) (n := 354) C 194 rfl rfl rfl ?_
        refine i_goto (tgt := 358) C 195 rfl rfl ?_
        exact e_Mo_goThrough_358 C hret hb16 I u28 x3 y24 x5 x6 (I 12) (1 : Int32) ls _ _ (lv_sub hl [1, 2, 3, 4, 0, 5, 6] rfl) h hw
set_option maxHeartbeats 4000000 in
set_option maxRecDepth 100000 in
theorem e_Mo_goThrough_16  {a1 : Int32} {a2 : Int32} {P : Int32 → ((Nat → Int32) × (Nat → Nat → Int32)) → Prop} {kx16 : (Nat → Int32) → (Nat → Nat → Int32) → Int32 → Prop} (C : CX D cy R_Mo c_Mo_goThrough tb_Mo_goThrough 12 p s m args c Z) (hret : RetI p l e { frames := 2, cells := 0, slots := 0, locals := 47 } s m args below meth c c_Mo_goThrough .int D Z Q (fun (u : (Nat → Int32) × (Nat → Nat → Int32)) => wM cy ad u.1 u.2) P 0 0)
    (hx16 : ∀ (I : Nat → Int32) (A : Nat → Nat → Int32) (x4 : Int32) (ls : Array Slot) (H : Heap) (locs : List Loc), lv_has ls 12 [(4, .int x4)] → HXw D Z s.heap H locs (wM cy ad I A) → kx16 I A x4 → W p l e { frames := 2, cells := 0, slots := 0, locals := 47 } s m args below meth c H locs 0 0 Q (F0 m 387 ls [])) :
    ∀ (n : Nat) (I : Nat → Int32) (A : Nat → Nat → Int32) (x3 : Int32) (x4 : Int32) (x5 : Int32) (x6 : Int32) (ls : Array Slot) (H : Heap) (locs : List Loc), lv_has ls 12 [(0, .ref (ad 0)), (1, .int a1), (2, .int a2), (3, .int x3), (4, .int x4), (5, .int x5), (6, .int x6)] → HXw D Z s.heap H locs (wM cy ad I A) → g_Mo_goThrough_16 a1 a2 P kx16 n I A x3 x4 x5 x6 → W p l e { frames := 2, cells := 0, slots := 0, locals := 47 } s m args below meth c H locs 0 0 Q (F0 m 16 ls []) := by
  intro n
  induction n with
  | zero => intro I A x3 x4 x5 x6 ls H locs hl h hw; exact hw.elim
  | succ n ih =>
    intro I A x3 x4 x5 x6 ls H locs hl h hw
    refine i_iload (n := 18) C 11 rfl rfl hl 6 rfl ?_
    refine i_aload_n (n := 19) C 12 rfl rfl rfl hl 0 rfl ?_
    refine fgM_Mo_86 (n := 22) C 13 rfl rfl h ?_
    refine i_iload_n (n := 23) C 14 rfl rfl rfl hl 1 rfl ?_
    obtain ⟨hb, hw⟩ := hw
    refine i_iald (n := 24) C 15 rfl rfl h (wM_arr 25 (by decide) rfl) hb ?_
    refine i_icmp_ge (tgt := 387) (n := 27) C 16 rfl rfl rfl (fun c1 => ?_) (fun c1 => ?_)
    · replace hw := hw.1 c1
      exact hx16 I A x4 ls _ _ (lv_sub hl [4] rfl) h hw
    · replace hw := hw.2 c1
      refine i_aload_n (n := 28) C 17 rfl rfl rfl hl 0 rfl ?_
      refine fgM_Mo_89 (n := 31) C 18 rfl rfl h ?_
      refine i_bipush (v := (40 : Int32)) (n := 33) C 19 rfl rfl rfl ?_
      refine i_iload_n (n := 34) C 20 rfl rfl rfl hl 1 rfl ?_
      refine i_imul (n := 35) C 21 rfl rfl ?_
      refine i_iload (n := 37) C 22 rfl rfl hl 6 rfl ?_
      refine i_iadd (n := 38) C 23 rfl rfl ?_
      obtain ⟨hb, hw⟩ := hw
      refine i_iald (n := 39) C 24 rfl rfl h (wM_arr 26 (by decide) rfl) hb ?_
      refine lv_topi (fun y2 ey2 => ?_)
      replace hw := hw y2 ey2
      refine i_istore (lv' := [(7, .int y2), (0, .ref (ad 0)), (1, .int a1), (2, .int a2), (3, .int x3), (4, .int x4), (5, .int x5), (6, .int x6)]) (n := 41) C 25 rfl rfl hl (by decide) rfl (fun ls hl => ?_)
      refine i_iload (n := 43) C 26 rfl rfl hl 0 rfl ?_
      refine i_bipush (v := (103 : Int32)) (n := 45) C 27 rfl rfl rfl ?_
      refine i_icmp_eq (tgt := 62) (n := 48) C 28 rfl rfl rfl (fun c3 => ?_) (fun c3 => ?_)
      · replace hw := hw.1 c3
        exact e_Mo_goThrough_62 C hret ih I A x3 x4 x5 x6 y2 ls _ _ (lv_sub hl [1, 2, 3, 4, 5, 6, 7, 0] rfl) h hw
      · replace hw := hw.2 c3
        refine i_iload (n := 50) C 29 rfl rfl hl 0 rfl ?_
        refine i_bipush (v := (116 : Int32)) (n := 52) C 30 rfl rfl rfl ?_
        refine i_icmp_eq (tgt := 62) (n := 55) C 31 rfl rfl rfl (fun c19 => ?_) (fun c19 => ?_)
        · replace hw := hw.1 c19
          exact e_Mo_goThrough_62 C hret ih I A x3 x4 x5 x6 y2 ls _ _ (lv_sub hl [1, 2, 3, 4, 5, 6, 7, 0] rfl) h hw
        · replace hw := hw.2 c19
          refine i_iload (n := 57) C 32 rfl rfl hl 0 rfl ?_
          refine i_bipush (v := (109 : Int32)) (n := 59) C 33 rfl rfl rfl ?_
          refine i_icmp_ne (tgt := 280) (n := 62) C 34 rfl rfl rfl (fun c20 => ?_) (fun c20 => ?_)
          · replace hw := hw.1 c20
            refine i_iload (n := 282) C 151 rfl rfl hl 0 rfl ?_
            refine i_bipush (v := (58 : Int32)) (n := 284) C 152 rfl rfl rfl ?_
            refine i_icmp_ne (tgt := 368) (n := 287) C 153 rfl rfl rfl (fun c21 => ?_) (fun c21 => ?_)
            · replace hw := hw.1 c21
              refine i_iload (n := 370) C 201 rfl rfl hl 0 rfl ?_
              refine i_bipush (v := (59 : Int32)) (n := 372) C 202 rfl rfl rfl ?_
              refine i_icmp_ne (tgt := 381) (n := 375) C 203 rfl rfl rfl (fun c22 => ?_) (fun c22 => ?_)
              · replace hw := hw.1 c22
                exact e_Mo_goThrough_381 C hret ih I A x3 x4 x5 x6 ls _ _ (lv_sub hl [1, 2, 3, 4, 5, 6, 7] rfl) h hw
              · replace hw := hw.2 c22
                refine i_iinc (v := x3 + (1 : Int32)) (lv' := [(3, .int (x3 + (1 : Int32))), (7, .int y2), (0, .ref (ad 0)), (1, .int a1), (2, .int a2), (4, .int x4), (5, .int x5), (6, .int x6)]) (n := 378) C 204 rfl rfl hl 4 rfl rfl (by decide) rfl (fun ls hl => ?_)
                refine i_iconst (v := (1 : Int32)) (n := 379) C 205 rfl rfl rfl ?_
                refine i_istore (lv' := [(5, .int (1 : Int32)), (3, .int (x3 + (1 : Int32))), (7, .int y2), (0, .ref (ad 0)), (1, .int a1), (2, .int a2), (4, .int x4), (6, .int x6)]) (n := 381) C 206 rfl rfl hl (by decide) rfl (fun ls hl => ?_)
                exact e_Mo_goThrough_381 C hret ih I A (x3 + (1 : Int32)) x4 (1 : Int32) x6 ls _ _ (lv_sub hl [3, 4, 5, 1, 6, 0, 7] rfl) h hw
            · replace hw := hw.2 c21
              refine i_iload (n := 289) C 154 rfl rfl hl 5 rfl ?_
              refine i_iload (n := 291) C 155 rfl rfl hl 6 rfl ?_
              refine i_if_eq (tgt := 300) (n := 294) C 156 rfl rfl rfl (fun c23 => ?_) (fun c23 => ?_)
              · replace hw := hw.1 c23
                refine i_iconst (v := (0 : Int32)) (n := 301) C 161 rfl rfl rfl ?_
                exact e_Mo_goThrough_301 C hret ih I A x3 x5 x6 x4 (0 : Int32) ls _ _ (lv_sub hl [1, 2, 3, 4, 6, 7] rfl) h hw
              · replace hw := hw.2 c23
                refine i_iconst (v := (1 : Int32)) (n := 295) C 157 rfl rfl rfl ?_
                refine i_iload_n (n := 296) C 158 rfl rfl rfl hl 4 rfl ?_
                refine i_ishl (n := 297) C 159 rfl rfl ?_
                refine i_goto (tgt := 301) C 160 rfl rfl ?_
                exact e_Mo_goThrough_301 C hret ih I A x3 x5 x6 x4 ((1 : Int32) <<< (x3 &&& 31)) ls _ _ (lv_sub hl [1, 2, 3, 4, 6, 7] rfl) h hw
          · replace hw := hw.2 c20
            exact e_Mo_goThrough_62 C hret ih I A x3 x4 x5 x6 y2 ls _ _ (lv_sub hl [1, 2, 3, 4, 5, 6, 7, 0] rfl) h hw
set_option maxHeartbeats 4000000 in
set_option maxRecDepth 100000 in
theorem m_Mo_goThrough {l : Launch} {D : va_G} {cy : Nat → ClassId} {ad : Nat → Nat} {I : Nat → Int32} {A : Nat → Nat → Int32} {a1 : Int32} {a2 : Int32} {P : Int32 → ((Nat → Int32) × (Nat → Nat → Int32)) → Prop} (hw : g_Mo_goThrough I A a1 a2 P) : ∀ sz, Met l y_Mo_goThrough (WL y_Mo_goThrough c_Mo_goThrough 12 (some .int)) { frames := 2, cells := 0, slots := 0, locals := 47 } (va_Pc [.ref (ad 0), .int a1, .int a2] (PreW D cy (wM cy ad I A) sz)) (va_Qi P (fun u t => PostW D (va_A (wM cy ad I A) sz) ((fun (u : (Nat → Int32) × (Nat → Nat → Int32)) => wM cy ad u.1 u.2) u) t) (va_A (wM cy ad I A) sz)) 0 0 (va_A (wM cy ad I A) sz) := by
  refine met_i (wf := fun (u : (Nat → Int32) × (Nat → Nat → Int32)) => wM cy ad u.1 u.2) R_Mo .int db_Mo_goThrough (by decide) rfl rfl (Nat.le_of_ble_eq_true rfl) ?_
  intro p e s m below meth c Z Q ls C h hl hret
  have hl : lv_has ls 12 [(0, .ref (ad 0)), (1, .int a1), (2, .int a2)] := hl
  refine i_iconst (v := (0 : Int32)) (n := 1) C 0 rfl rfl rfl ?_
  refine i_istore_n (lv' := [(3, .int (0 : Int32)), (0, .ref (ad 0)), (1, .int a1), (2, .int a2)]) (n := 2) C 1 rfl rfl rfl hl (by decide) rfl (fun ls hl => ?_)
  refine i_iconst (v := (0 : Int32)) (n := 3) C 2 rfl rfl rfl ?_
  refine i_istore (lv' := [(4, .int (0 : Int32)), (3, .int (0 : Int32)), (0, .ref (ad 0)), (1, .int a1), (2, .int a2)]) (n := 5) C 3 rfl rfl hl (by decide) rfl (fun ls hl => ?_)
  refine i_iconst (v := (1 : Int32)) (n := 6) C 4 rfl rfl rfl ?_
  refine i_istore (lv' := [(5, .int (1 : Int32)), (4, .int (0 : Int32)), (3, .int (0 : Int32)), (0, .ref (ad 0)), (1, .int a1), (2, .int a2)]) (n := 8) C 5 rfl rfl hl (by decide) rfl (fun ls hl => ?_)
  refine i_aload_n (n := 9) C 6 rfl rfl rfl hl 3 rfl ?_
  refine i_iconst (v := (0 : Int32)) (n := 10) C 7 rfl rfl rfl ?_
  refine fpM_Mo_235 (n := 13) C 8 rfl rfl h (fun H locs h => ?_)
  refine i_iconst (v := (0 : Int32)) (n := 14) C 9 rfl rfl rfl ?_
  refine i_istore (lv' := [(6, .int (0 : Int32)), (5, .int (1 : Int32)), (4, .int (0 : Int32)), (3, .int (0 : Int32)), (0, .ref (ad 0)), (1, .int a1), (2, .int a2)]) (n := 16) C 10 rfl rfl hl (by decide) rfl (fun ls hl => ?_)
  obtain ⟨n30, hw⟩ := hw
  refine e_Mo_goThrough_16 C hret (fun I_30 A_30 x4_30 ls H locs hl h hw => ?_) n30 (va_up I 12 (0 : Int32)) A (0 : Int32) (0 : Int32) (1 : Int32) (0 : Int32) ls _ _ (lv_sub hl [4, 5, 6, 3, 2, 1, 0] rfl) h hw
  have hl : lv_has ls 12 [(4, .int x4_30)] := hl
  refine i_iload (n := 389) C 209 rfl rfl hl 0 rfl ?_
  exact hret _ (I_30, A_30) _ _ _ _ rfl hw h (C.dg (k := 210) rfl)
end S226
theorem kV_Mo_241 {R : Room} {s : State} {args : Array Value} (hR : 2 + 1 ≤ R.frames ∧ 8 + (12 + 11) + 47 ≤ R.locals) (ht : ∀ w ∈ GW, w.before args s = true) : CallW R s args R_Mo R_Mo 241 y_Mo_goThrough c_Mo_goThrough 12 (some .int) (WL y_Mo_goThrough c_Mo_goThrough 12 (some .int)) { frames := 2, cells := 0, slots := 0, locals := 47 } 0 0 2 := cwV 2 ht (GW_v w_6_229 w_6_231 w_0_45 w_1_7 (GW_wl w_6_232)) rfl rfl rfl (by decide +kernel) hR
section S227
variable {p : Program} {l : Launch} {e : Env} {R : Room} {s : State} {m : MethodId} {args : Array Value} {below : List Frame} {meth : Method} {c : Code} {H : Heap} {locs : List Loc} {cells slots : Nat} {Q : State → Prop}
variable {cc : ByteArray} {pc n nL : Nat} {ls : Array Slot} {rest : List Value} {D : va_G} {cy : Nat → ClassId} {Z : Nat → Prop} {ad : Nat → Nat} {tb : List (Nat × Instr × Nat)} {lv : List (Nat × Value)}
set_option maxHeartbeats 4000000 in
set_option maxRecDepth 100000 in
theorem e_Mo_does_56   {P : Int32 → ((Nat → Int32) × (Nat → Nat → Int32)) → Prop} {kb5 : (Nat → Int32) → (Nat → Nat → Int32) → Int32 → Int32 → Prop} (C : CX D cy R_Mo c_Mo_does tb_Mo_does 3 p s m args c Z) (hret : RetI p l e { frames := 3, cells := 0, slots := 0, locals := 78 } s m args below meth c c_Mo_does .int D Z Q (fun (u : (Nat → Int32) × (Nat → Nat → Int32)) => wM cy ad u.1 u.2) P 0 0)
    (hb5 : ∀ (I : Nat → Int32) (A : Nat → Nat → Int32) (x1 : Int32) (x2 : Int32) (ls : Array Slot) (H : Heap) (locs : List Loc), lv_has ls 3 [(0, .ref (ad 0)), (1, .int x1), (2, .int x2)] → HXw D Z s.heap H locs (wM cy ad I A) → kb5 I A x1 x2 → W p l e { frames := 3, cells := 0, slots := 0, locals := 78 } s m args below meth c H locs 0 0 Q (F0 m 5 ls [])) :
    ∀ (I : Nat → Int32) (A : Nat → Nat → Int32) (x2 : Int32) (s0 : Int32) (ls : Array Slot) (H : Heap) (locs : List Loc), lv_has ls 3 [(0, .ref (ad 0)), (2, .int x2)] → HXw D Z s.heap H locs (wM cy ad I A) → g_Mo_does_56 P kb5 I A x2 s0 → W p l e { frames := 3, cells := 0, slots := 0, locals := 78 } s m args below meth c H locs 0 0 Q (F0 m 56 ls [.int s0]) := by
  intro I A x2 s0 ls H locs hl h hw
  refine i_istore_n (lv' := [(1, .int s0), (0, .ref (ad 0)), (2, .int x2)]) (n := 57) C 33 rfl rfl rfl hl (by decide) rfl (fun ls hl => ?_)
  refine i_iinc (v := x2 + (1 : Int32)) (lv' := [(2, .int (x2 + (1 : Int32))), (1, .int s0), (0, .ref (ad 0))]) (n := 60) C 34 rfl rfl hl 2 rfl rfl (by decide) rfl (fun ls hl => ?_)
  refine i_goto (tgt := 5) C 35 rfl rfl ?_
  exact hb5 I A s0 (x2 + (1 : Int32)) ls _ _ (lv_sub hl [2, 1, 0] rfl) h hw
set_option maxHeartbeats 4000000 in
set_option maxRecDepth 100000 in
theorem e_Mo_does_55   {P : Int32 → ((Nat → Int32) × (Nat → Nat → Int32)) → Prop} {kb5 : (Nat → Int32) → (Nat → Nat → Int32) → Int32 → Int32 → Prop} (C : CX D cy R_Mo c_Mo_does tb_Mo_does 3 p s m args c Z) (hret : RetI p l e { frames := 3, cells := 0, slots := 0, locals := 78 } s m args below meth c c_Mo_does .int D Z Q (fun (u : (Nat → Int32) × (Nat → Nat → Int32)) => wM cy ad u.1 u.2) P 0 0)
    (hb5 : ∀ (I : Nat → Int32) (A : Nat → Nat → Int32) (x1 : Int32) (x2 : Int32) (ls : Array Slot) (H : Heap) (locs : List Loc), lv_has ls 3 [(0, .ref (ad 0)), (1, .int x1), (2, .int x2)] → HXw D Z s.heap H locs (wM cy ad I A) → kb5 I A x1 x2 → W p l e { frames := 3, cells := 0, slots := 0, locals := 78 } s m args below meth c H locs 0 0 Q (F0 m 5 ls [])) :
    ∀ (I : Nat → Int32) (A : Nat → Nat → Int32) (x1 : Int32) (x2 : Int32) (ls : Array Slot) (H : Heap) (locs : List Loc), lv_has ls 3 [(0, .ref (ad 0)), (1, .int x1), (2, .int x2)] → HXw D Z s.heap H locs (wM cy ad I A) → g_Mo_does_55 P kb5 I A x1 x2 → W p l e { frames := 3, cells := 0, slots := 0, locals := 78 } s m args below meth c H locs 0 0 Q (F0 m 55 ls []) := by
  intro I A x1 x2 ls H locs hl h hw
  refine i_iload_n (n := 56) C 32 rfl rfl rfl hl 1 rfl ?_
  exact e_Mo_does_56 C hret hb5 I A x2 x1 ls _ _ (lv_sub hl [0, 2] rfl) h hw
set_option maxHeartbeats 4000000 in
set_option maxRecDepth 100000 in
theorem e_Mo_does_51   {P : Int32 → ((Nat → Int32) × (Nat → Nat → Int32)) → Prop} {kb5 : (Nat → Int32) → (Nat → Nat → Int32) → Int32 → Int32 → Prop} (C : CX D cy R_Mo c_Mo_does tb_Mo_does 3 p s m args c Z) (hret : RetI p l e { frames := 3, cells := 0, slots := 0, locals := 78 } s m args below meth c c_Mo_does .int D Z Q (fun (u : (Nat → Int32) × (Nat → Nat → Int32)) => wM cy ad u.1 u.2) P 0 0)
    (hb5 : ∀ (I : Nat → Int32) (A : Nat → Nat → Int32) (x1 : Int32) (x2 : Int32) (ls : Array Slot) (H : Heap) (locs : List Loc), lv_has ls 3 [(0, .ref (ad 0)), (1, .int x1), (2, .int x2)] → HXw D Z s.heap H locs (wM cy ad I A) → kb5 I A x1 x2 → W p l e { frames := 3, cells := 0, slots := 0, locals := 78 } s m args below meth c H locs 0 0 Q (F0 m 5 ls [])) :
    ∀ (I : Nat → Int32) (A : Nat → Nat → Int32) (x2 : Int32) (ls : Array Slot) (H : Heap) (locs : List Loc), lv_has ls 3 [(0, .ref (ad 0)), (2, .int x2)] → HXw D Z s.heap H locs (wM cy ad I A) → g_Mo_does_51 P kb5 I A x2 → W p l e { frames := 3, cells := 0, slots := 0, locals := 78 } s m args below meth c H locs 0 0 Q (F0 m 51 ls []) := by
  intro I A x2 ls H locs hl h hw
  refine i_iload_n (n := 52) C 30 rfl rfl rfl hl 1 rfl ?_
  refine i_goto (tgt := 56) C 31 rfl rfl ?_
  exact e_Mo_does_56 C hret hb5 I A x2 x2 ls _ _ hl h hw
set_option maxHeartbeats 4000000 in
set_option maxRecDepth 100000 in
theorem e_Mo_does_5   {P : Int32 → ((Nat → Int32) × (Nat → Nat → Int32)) → Prop} {kx5 : (Nat → Int32) → (Nat → Nat → Int32) → Int32 → Prop} (C : CX D cy R_Mo c_Mo_does tb_Mo_does 3 p s m args c Z) (hret : RetI p l e { frames := 3, cells := 0, slots := 0, locals := 78 } s m args below meth c c_Mo_does .int D Z Q (fun (u : (Nat → Int32) × (Nat → Nat → Int32)) => wM cy ad u.1 u.2) P 0 0)
    (hx5 : ∀ (I : Nat → Int32) (A : Nat → Nat → Int32) (x1 : Int32) (ls : Array Slot) (H : Heap) (locs : List Loc), lv_has ls 3 [(0, .ref (ad 0)), (1, .int x1)] → HXw D Z s.heap H locs (wM cy ad I A) → kx5 I A x1 → W p l e { frames := 3, cells := 0, slots := 0, locals := 78 } s m args below meth c H locs 0 0 Q (F0 m 63 ls [])) :
    ∀ (n : Nat) (I : Nat → Int32) (A : Nat → Nat → Int32) (x1 : Int32) (x2 : Int32) (ls : Array Slot) (H : Heap) (locs : List Loc), lv_has ls 3 [(0, .ref (ad 0)), (1, .int x1), (2, .int x2)] → HXw D Z s.heap H locs (wM cy ad I A) → g_Mo_does_5 P kx5 n I A x1 x2 → W p l e { frames := 3, cells := 0, slots := 0, locals := 78 } s m args below meth c H locs 0 0 Q (F0 m 5 ls []) := by
  intro n
  induction n with
  | zero => intro I A x1 x2 ls H locs hl h hw; exact hw.elim
  | succ n ih =>
    intro I A x1 x2 ls H locs hl h hw
    refine i_iload_n (n := 6) C 4 rfl rfl rfl hl 2 rfl ?_
    refine i_aload_n (n := 7) C 5 rfl rfl rfl hl 0 rfl ?_
    refine fgM_Mo_215 (n := 10) C 6 rfl rfl h ?_
    refine i_icmp_ge (tgt := 63) (n := 13) C 7 rfl rfl rfl (fun c1 => ?_) (fun c1 => ?_)
    · replace hw := hw.1 c1
      exact hx5 I A x1 ls _ _ (lv_sub hl [0, 1] rfl) h hw
    · replace hw := hw.2 c1
      refine i_aload_n (n := 14) C 8 rfl rfl rfl hl 0 rfl ?_
      refine fgM_Mo_83 (n := 17) C 9 rfl rfl h ?_
      refine i_iload_n (n := 18) C 10 rfl rfl rfl hl 2 rfl ?_
      obtain ⟨hb, hw⟩ := hw
      refine i_iald (n := 19) C 11 rfl rfl h (wM_arr 24 (by decide) rfl) hb ?_
      refine i_aload_n (n := 20) C 12 rfl rfl rfl hl 0 rfl ?_
      refine fgM_Mo_165 (n := 23) C 13 rfl rfl h ?_
      refine i_iconst (v := (4 : Int32)) (n := 24) C 14 rfl rfl rfl ?_
      refine i_idiv (n := 25) C 15 rfl rfl (by decide) ?_
      refine i_sipush (v := (1440 : Int32)) (n := 28) C 16 rfl rfl rfl ?_
      refine i_idiv (n := 29) C 17 rfl rfl (by decide) ?_
      refine i_icmp_gt (tgt := 55) (n := 32) C 18 rfl rfl rfl (fun c2 => ?_) (fun c2 => ?_)
      · replace hw := hw.1 c2
        exact e_Mo_does_55 C hret ih I A x1 x2 ls _ _ hl h hw
      · replace hw := hw.2 c2
        refine i_iload_n (n := 33) C 19 rfl rfl rfl hl 1 rfl ?_
        refine i_if_lt (tgt := 51) (n := 36) C 20 rfl rfl rfl (fun c3 => ?_) (fun c3 => ?_)
        · replace hw := hw.1 c3
          exact e_Mo_does_51 C hret ih I A x2 ls _ _ (lv_sub hl [0, 2] rfl) h hw
        · replace hw := hw.2 c3
          refine i_aload_n (n := 37) C 21 rfl rfl rfl hl 0 rfl ?_
          refine fgM_Mo_83 (n := 40) C 22 rfl rfl h ?_
          refine i_iload_n (n := 41) C 23 rfl rfl rfl hl 2 rfl ?_
          obtain ⟨hb, hw⟩ := hw
          refine i_iald (n := 42) C 24 rfl rfl h (wM_arr 24 (by decide) rfl) hb ?_
          refine i_aload_n (n := 43) C 25 rfl rfl rfl hl 0 rfl ?_
          refine fgM_Mo_83 (n := 46) C 26 rfl rfl h ?_
          refine i_iload_n (n := 47) C 27 rfl rfl rfl hl 1 rfl ?_
          obtain ⟨hb, hw⟩ := hw
          refine i_iald (n := 48) C 28 rfl rfl h (wM_arr 24 (by decide) rfl) hb ?_
          refine i_icmp_lt (tgt := 55) (n := 51) C 29 rfl rfl rfl (fun c4 => ?_) (fun c4 => ?_)
          · replace hw := hw.1 c4
            exact e_Mo_does_55 C hret ih I A x1 x2 ls _ _ hl h hw
          · replace hw := hw.2 c4
            exact e_Mo_does_51 C hret ih I A x2 ls _ _ (lv_sub hl [0, 2] rfl) h hw
set_option maxHeartbeats 4000000 in
set_option maxRecDepth 100000 in
theorem m_Mo_does {l : Launch} {D : va_G} {cy : Nat → ClassId} {ad : Nat → Nat} {I : Nat → Int32} {A : Nat → Nat → Int32}  {P : Int32 → ((Nat → Int32) × (Nat → Nat → Int32)) → Prop} (hw : g_Mo_does I A P) : ∀ sz, Met l y_Mo_does (WL y_Mo_does c_Mo_does 3 (some .int)) { frames := 3, cells := 0, slots := 0, locals := 78 } (va_Pc [.ref (ad 0)] (PreW D cy (wM cy ad I A) sz)) (va_Qi P (fun u t => PostW D (va_A (wM cy ad I A) sz) ((fun (u : (Nat → Int32) × (Nat → Nat → Int32)) => wM cy ad u.1 u.2) u) t) (va_A (wM cy ad I A) sz)) 0 0 (va_A (wM cy ad I A) sz) := by
  refine met_i (wf := fun (u : (Nat → Int32) × (Nat → Nat → Int32)) => wM cy ad u.1 u.2) R_Mo .int db_Mo_does (by decide) rfl rfl (Nat.le_of_ble_eq_true rfl) ?_
  intro p e s m below meth c Z Q ls C h hl hret
  have hl : lv_has ls 3 [(0, .ref (ad 0))] := hl
  refine i_bipush (v := (-6 : Int32)) (n := 2) C 0 rfl rfl rfl ?_
  refine i_istore_n (lv' := [(1, .int (-6 : Int32)), (0, .ref (ad 0))]) (n := 3) C 1 rfl rfl rfl hl (by decide) rfl (fun ls hl => ?_)
  refine i_iconst (v := (0 : Int32)) (n := 4) C 2 rfl rfl rfl ?_
  refine i_istore_n (lv' := [(2, .int (0 : Int32)), (1, .int (-6 : Int32)), (0, .ref (ad 0))]) (n := 5) C 3 rfl rfl rfl hl (by decide) rfl (fun ls hl => ?_)
  obtain ⟨n5, hw⟩ := hw
  refine e_Mo_does_5 C hret (fun I_5 A_5 x1_5 ls H locs hl h hw => ?_) n5 I A (-6 : Int32) (0 : Int32) ls _ _ (lv_sub hl [2, 1, 0] rfl) h hw
  have hl : lv_has ls 3 [(0, .ref (ad 0)), (1, .int x1_5)] := hl
  refine i_iload_n (n := 64) C 36 rfl rfl rfl hl 1 rfl ?_
  refine i_if_ge (tgt := 70) (n := 67) C 37 rfl rfl rfl (fun c6 => ?_) (fun c6 => ?_)
  · replace hw := hw.1 c6
    refine i_aload_n (n := 71) C 40 rfl rfl rfl hl 0 rfl ?_
    refine i_iload_n (n := 72) C 41 rfl rfl rfl hl 1 rfl ?_
    refine i_iconst (v := (1 : Int32)) (n := 73) C 42 rfl rfl rfl ?_
    refine i_callVi (rest := []) (ci := 11) (qc := (R_Mo, T_Mo, 50)) (n := 76) C 43 rfl rfl hl h rfl (wM_get (h := 0) (by decide)) (kV_Mo_241 ⟨by decide, by decide⟩) (m_Mo_goThrough hw) rfl rfl (Nat.le_of_ble_eq_true rfl) ⟨by decide, by decide⟩ (fun r7 u8 H locs hw h => ?_)
    refine i_pop (n := 77) C 44 rfl rfl rfl ?_
    refine i_aload_n (n := 78) C 45 rfl rfl rfl hl 0 rfl ?_
    refine fgM_Mo_235 (n := 81) C 46 rfl rfl h ?_
    exact hret _ (u8.1, u8.2) _ _ _ _ rfl hw h (C.dg (k := 47) rfl)
  · replace hw := hw.2 c6
    refine i_bipush (v := (-3 : Int32)) (n := 69) C 38 rfl rfl rfl ?_
    exact hret _ (I_5, A_5) _ _ _ _ rfl hw h (C.dg (k := 39) rfl)
end S227
