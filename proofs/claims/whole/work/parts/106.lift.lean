theorem kSN_Ne_91 {R : Room} {s : State} {args : Array Value} (hR : 0 + 1 ≤ R.frames ∧ 8 + (2 + 11) + 0 ≤ R.locals) (ht : ∀ w ∈ GW, w.before args s = true) (hN : NX s) : va_CN R s args R_Ne 91 y_Pw_hasBit R_Pw c_Pw_hasBit 2 (some .boolean) (WL y_Pw_hasBit c_Pw_hasBit 2 (some .boolean)) { frames := 0, cells := 0, slots := 0, locals := 0 } 0 0 2 ∧ (Cond.static y_Pw_hasBit).before args s = true ∧ True := ⟨va_cnB 2 ht (GW_in (GW_wl w_2_76)) rfl rfl rfl (hN.1 _ (by simp [nxW])) (ht _ w_1_1) (by decide +kernel) hR, ht _ w_2_75, trivial⟩
section S85
variable {p : Program} {l : Launch} {e : Env} {R : Room} {s : State} {m : MethodId} {args : Array Value} {below : List Frame} {meth : Method} {c : Code} {H : Heap} {locs : List Loc} {cells slots : Nat} {Q : State → Prop}
variable {cc : ByteArray} {pc n nL : Nat} {ls : Array Slot} {rest : List Value} {D : va_G} {cy : Nat → ClassId} {Z : Nat → Prop} {ad : Nat → Nat} {tb : List (Nat × Instr × Nat)} {lv : List (Nat × Value)}
def g_Ne_listMains_154 (I : Nat → Int32) (P : ((Nat → Nat → Int32)) → Prop) (kb31 : (Nat → Nat → Int32) → Int32 → Int32 → Int32 → Int32 → Prop) (A : Nat → Nat → Int32) (x1 : Int32) (x2 : Int32) (x3 : Int32) (x4 : Int32) : Prop := kb31 A x1 x2 x3 (x4 + (1 : Int32))
set_option maxHeartbeats 4000000 in
set_option maxRecDepth 100000 in
theorem e_Ne_listMains_154 {I : Nat → Int32} {T : Nat → Option Nat} {L : List Nat} {K : Nat → Nat} {F : Nat → Nat → Int32}  {P : ((Nat → Nat → Int32)) → Prop} {kb31 : (Nat → Nat → Int32) → Int32 → Int32 → Int32 → Int32 → Prop} (C : CX D cy R_Ne c_Ne_listMains tb_Ne_listMains 6 p s m args c Z) (hret : RetV p l e { frames := 2, cells := 0, slots := 0, locals := 44 } s m args below meth c c_Ne_listMains D Z Q (fun (u : (Nat → Nat → Int32)) => wC cy ad I u T L K F) P 0 0)
    (hb31 : ∀ (A : Nat → Nat → Int32) (x1 : Int32) (x2 : Int32) (x3 : Int32) (x4 : Int32) (ls : Array Slot) (H : Heap) (locs : List Loc), lv_has ls 6 [(0, .ref (ad 1)), (1, .int x1), (2, .int x2), (3, .int x3), (4, .int x4)] → HXw D Z s.heap H locs (wC cy ad I A T L K F) → kb31 A x1 x2 x3 x4 → W p l e { frames := 2, cells := 0, slots := 0, locals := 44 } s m args below meth c H locs 0 0 Q (F0 m 31 ls [])) :
    ∀ (A : Nat → Nat → Int32) (x1 : Int32) (x2 : Int32) (x3 : Int32) (x4 : Int32) (ls : Array Slot) (H : Heap) (locs : List Loc), lv_has ls 6 [(0, .ref (ad 1)), (1, .int x1), (2, .int x2), (3, .int x3), (4, .int x4)] → HXw D Z s.heap H locs (wC cy ad I A T L K F) → g_Ne_listMains_154 I P kb31 A x1 x2 x3 x4 → W p l e { frames := 2, cells := 0, slots := 0, locals := 44 } s m args below meth c H locs 0 0 Q (F0 m 154 ls []) := by
  intro A x1 x2 x3 x4 ls H locs hl h hw
  refine i_iinc (v := x4 + (1 : Int32)) (lv' := [(4, .int (x4 + (1 : Int32))), (0, .ref (ad 1)), (1, .int x1), (2, .int x2), (3, .int x3)]) (n := 157) C 81 rfl rfl hl 4 rfl rfl (by decide) rfl (fun ls hl => ?_)
  refine i_goto (tgt := 31) C 82 rfl rfl ?_
  exact hb31 A x1 x2 x3 (x4 + (1 : Int32)) ls _ _ (lv_sub hl [1, 2, 3, 4, 0] rfl) h hw
def g_Ne_listMains_134 (I : Nat → Int32) (P : ((Nat → Nat → Int32)) → Prop) (kb31 : (Nat → Nat → Int32) → Int32 → Int32 → Int32 → Int32 → Prop) (A : Nat → Nat → Int32) (x1 : Int32) (x2 : Int32) (x3 : Int32) (x4 : Int32) (s1 : Int32) (s2 : Int32) : Prop := vp_in s1 36 ∧ (vp_in x4 18 ∧ (vp_in x2 36 ∧ (g_Ne_listMains_154 I P kb31 (sA (sA A 15 s1 s2) 16 x2 ((sA A 15 s1 s2) 19 x4.toNatClampNeg)) x1 (x2 + (1 : Int32)) x3 x4)))
set_option maxHeartbeats 4000000 in
set_option maxRecDepth 100000 in
theorem e_Ne_listMains_134 {I : Nat → Int32} {T : Nat → Option Nat} {L : List Nat} {K : Nat → Nat} {F : Nat → Nat → Int32}  {P : ((Nat → Nat → Int32)) → Prop} {kb31 : (Nat → Nat → Int32) → Int32 → Int32 → Int32 → Int32 → Prop} (C : CX D cy R_Ne c_Ne_listMains tb_Ne_listMains 6 p s m args c Z) (hret : RetV p l e { frames := 2, cells := 0, slots := 0, locals := 44 } s m args below meth c c_Ne_listMains D Z Q (fun (u : (Nat → Nat → Int32)) => wC cy ad I u T L K F) P 0 0)
    (hb31 : ∀ (A : Nat → Nat → Int32) (x1 : Int32) (x2 : Int32) (x3 : Int32) (x4 : Int32) (ls : Array Slot) (H : Heap) (locs : List Loc), lv_has ls 6 [(0, .ref (ad 1)), (1, .int x1), (2, .int x2), (3, .int x3), (4, .int x4)] → HXw D Z s.heap H locs (wC cy ad I A T L K F) → kb31 A x1 x2 x3 x4 → W p l e { frames := 2, cells := 0, slots := 0, locals := 44 } s m args below meth c H locs 0 0 Q (F0 m 31 ls [])) :
    ∀ (A : Nat → Nat → Int32) (x1 : Int32) (x2 : Int32) (x3 : Int32) (x4 : Int32) (s1 : Int32) (s2 : Int32) (ls : Array Slot) (H : Heap) (locs : List Loc), lv_has ls 6 [(0, .ref (ad 1)), (1, .int x1), (2, .int x2), (3, .int x3), (4, .int x4)] → HXw D Z s.heap H locs (wC cy ad I A T L K F) → g_Ne_listMains_134 I P kb31 A x1 x2 x3 x4 s1 s2 → W p l e { frames := 2, cells := 0, slots := 0, locals := 44 } s m args below meth c H locs 0 0 Q (F0 m 134 ls [.int s2, .int s1, .ref (ad 23)]) := by
  intro A x1 x2 x3 x4 s1 s2 ls H locs hl h hw
  obtain ⟨hb, hw⟩ := hw
  refine i_iast (n := 135) C 70 rfl rfl h (wC_arr 15 (by decide) rfl) hb (wC_sA 15 (by decide) rfl _ _) (fun H locs h => ?_)
  refine i_aload_n (n := 136) C 71 rfl rfl rfl hl 0 rfl ?_
  refine fgC_Ne_53 (n := 139) C 72 rfl rfl h ?_
  refine i_iload_n (n := 140) C 73 rfl rfl rfl hl 2 rfl ?_
  refine i_aload_n (n := 141) C 74 rfl rfl rfl hl 0 rfl ?_
  refine fgC_Ne_12 (n := 144) C 75 rfl rfl h ?_
  refine fgC_Ne_79 (n := 147) C 76 rfl rfl h ?_
  refine i_iload (n := 149) C 77 rfl rfl hl 4 rfl ?_
  obtain ⟨hb, hw⟩ := hw
  refine i_iald (n := 150) C 78 rfl rfl h (wC_arr 19 (by decide) rfl) hb ?_
  obtain ⟨hb, hw⟩ := hw
  refine i_iast (n := 151) C 79 rfl rfl h (wC_arr 16 (by decide) rfl) hb (wC_sA 16 (by decide) rfl _ _) (fun H locs h => ?_)
  refine i_iinc (v := x2 + (1 : Int32)) (lv' := [(2, .int (x2 + (1 : Int32))), (0, .ref (ad 1)), (1, .int x1), (3, .int x3), (4, .int x4)]) (n := 154) C 80 rfl rfl hl 2 rfl rfl (by decide) rfl (fun ls hl => ?_)
  exact e_Ne_listMains_154 C hret hb31 (sA (sA A 15 s1 s2) 16 x2 ((sA A 15 s1 s2) 19 x4.toNatClampNeg)) x1 (x2 + (1 : Int32)) x3 x4 ls _ _ (lv_sub hl [1, 2, 0, 3, 4] rfl) h hw
def g_Ne_listMains_92 (I : Nat → Int32) (P : ((Nat → Nat → Int32)) → Prop) (kb31 : (Nat → Nat → Int32) → Int32 → Int32 → Int32 → Int32 → Prop) (A : Nat → Nat → Int32) (x1 : Int32) (x2 : Int32) (x3 : Int32) (x4 : Int32) (x5 : Int32) : Prop := ((36 : Int32) ≤ x2 → (g_Ne_listMains_154 I P kb31 A x1 x2 x3 x4)) ∧ (¬ (36 : Int32) ≤ x2 → ((x5 = 0 → (vp_in x4 18 ∧ (g_Ne_listMains_134 I P kb31 A x1 x2 x3 x4 x2 (A 17 x4.toNatClampNeg)))) ∧ (¬ x5 = 0 → (vp_in x4 18 ∧ (g_Ne_listMains_134 I P kb31 A x1 x2 x3 x4 x2 (A 18 x4.toNatClampNeg))))))
set_option maxHeartbeats 4000000 in
set_option maxRecDepth 100000 in
theorem e_Ne_listMains_92 {I : Nat → Int32} {T : Nat → Option Nat} {L : List Nat} {K : Nat → Nat} {F : Nat → Nat → Int32}  {P : ((Nat → Nat → Int32)) → Prop} {kb31 : (Nat → Nat → Int32) → Int32 → Int32 → Int32 → Int32 → Prop} (C : CX D cy R_Ne c_Ne_listMains tb_Ne_listMains 6 p s m args c Z) (hret : RetV p l e { frames := 2, cells := 0, slots := 0, locals := 44 } s m args below meth c c_Ne_listMains D Z Q (fun (u : (Nat → Nat → Int32)) => wC cy ad I u T L K F) P 0 0)
    (hb31 : ∀ (A : Nat → Nat → Int32) (x1 : Int32) (x2 : Int32) (x3 : Int32) (x4 : Int32) (ls : Array Slot) (H : Heap) (locs : List Loc), lv_has ls 6 [(0, .ref (ad 1)), (1, .int x1), (2, .int x2), (3, .int x3), (4, .int x4)] → HXw D Z s.heap H locs (wC cy ad I A T L K F) → kb31 A x1 x2 x3 x4 → W p l e { frames := 2, cells := 0, slots := 0, locals := 44 } s m args below meth c H locs 0 0 Q (F0 m 31 ls [])) :
    ∀ (A : Nat → Nat → Int32) (x1 : Int32) (x2 : Int32) (x3 : Int32) (x4 : Int32) (x5 : Int32) (ls : Array Slot) (H : Heap) (locs : List Loc), lv_has ls 6 [(0, .ref (ad 1)), (1, .int x1), (2, .int x2), (3, .int x3), (4, .int x4), (5, .int x5)] → HXw D Z s.heap H locs (wC cy ad I A T L K F) → g_Ne_listMains_92 I P kb31 A x1 x2 x3 x4 x5 → W p l e { frames := 2, cells := 0, slots := 0, locals := 44 } s m args below meth c H locs 0 0 Q (F0 m 92 ls []) := by
  intro A x1 x2 x3 x4 x5 ls H locs hl h hw
  refine i_iload_n (n := 93) C 49 rfl rfl rfl hl 2 rfl ?_
  refine i_aload_n (n := 94) C 50 rfl rfl rfl hl 0 rfl ?_
  refine fgC_Ne_50 (n := 97) C 51 rfl rfl h ?_
  refine i_alen (t0 := 0) (v := (36 : Int32)) (n := 98) C 52 rfl rfl h (wC_arr 15 (by decide) rfl) rfl rfl ?_
  refine i_icmp_ge (tgt := 154) (n := 101) C 53 rfl rfl rfl (fun c8 => ?_) (fun c8 => ?_)
  · replace hw := hw.1 c8
    exact e_Ne_listMains_154 C hret hb31 A x1 x2 x3 x4 ls _ _ (lv_sub hl [0, 1, 2, 3, 4] rfl) h hw
  · replace hw := hw.2 c8
    refine i_aload_n (n := 102) C 54 rfl rfl rfl hl 0 rfl ?_
    refine fgC_Ne_50 (n := 105) C 55 rfl rfl h ?_
    refine i_iload_n (n := 106) C 56 rfl rfl rfl hl 2 rfl ?_
    refine i_iload (n := 108) C 57 rfl rfl hl 5 rfl ?_
    refine i_if_eq (tgt := 124) (n := 111) C 58 rfl rfl rfl (fun c9 => ?_) (fun c9 => ?_)
    · replace hw := hw.1 c9
      refine i_aload_n (n := 125) C 65 rfl rfl rfl hl 0 rfl ?_
      refine fgC_Ne_12 (n := 128) C 66 rfl rfl h ?_
      refine fgC_Ne_82 (n := 131) C 67 rfl rfl h ?_
      refine i_iload (n := 133) C 68 rfl rfl hl 4 rfl ?_
      obtain ⟨hb, hw⟩ := hw
      refine i_iald (n := 134) C 69 rfl rfl h (wC_arr 17 (by decide) rfl) hb ?_
      exact e_Ne_listMains_134 C hret hb31 A x1 x2 x3 x4 x2 (A 17 x4.toNatClampNeg) ls _ _ (lv_sub hl [0, 1, 2, 3, 4] rfl) h hw
    · replace hw := hw.2 c9
      refine i_aload_n (n := 112) C 59 rfl rfl rfl hl 0 rfl ?_
      refine fgC_Ne_12 (n := 115) C 60 rfl rfl h ?_
      refine fgC_Ne_85 (n := 118) C 61 rfl rfl h ?_
      refine i_iload (n := 120) C 62 rfl rfl hl 4 rfl ?_
      obtain ⟨hb, hw⟩ := hw
      refine i_iald (n := 121) C 63 rfl rfl h (wC_arr 18 (by decide) rfl) hb ?_
      refine i_goto (tgt := 134) C 64 rfl rfl ?_
      exact e_Ne_listMains_134 C hret hb31 A x1 x2 x3 x4 x2 (A 18 x4.toNatClampNeg) ls _ _ (lv_sub hl [0, 1, 2, 3, 4] rfl) h hw
def g_Ne_listMains_62 (I : Nat → Int32) (P : ((Nat → Nat → Int32)) → Prop) (kb31 : (Nat → Nat → Int32) → Int32 → Int32 → Int32 → Int32 → Prop) (A : Nat → Nat → Int32) (x1 : Int32) (x2 : Int32) (x3 : Int32) (x4 : Int32) (s0 : Int32) : Prop := g_Pw_hasBit x1 x4 (fun r5 => ((r5 = 0 → (g_Ne_listMains_154 I P kb31 A x1 x2 x3 x4)) ∧ (¬ r5 = 0 → ((¬ s0 = 0 → (g_Ne_listMains_92 I P kb31 A x1 x2 x3 x4 s0)) ∧ (s0 = 0 → (vp_in x4 18 ∧ ((¬ (A 18 x4.toNatClampNeg) = x3 → (g_Ne_listMains_154 I P kb31 A x1 x2 x3 x4)) ∧ ((A 18 x4.toNatClampNeg) = x3 → (g_Ne_listMains_92 I P kb31 A x1 x2 x3 x4 s0)))))))))
set_option maxHeartbeats 4000000 in
set_option maxRecDepth 100000 in
theorem e_Ne_listMains_62 {I : Nat → Int32} {T : Nat → Option Nat} {L : List Nat} {K : Nat → Nat} {F : Nat → Nat → Int32}  {P : ((Nat → Nat → Int32)) → Prop} {kb31 : (Nat → Nat → Int32) → Int32 → Int32 → Int32 → Int32 → Prop} (C : CX D cy R_Ne c_Ne_listMains tb_Ne_listMains 6 p s m args c Z) (hret : RetV p l e { frames := 2, cells := 0, slots := 0, locals := 44 } s m args below meth c c_Ne_listMains D Z Q (fun (u : (Nat → Nat → Int32)) => wC cy ad I u T L K F) P 0 0)
    (hb31 : ∀ (A : Nat → Nat → Int32) (x1 : Int32) (x2 : Int32) (x3 : Int32) (x4 : Int32) (ls : Array Slot) (H : Heap) (locs : List Loc), lv_has ls 6 [(0, .ref (ad 1)), (1, .int x1), (2, .int x2), (3, .int x3), (4, .int x4)] → HXw D Z s.heap H locs (wC cy ad I A T L K F) → kb31 A x1 x2 x3 x4 → W p l e { frames := 2, cells := 0, slots := 0, locals := 44 } s m args below meth c H locs 0 0 Q (F0 m 31 ls [])) :
    ∀ (A : Nat → Nat → Int32) (x1 : Int32) (x2 : Int32) (x3 : Int32) (x4 : Int32) (s0 : Int32) (ls : Array Slot) (H : Heap) (locs : List Loc), lv_has ls 6 [(0, .ref (ad 1)), (1, .int x1), (2, .int x2), (3, .int x3), (4, .int x4)] → HXw D Z s.heap H locs (wC cy ad I A T L K F) → g_Ne_listMains_62 I P kb31 A x1 x2 x3 x4 s0 → W p l e { frames := 2, cells := 0, slots := 0, locals := 44 } s m args below meth c H locs 0 0 Q (F0 m 62 ls [.int s0]) := by
  intro A x1 x2 x3 x4 s0 ls H locs hl h hw
  refine i_istore (lv' := [(5, .int s0), (0, .ref (ad 1)), (1, .int x1), (2, .int x2), (3, .int x3), (4, .int x4)]) (n := 64) C 35 rfl rfl hl (by decide) rfl (fun ls hl => ?_)
  refine i_iload_n (n := 65) C 36 rfl rfl rfl hl 2 rfl ?_
  refine i_iload (n := 67) C 37 rfl rfl hl 5 rfl ?_
  refine i_callSNp (rest := []) (n := 70) C 38 rfl rfl hl h (kSN_Ne_91 ⟨by decide, by decide⟩) (m_Pw_hasBit hw) rfl rfl (Nat.le_of_ble_eq_true rfl) ⟨by decide, by decide⟩ (fun r5 hw => ?_)
  refine i_if_eq (tgt := 154) (n := 73) C 39 rfl rfl rfl (fun c6 => ?_) (fun c6 => ?_)
  · replace hw := hw.1 c6
    exact e_Ne_listMains_154 C hret hb31 A x1 x2 x3 x4 ls _ _ (lv_sub hl [1, 2, 3, 4, 5] rfl) h hw
  · replace hw := hw.2 c6
    refine i_iload (n := 75) C 40 rfl rfl hl 0 rfl ?_
    refine i_if_ne (tgt := 92) (n := 78) C 41 rfl rfl rfl (fun c7 => ?_) (fun c7 => ?_)
    · replace hw := hw.1 c7
      exact e_Ne_listMains_92 C hret hb31 A x1 x2 x3 x4 s0 ls _ _ (lv_sub hl [1, 2, 3, 4, 5, 0] rfl) h hw
    · replace hw := hw.2 c7
      refine i_aload_n (n := 79) C 42 rfl rfl rfl hl 1 rfl ?_
      refine fgC_Ne_12 (n := 82) C 43 rfl rfl h ?_
      refine fgC_Ne_85 (n := 85) C 44 rfl rfl h ?_
      refine i_iload (n := 87) C 45 rfl rfl hl 5 rfl ?_
      obtain ⟨hb, hw⟩ := hw
      refine i_iald (n := 88) C 46 rfl rfl h (wC_arr 18 (by decide) rfl) hb ?_
      refine i_iload_n (n := 89) C 47 rfl rfl rfl hl 4 rfl ?_
      refine i_icmp_ne (tgt := 154) (n := 92) C 48 rfl rfl rfl (fun c10 => ?_) (fun c10 => ?_)
      · replace hw := hw.1 c10
        exact e_Ne_listMains_154 C hret hb31 A x1 x2 x3 x4 ls _ _ (lv_sub hl [1, 2, 3, 4, 5] rfl) h hw
      · replace hw := hw.2 c10
        exact e_Ne_listMains_92 C hret hb31 A x1 x2 x3 x4 s0 ls _ _ (lv_sub hl [1, 2, 3, 4, 5, 0] rfl) h hw
def g_Ne_listMains_31 (I : Nat → Int32) (P : ((Nat → Nat → Int32)) → Prop) (kx31 : (Nat → Nat → Int32) → Int32 → Int32 → Int32 → Prop) : Nat → (Nat → Nat → Int32) → Int32 → Int32 → Int32 → Int32 → Prop
  | 0, _, _, _, _, _ => False
  | n31 + 1, A, x1, x2, x3, x4 => ((I 9) ≤ x4 → (kx31 A x1 x2 x3)) ∧ (¬ (I 9) ≤ x4 → (vp_in x4 18 ∧ ((¬ (A 17 x4.toNatClampNeg) = x3 → (g_Ne_listMains_62 I P (g_Ne_listMains_31 I P kx31 n31) A x1 x2 x3 x4 (0 : Int32))) ∧ ((A 17 x4.toNatClampNeg) = x3 → (g_Ne_listMains_62 I P (g_Ne_listMains_31 I P kx31 n31) A x1 x2 x3 x4 (1 : Int32))))))
set_option maxHeartbeats 4000000 in
set_option maxRecDepth 100000 in
theorem e_Ne_listMains_31 {I : Nat → Int32} {T : Nat → Option Nat} {L : List Nat} {K : Nat → Nat} {F : Nat → Nat → Int32}  {P : ((Nat → Nat → Int32)) → Prop} {kx31 : (Nat → Nat → Int32) → Int32 → Int32 → Int32 → Prop} (C : CX D cy R_Ne c_Ne_listMains tb_Ne_listMains 6 p s m args c Z) (hret : RetV p l e { frames := 2, cells := 0, slots := 0, locals := 44 } s m args below meth c c_Ne_listMains D Z Q (fun (u : (Nat → Nat → Int32)) => wC cy ad I u T L K F) P 0 0)
    (hx31 : ∀ (A : Nat → Nat → Int32) (x1 : Int32) (x2 : Int32) (x3 : Int32) (ls : Array Slot) (H : Heap) (locs : List Loc), lv_has ls 6 [(0, .ref (ad 1)), (1, .int x1), (2, .int x2), (3, .int x3)] → HXw D Z s.heap H locs (wC cy ad I A T L K F) → kx31 A x1 x2 x3 → W p l e { frames := 2, cells := 0, slots := 0, locals := 44 } s m args below meth c H locs 0 0 Q (F0 m 160 ls [])) :
    ∀ (n : Nat) (A : Nat → Nat → Int32) (x1 : Int32) (x2 : Int32) (x3 : Int32) (x4 : Int32) (ls : Array Slot) (H : Heap) (locs : List Loc), lv_has ls 6 [(0, .ref (ad 1)), (1, .int x1), (2, .int x2), (3, .int x3), (4, .int x4)] → HXw D Z s.heap H locs (wC cy ad I A T L K F) → g_Ne_listMains_31 I P kx31 n A x1 x2 x3 x4 → W p l e { frames := 2, cells := 0, slots := 0, locals := 44 } s m args below meth c H locs 0 0 Q (F0 m 31 ls []) := by
  intro n
  induction n with
  | zero => intro A x1 x2 x3 x4 ls H locs hl h hw; exact hw.elim
  | succ n ih =>
    intro A x1 x2 x3 x4 ls H locs hl h hw
    refine i_iload (n := 33) C 20 rfl rfl hl 4 rfl ?_
    refine i_aload_n (n := 34) C 21 rfl rfl rfl hl 0 rfl ?_
    refine fgC_Ne_12 (n := 37) C 22 rfl rfl h ?_
    refine fgC_Ne_88 (n := 40) C 23 rfl rfl h ?_
    refine i_icmp_ge (tgt := 160) (n := 43) C 24 rfl rfl rfl (fun c3 => ?_) (fun c3 => ?_)
    · replace hw := hw.1 c3
      exact hx31 A x1 x2 x3 ls _ _ (lv_sub hl [0, 1, 2, 3] rfl) h hw
    · replace hw := hw.2 c3
      refine i_aload_n (n := 44) C 25 rfl rfl rfl hl 0 rfl ?_
      refine fgC_Ne_12 (n := 47) C 26 rfl rfl h ?_
      refine fgC_Ne_82 (n := 50) C 27 rfl rfl h ?_
      refine i_iload (n := 52) C 28 rfl rfl hl 4 rfl ?_
      obtain ⟨hb, hw⟩ := hw
      refine i_iald (n := 53) C 29 rfl rfl h (wC_arr 17 (by decide) rfl) hb ?_
      refine i_iload_n (n := 54) C 30 rfl rfl rfl hl 3 rfl ?_
      refine i_icmp_ne (tgt := 61) (n := 57) C 31 rfl rfl rfl (fun c4 => ?_) (fun c4 => ?_)
      · replace hw := hw.1 c4
        refine i_iconst (v := (0 : Int32)) (n := 62) C 34 rfl rfl rfl ?_
        exact e_Ne_listMains_62 C hret ih A x1 x2 x3 x4 (0 : Int32) ls _ _ hl h hw
      · replace hw := hw.2 c4
        refine i_iconst (v := (1 : Int32)) (n := 58) C 32 rfl rfl rfl ?_
        refine i_goto (tgt := 62) C 33 rfl rfl ?_
        exact e_Ne_listMains_62 C hret ih A x1 x2 x3 x4 (1 : Int32) ls _ _ hl h hw
def g_Ne_listMains_13 (I : Nat → Int32) (P : ((Nat → Nat → Int32)) → Prop) (kx13 : (Nat → Nat → Int32) → Int32 → Prop) : Nat → (Nat → Nat → Int32) → Int32 → Int32 → Int32 → Prop
  | 0, _, _, _, _ => False
  | n13 + 1, A, x1, x2, x3 => ((I 4) ≤ x3 → (kx13 A x2)) ∧ (¬ (I 4) ≤ x3 → (vp_in x3 13 ∧ (∃ N : Nat, g_Ne_listMains_31 I P (fun (A_11 : Nat → Nat → Int32) (x1_11 : Int32) (x2_11 : Int32) (x3_11 : Int32) => g_Ne_listMains_13 I P kx13 n13 A_11 x1_11 x2_11 (x3_11 + (1 : Int32))) N (sA A 14 x3 x2) x1 x2 x3 (0 : Int32))))
set_option maxHeartbeats 4000000 in
set_option maxRecDepth 100000 in
theorem e_Ne_listMains_13 {I : Nat → Int32} {T : Nat → Option Nat} {L : List Nat} {K : Nat → Nat} {F : Nat → Nat → Int32}  {P : ((Nat → Nat → Int32)) → Prop} {kx13 : (Nat → Nat → Int32) → Int32 → Prop} (C : CX D cy R_Ne c_Ne_listMains tb_Ne_listMains 6 p s m args c Z) (hret : RetV p l e { frames := 2, cells := 0, slots := 0, locals := 44 } s m args below meth c c_Ne_listMains D Z Q (fun (u : (Nat → Nat → Int32)) => wC cy ad I u T L K F) P 0 0)
    (hx13 : ∀ (A : Nat → Nat → Int32) (x2 : Int32) (ls : Array Slot) (H : Heap) (locs : List Loc), lv_has ls 6 [(0, .ref (ad 1)), (2, .int x2)] → HXw D Z s.heap H locs (wC cy ad I A T L K F) → kx13 A x2 → W p l e { frames := 2, cells := 0, slots := 0, locals := 44 } s m args below meth c H locs 0 0 Q (F0 m 166 ls [])) :
    ∀ (n : Nat) (A : Nat → Nat → Int32) (x1 : Int32) (x2 : Int32) (x3 : Int32) (ls : Array Slot) (H : Heap) (locs : List Loc), lv_has ls 6 [(0, .ref (ad 1)), (1, .int x1), (2, .int x2), (3, .int x3)] → HXw D Z s.heap H locs (wC cy ad I A T L K F) → g_Ne_listMains_13 I P kx13 n A x1 x2 x3 → W p l e { frames := 2, cells := 0, slots := 0, locals := 44 } s m args below meth c H locs 0 0 Q (F0 m 13 ls []) := by
  intro n
  induction n with
  | zero => intro A x1 x2 x3 ls H locs hl h hw; exact hw.elim
  | succ n ih =>
    intro A x1 x2 x3 ls H locs hl h hw
    refine i_iload_n (n := 14) C 9 rfl rfl rfl hl 3 rfl ?_
    refine i_aload_n (n := 15) C 10 rfl rfl rfl hl 0 rfl ?_
    refine fgC_Ne_56 (n := 18) C 11 rfl rfl h ?_
    refine i_icmp_ge (tgt := 166) (n := 21) C 12 rfl rfl rfl (fun c2 => ?_) (fun c2 => ?_)
    · replace hw := hw.1 c2
      exact hx13 A x2 ls _ _ (lv_sub hl [0, 2] rfl) h hw
    · replace hw := hw.2 c2
      refine i_aload_n (n := 22) C 13 rfl rfl rfl hl 0 rfl ?_
      refine fgC_Ne_47 (n := 25) C 14 rfl rfl h ?_
      refine i_iload_n (n := 26) C 15 rfl rfl rfl hl 3 rfl ?_
      refine i_iload_n (n := 27) C 16 rfl rfl rfl hl 2 rfl ?_
      obtain ⟨hb, hw⟩ := hw
      refine i_iast (n := 28) C 17 rfl rfl h (wC_arr 14 (by decide) rfl) hb (wC_sA 14 (by decide) rfl _ _) (fun H locs h => ?_)
      refine i_iconst (v := (0 : Int32)) (n := 29) C 18 rfl rfl rfl ?_
      refine i_istore (lv' := [(4, .int (0 : Int32)), (0, .ref (ad 1)), (1, .int x1), (2, .int x2), (3, .int x3)]) (n := 31) C 19 rfl rfl hl (by decide) rfl (fun ls hl => ?_)
      obtain ⟨n11, hw⟩ := hw
      refine e_Ne_listMains_31 C hret (fun A_11 x1_11 x2_11 x3_11 ls H locs hl h hw => ?_) n11 (sA A 14 x3 x2) x1 x2 x3 (0 : Int32) ls _ _ (lv_sub hl [1, 2, 3, 4, 0] rfl) h hw
      have hl : lv_has ls 6 [(0, .ref (ad 1)), (1, .int x1_11), (2, .int x2_11), (3, .int x3_11)] := hl
      refine i_iinc (v := x3_11 + (1 : Int32)) (lv' := [(3, .int (x3_11 + (1 : Int32))), (0, .ref (ad 1)), (1, .int x1_11), (2, .int x2_11)]) (n := 163) C 83 rfl rfl hl 3 rfl rfl (by decide) rfl (fun ls hl => ?_)
      refine i_goto (tgt := 13) C 84 rfl rfl ?_
      exact ih A_11 x1_11 x2_11 (x3_11 + (1 : Int32)) ls _ _ (lv_sub hl [1, 2, 3, 0] rfl) h hw
def g_Ne_listMains (I : Nat → Int32) (A : Nat → Nat → Int32) (P : ((Nat → Nat → Int32)) → Prop) : Prop := g_Pi_openMains I A (0 : Int32) (fun r1 => (∃ N : Nat, g_Ne_listMains_13 I P (fun (A_12 : Nat → Nat → Int32) (x2_12 : Int32) => vp_in (I 4) 13 ∧ (P (sA A_12 14 (I 4) x2_12))) N A r1 (0 : Int32) (0 : Int32)))
set_option maxHeartbeats 4000000 in
set_option maxRecDepth 100000 in
theorem m_Ne_listMains {l : Launch} {D : va_G} {cy : Nat → ClassId} {ad : Nat → Nat} {I : Nat → Int32} {A : Nat → Nat → Int32} {T : Nat → Option Nat} {L : List Nat} {K : Nat → Nat} {F : Nat → Nat → Int32}  {P : ((Nat → Nat → Int32)) → Prop} (hw : g_Ne_listMains I A P) : ∀ sz, Met l y_Ne_listMains (WL y_Ne_listMains c_Ne_listMains 6 none) { frames := 2, cells := 0, slots := 0, locals := 44 } (va_Pc [.ref (ad 1)] (PreW D cy (wC cy ad I A T L K F) sz)) (va_Qv P (fun u t => PostW D (va_A (wC cy ad I A T L K F) sz) ((fun (u : (Nat → Nat → Int32)) => wC cy ad I u T L K F) u) t) (va_A (wC cy ad I A T L K F) sz)) 0 0 (va_A (wC cy ad I A T L K F) sz) := by
  refine met_v (wf := fun (u : (Nat → Nat → Int32)) => wC cy ad I u T L K F) R_Ne db_Ne_listMains (by decide) rfl (Nat.le_of_ble_eq_true rfl) ?_
  intro p e s m below meth c Z Q ls hin C h hl hret
  have hl : lv_has ls 6 [(0, .ref (ad 1))] := hl
  refine i_aload_n (n := 1) C 0 rfl rfl rfl hl 0 rfl ?_
  refine fgC_Ne_12 (n := 4) C 1 rfl rfl h ?_
  refine i_iconst (v := (0 : Int32)) (n := 5) C 2 rfl rfl rfl ?_
  refine i_callVp (rest := []) (ci := 7) (qc := (R_Pi, T_Pi, 8)) (n := 8) C 3 rfl rfl hl h rfl (wC_get (h := 2) (by decide)) (kV_Ne_122 ⟨by decide, by decide⟩) (m_Pi_openMains hw) rfl rfl (Nat.le_of_ble_eq_true rfl) ⟨by decide, by decide⟩ (fun r1 hw => ?_)
  refine i_istore_n (lv' := [(1, .int r1), (0, .ref (ad 1))]) (n := 9) C 4 rfl rfl rfl hl (by decide) rfl (fun ls hl => ?_)
  refine i_iconst (v := (0 : Int32)) (n := 10) C 5 rfl rfl rfl ?_
  refine i_istore_n (lv' := [(2, .int (0 : Int32)), (1, .int r1), (0, .ref (ad 1))]) (n := 11) C 6 rfl rfl rfl hl (by decide) rfl (fun ls hl => ?_)
  refine i_iconst (v := (0 : Int32)) (n := 12) C 7 rfl rfl rfl ?_
  refine i_istore_n (lv' := [(3, .int (0 : Int32)), (2, .int (0 : Int32)), (1, .int r1), (0, .ref (ad 1))]) (n := 13) C 8 rfl rfl rfl hl (by decide) rfl (fun ls hl => ?_)
  obtain ⟨n12, hw⟩ := hw
  refine e_Ne_listMains_13 C hret (fun A_12 x2_12 ls H locs hl h hw => ?_) n12 A r1 (0 : Int32) (0 : Int32) ls _ _ (lv_sub hl [3, 2, 1, 0] rfl) h hw
  have hl : lv_has ls 6 [(0, .ref (ad 1)), (2, .int x2_12)] := hl
  refine i_aload_n (n := 167) C 85 rfl rfl rfl hl 0 rfl ?_
  refine fgC_Ne_47 (n := 170) C 86 rfl rfl h ?_
  refine i_aload_n (n := 171) C 87 rfl rfl rfl hl 0 rfl ?_
  refine fgC_Ne_56 (n := 174) C 88 rfl rfl h ?_
  refine i_iload_n (n := 175) C 89 rfl rfl rfl hl 1 rfl ?_
  obtain ⟨hb, hw⟩ := hw
  refine i_iast (n := 176) C 90 rfl rfl h (wC_arr 14 (by decide) rfl) hb (wC_sA 14 (by decide) rfl _ _) (fun H locs h => ?_)
  exact hret (sA A_12 14 (I 4) x2_12) _ _ _ _ hw h (C.dg (k := 91) rfl)
end S85
section S86
variable {p : Program} {l : Launch} {e : Env} {R : Room} {s : State} {m : MethodId} {args : Array Value} {below : List Frame} {meth : Method} {c : Code} {H : Heap} {locs : List Loc} {cells slots : Nat} {Q : State → Prop}
variable {cc : ByteArray} {pc n nL : Nat} {ls : Array Slot} {rest : List Value} {D : va_G} {cy : Nat → ClassId} {Z : Nat → Prop} {ad : Nat → Nat} {tb : List (Nat × Instr × Nat)} {lv : List (Nat × Value)}
def g_Ne_markHeads (A : Nat → Nat → Int32) (P : ((Nat → Nat → Int32)) → Prop) : Prop := P (va_up A 12 (va_cpy (A 9) (A 12) (0 : Int32).toNatClampNeg (0 : Int32).toNatClampNeg (12 : Int32).toNatClampNeg))
set_option maxHeartbeats 4000000 in
set_option maxRecDepth 100000 in
theorem m_Ne_markHeads {l : Launch} {D : va_G} {cy : Nat → ClassId} {ad : Nat → Nat} {I : Nat → Int32} {A : Nat → Nat → Int32} {T : Nat → Option Nat} {L : List Nat} {K : Nat → Nat} {F : Nat → Nat → Int32}  {P : ((Nat → Nat → Int32)) → Prop} (hw : g_Ne_markHeads A P) : ∀ sz, Met l y_Ne_markHeads (WL y_Ne_markHeads c_Ne_markHeads 1 none) { frames := 1, cells := 0, slots := 0, locals := 40 } (va_Pc [.ref (ad 1)] (PreW D cy (wC cy ad I A T L K F) sz)) (va_Qv P (fun u t => PostW D (va_A (wC cy ad I A T L K F) sz) ((fun (u : (Nat → Nat → Int32)) => wC cy ad I u T L K F) u) t) (va_A (wC cy ad I A T L K F) sz)) 0 0 (va_A (wC cy ad I A T L K F) sz) := by
  refine met_v (wf := fun (u : (Nat → Nat → Int32)) => wC cy ad I u T L K F) R_Ne db_Ne_markHeads (by decide) rfl (Nat.le_of_ble_eq_true rfl) ?_
  intro p e s m below meth c Z Q ls hin C h hl hret
  have hl : lv_has ls 1 [(0, .ref (ad 1))] := hl
  refine i_aload_n (n := 1) C 0 rfl rfl rfl hl 0 rfl ?_
  refine fgC_Ne_25 (n := 4) C 1 rfl rfl h ?_
  refine i_iconst (v := (0 : Int32)) (n := 5) C 2 rfl rfl rfl ?_
  refine i_aload_n (n := 6) C 3 rfl rfl rfl hl 0 rfl ?_
  refine fgC_Ne_41 (n := 9) C 4 rfl rfl h ?_
  refine i_iconst (v := (0 : Int32)) (n := 10) C 5 rfl rfl rfl ?_
  refine i_bipush (v := (12 : Int32)) (n := 12) C 6 rfl rfl rfl ?_
  refine i_acopy (n := 15) C 7 rfl rfl hl h w_3_198 (wC_arr 9 (by decide) rfl) (wC_arr 12 (by decide) rfl) (by decide) (by decide) (by decide) (by decide) (by decide) (by decide) (Nat.le_of_ble_eq_true rfl) (wC_setA 12 (by decide) rfl _) (fun H locs h => ?_)
  exact hret (va_up A 12 (va_cpy (A 9) (A 12) (0 : Int32).toNatClampNeg (0 : Int32).toNatClampNeg (12 : Int32).toNatClampNeg)) _ _ _ _ hw h (C.dg (k := 8) rfl)
end S86
section S87
variable {p : Program} {l : Launch} {e : Env} {R : Room} {s : State} {m : MethodId} {args : Array Value} {below : List Frame} {meth : Method} {c : Code} {H : Heap} {locs : List Loc} {cells slots : Nat} {Q : State → Prop}
variable {cc : ByteArray} {pc n nL : Nat} {ls : Array Slot} {rest : List Value} {D : va_G} {cy : Nat → ClassId} {Z : Nat → Prop} {ad : Nat → Nat} {tb : List (Nat × Instr × Nat)} {lv : List (Nat × Value)}
def g_Ne_nextHead_13 (A : Nat → Nat → Int32) (a1 : Int32) (a2 : Int32) (P : Int32 → Prop) (kx13 : Int32 → Int32 → Prop) : Nat → Int32 → Int32 → Int32 → Prop
  | 0, _, _, _ => False
  | n13 + 1, x3, x4, x5 => vp_in (a1 + (1 : Int32)) 13 ∧ (((A 14 (a1 + (1 : Int32)).toNatClampNeg) ≤ x5 → (kx13 x3 x4)) ∧ (¬ (A 14 (a1 + (1 : Int32)).toNatClampNeg) ≤ x5 → (vp_in x5 36 ∧ (vp_in x5 36 ∧ (vp_in (A 15 x5.toNatClampNeg) 12 ∧ (∀ y3 : Int32, y3 = (x3 + ((A 16 x5.toNatClampNeg) * (A 9 (A 15 x5.toNatClampNeg).toNatClampNeg))) → (vp_in x5 36 ∧ (∀ y4 : Int32, y4 = (x4 + (A 16 x5.toNatClampNeg)) → (g_Ne_nextHead_13 A a1 a2 P kx13 n13 y3 y4 (x5 + (1 : Int32)))))))))))
set_option maxHeartbeats 4000000 in
set_option maxRecDepth 100000 in
theorem e_Ne_nextHead_13 {I : Nat → Int32} {A : Nat → Nat → Int32} {T : Nat → Option Nat} {L : List Nat} {K : Nat → Nat} {F : Nat → Nat → Int32} {a1 : Int32} {a2 : Int32} {P : Int32 → Prop} {kx13 : Int32 → Int32 → Prop} (C : CX D cy R_Ne c_Ne_nextHead tb_Ne_nextHead 6 p s m args c Z) (h : HXw D Z s.heap H locs (wC cy ad I A T L K F)) (hret : RetP p l e { frames := 1, cells := 0, slots := 0, locals := 21 } s m args below meth c c_Ne_nextHead .int H locs Q P)
    (hx13 : ∀ (x3 : Int32) (x4 : Int32) (ls : Array Slot), lv_has ls 6 [(0, .ref (ad 1)), (1, .int a1), (2, .int a2), (3, .int x3), (4, .int x4)] → kx13 x3 x4 → W p l e { frames := 1, cells := 0, slots := 0, locals := 21 } s m args below meth c H locs 0 0 Q (F0 m 67 ls [])) :
    ∀ (n : Nat) (x3 : Int32) (x4 : Int32) (x5 : Int32) (ls : Array Slot), lv_has ls 6 [(0, .ref (ad 1)), (1, .int a1), (2, .int a2), (3, .int x3), (4, .int x4), (5, .int x5)] → g_Ne_nextHead_13 A a1 a2 P kx13 n x3 x4 x5 → W p l e { frames := 1, cells := 0, slots := 0, locals := 21 } s m args below meth c H locs 0 0 Q (F0 m 13 ls []) := by
  intro n
  induction n with
  | zero => intro x3 x4 x5 ls hl hw; exact hw.elim
  | succ n ih =>
    intro x3 x4 x5 ls hl hw
    refine i_iload (n := 15) C 9 rfl rfl hl 5 rfl ?_
    refine i_aload_n (n := 16) C 10 rfl rfl rfl hl 0 rfl ?_
    refine fgC_Ne_47 (n := 19) C 11 rfl rfl h ?_
    refine i_iload_n (n := 20) C 12 rfl rfl rfl hl 1 rfl ?_
    refine i_iconst (v := (1 : Int32)) (n := 21) C 13 rfl rfl rfl ?_
    refine i_iadd (n := 22) C 14 rfl rfl ?_
    obtain ⟨hb, hw⟩ := hw
    refine i_iald (n := 23) C 15 rfl rfl h (wC_arr 14 (by decide) rfl) hb ?_
    refine i_icmp_ge (tgt := 67) (n := 26) C 16 rfl rfl rfl (fun c2 => ?_) (fun c2 => ?_)
    · replace hw := hw.1 c2
      exact hx13 x3 x4 ls (lv_sub hl [0, 1, 2, 3, 4] rfl) hw
    · replace hw := hw.2 c2
      refine i_iload_n (n := 27) C 17 rfl rfl rfl hl 3 rfl ?_
      refine i_aload_n (n := 28) C 18 rfl rfl rfl hl 0 rfl ?_
      refine fgC_Ne_53 (n := 31) C 19 rfl rfl h ?_
      refine i_iload (n := 33) C 20 rfl rfl hl 5 rfl ?_
      obtain ⟨hb, hw⟩ := hw
      refine i_iald (n := 34) C 21 rfl rfl h (wC_arr 16 (by decide) rfl) hb ?_
      refine i_aload_n (n := 35) C 22 rfl rfl rfl hl 0 rfl ?_
      refine fgC_Ne_25 (n := 38) C 23 rfl rfl h ?_
      refine i_aload_n (n := 39) C 24 rfl rfl rfl hl 0 rfl ?_
      refine fgC_Ne_50 (n := 42) C 25 rfl rfl h ?_
      refine i_iload (n := 44) C 26 rfl rfl hl 5 rfl ?_
      obtain ⟨hb, hw⟩ := hw
      refine i_iald (n := 45) C 27 rfl rfl h (wC_arr 15 (by decide) rfl) hb ?_
      obtain ⟨hb, hw⟩ := hw
      refine i_iald (n := 46) C 28 rfl rfl h (wC_arr 9 (by decide) rfl) hb ?_
      refine i_imul (n := 47) C 29 rfl rfl ?_
      refine i_iadd (n := 48) C 30 rfl rfl ?_
      refine lv_topi (fun y3 ey3 => ?_)
      replace hw := hw y3 ey3
      refine i_istore_n (lv' := [(3, .int y3), (0, .ref (ad 1)), (1, .int a1), (2, .int a2), (4, .int x4), (5, .int x5)]) (n := 49) C 31 rfl rfl rfl hl (by decide) rfl (fun ls hl => ?_)
      refine i_iload (n := 51) C 32 rfl rfl hl 4 rfl ?_
      refine i_aload_n (n := 52) C 33 rfl rfl rfl hl 1 rfl ?_
      refine fgC_Ne_53 (n := 55) C 34 rfl rfl h ?_
      refine i_iload (n := 57) C 35 rfl rfl hl 5 rfl ?_
      obtain ⟨hb, hw⟩ := hw
      refine i_iald (n := 58) C 36 rfl rfl h (wC_arr 16 (by decide) rfl) hb ?_
      refine i_iadd (n := 59) C 37 rfl rfl ?_
      refine lv_topi (fun y4 ey4 => ?_)
      replace hw := hw y4 ey4
      refine i_istore (lv' := [(4, .int y4), (3, .int y3), (0, .ref (ad 1)), (1, .int a1), (2, .int a2), (5, .int x5)]) (n := 61) C 38 rfl rfl hl (by decide) rfl (fun ls hl => ?_)
      refine i_iinc (v := x5 + (1 : Int32)) (lv' := [(5, .int (x5 + (1 : Int32))), (4, .int y4), (3, .int y3), (0, .ref (ad 1)), (1, .int a1), (2, .int a2)]) (n := 64) C 39 rfl rfl hl 5 rfl rfl (by decide) rfl (fun ls hl => ?_)
      refine i_goto (tgt := 13) C 40 rfl rfl ?_
      exact ih y3 y4 (x5 + (1 : Int32)) ls (lv_sub hl [3, 4, 5, 2, 1, 0] rfl) hw
def g_Ne_nextHead (A : Nat → Nat → Int32) (a1 : Int32) (a2 : Int32) (P : Int32 → Prop) : Prop := vp_in a1 13 ∧ (∀ y1 : Int32, y1 = (A 14 a1.toNatClampNeg) → (∃ N : Nat, g_Ne_nextHead_13 A a1 a2 P (fun (x3_5 : Int32) (x4_5 : Int32) => vp_in a1 12 ∧ (∀ y6 : Int32, y6 = ((10 : Int32) * (A 7 a1.toNatClampNeg)) → ((0 < x4_5 → (¬ x4_5 = 0 ∧ (P (if y6 < ((x3_5 - ((1000 : Int32) * a2)) / x4_5) then ((x3_5 - ((1000 : Int32) * a2)) / x4_5) else y6)))) ∧ (¬ 0 < x4_5 → (P y6))))) N (0 : Int32) (0 : Int32) y1))
set_option maxHeartbeats 4000000 in
set_option maxRecDepth 100000 in
theorem m_Ne_nextHead {l : Launch} {D : va_G} {cy : Nat → ClassId} {ad : Nat → Nat} {I : Nat → Int32} {A : Nat → Nat → Int32} {T : Nat → Option Nat} {L : List Nat} {K : Nat → Nat} {F : Nat → Nat → Int32} {a1 : Int32} {a2 : Int32} {P : Int32 → Prop} (hw : g_Ne_nextHead A a1 a2 P) : ∀ sz, Met l y_Ne_nextHead (WL y_Ne_nextHead c_Ne_nextHead 6 (some .int)) { frames := 1, cells := 0, slots := 0, locals := 21 } (va_Pc [.ref (ad 1), .int a1, .int a2] (PreW D cy (wC cy ad I A T L K F) sz)) (vp_Si P) 0 0 (fun _ => False) := by
  refine met_p R_Ne .int db_Ne_nextHead (by decide) rfl rfl (Nat.le_of_ble_eq_true rfl) ?_
  intro p e s m below meth c Z Q ls C h hl hret
  have hl : lv_has ls 6 [(0, .ref (ad 1)), (1, .int a1), (2, .int a2)] := hl
  refine i_iconst (v := (0 : Int32)) (n := 1) C 0 rfl rfl rfl ?_
  refine i_istore_n (lv' := [(3, .int (0 : Int32)), (0, .ref (ad 1)), (1, .int a1), (2, .int a2)]) (n := 2) C 1 rfl rfl rfl hl (by decide) rfl (fun ls hl => ?_)
  refine i_iconst (v := (0 : Int32)) (n := 3) C 2 rfl rfl rfl ?_
  refine i_istore (lv' := [(4, .int (0 : Int32)), (3, .int (0 : Int32)), (0, .ref (ad 1)), (1, .int a1), (2, .int a2)]) (n := 5) C 3 rfl rfl hl (by decide) rfl (fun ls hl => ?_)
  refine i_aload_n (n := 6) C 4 rfl rfl rfl hl 2 rfl ?_
  refine fgC_Ne_47 (n := 9) C 5 rfl rfl h ?_
  refine i_iload_n (n := 10) C 6 rfl rfl rfl hl 3 rfl ?_
  obtain ⟨hb, hw⟩ := hw
  refine i_iald (n := 11) C 7 rfl rfl h (wC_arr 14 (by decide) rfl) hb ?_
  refine lv_topi (fun y1 ey1 => ?_)
  replace hw := hw y1 ey1
  refine i_istore (lv' := [(5, .int y1), (4, .int (0 : Int32)), (3, .int (0 : Int32)), (0, .ref (ad 1)), (1, .int a1), (2, .int a2)]) (n := 13) C 8 rfl rfl hl (by decide) rfl (fun ls hl => ?_)
  obtain ⟨n5, hw⟩ := hw
  refine e_Ne_nextHead_13 C h hret (fun x3_5 x4_5 ls hl hw => ?_) n5 (0 : Int32) (0 : Int32) y1 ls (lv_sub hl [3, 4, 5, 2, 1, 0] rfl) hw
  have hl : lv_has ls 6 [(0, .ref (ad 1)), (1, .int a1), (2, .int a2), (3, .int x3_5), (4, .int x4_5)] := hl
  refine i_bipush (v := (10 : Int32)) (n := 69) C 41 rfl rfl rfl ?_
  refine i_aload_n (n := 70) C 42 rfl rfl rfl hl 0 rfl ?_
  refine fgC_Ne_18 (n := 73) C 43 rfl rfl h ?_
  refine i_iload_n (n := 74) C 44 rfl rfl rfl hl 1 rfl ?_
  obtain ⟨hb, hw⟩ := hw
  refine i_iald (n := 75) C 45 rfl rfl h (wC_arr 7 (by decide) rfl) hb ?_
  refine i_imul (n := 76) C 46 rfl rfl ?_
  refine lv_topi (fun y6 ey6 => ?_)
  replace hw := hw y6 ey6
  refine i_istore (lv' := [(5, .int y6), (0, .ref (ad 1)), (1, .int a1), (2, .int a2), (3, .int x3_5), (4, .int x4_5)]) (n := 78) C 47 rfl rfl hl (by decide) rfl (fun ls hl => ?_)
  refine i_iload (n := 80) C 48 rfl rfl hl 5 rfl ?_
  refine i_if_gt (tgt := 86) (n := 83) C 49 rfl rfl rfl (fun c7 => ?_) (fun c7 => ?_)
  · replace hw := hw.1 c7
    refine i_iload (n := 88) C 52 rfl rfl hl 0 rfl ?_
    refine i_iload_n (n := 89) C 53 rfl rfl rfl hl 4 rfl ?_
    refine i_sipush (v := (1000 : Int32)) (n := 92) C 54 rfl rfl rfl ?_
    refine i_iload_n (n := 93) C 55 rfl rfl rfl hl 3 rfl ?_
    refine i_imul (n := 94) C 56 rfl rfl ?_
    refine i_isub (n := 95) C 57 rfl rfl ?_
    refine i_iload (n := 97) C 58 rfl rfl hl 5 rfl ?_
    obtain ⟨hd, hw⟩ := hw
    refine i_idiv (n := 98) C 59 rfl rfl hd ?_
    refine i_mmax (n := 101) C 60 rfl rfl hl w_3_210 (by decide) (Nat.le_of_ble_eq_true rfl) (Nat.le_of_ble_eq_true rfl) (Nat.le_of_ble_eq_true rfl) ?_
    exact hret _ _ _ rfl hw (C.dg (k := 61) rfl)
  · replace hw := hw.2 c7
    refine i_iload (n := 85) C 50 rfl rfl hl 0 rfl ?_
    exact hret _ _ _ rfl hw (C.dg (k := 51) rfl)
end S87
theorem kV_Ne_151 {R : Room} {s : State} {args : Array Value} (hR : 2 + 1 ≤ R.frames ∧ 8 + (4 + 11) + 45 ≤ R.locals) (ht : ∀ w ∈ GW, w.before args s = true) : CallW R s args R_Ne R_Ne 151 y_Ne_taken c_Ne_taken 4 (some .int) (WL y_Ne_taken c_Ne_taken 4 (some .int)) { frames := 2, cells := 0, slots := 0, locals := 45 } 0 0 2 := cwV 2 ht (GW_v w_3_205 w_3_52 w_3_53 w_1_2 (GW_wl w_3_54)) rfl rfl rfl (by decide +kernel) hR
theorem kV_Ne_154 {R : Room} {s : State} {args : Array Value} (hR : 1 + 1 ≤ R.frames ∧ 8 + (6 + 11) + 21 ≤ R.locals) (ht : ∀ w ∈ GW, w.before args s = true) : CallW R s args R_Ne R_Ne 154 y_Ne_nextHead c_Ne_nextHead 6 (some .int) (WL y_Ne_nextHead c_Ne_nextHead 6 (some .int)) { frames := 1, cells := 0, slots := 0, locals := 21 } 0 0 2 := cwV 2 ht (GW_v w_3_206 w_3_208 w_0_9 w_1_2 (GW_wl w_3_209)) rfl rfl rfl (by decide +kernel) hR
section S88
variable {p : Program} {l : Launch} {e : Env} {R : Room} {s : State} {m : MethodId} {args : Array Value} {below : List Frame} {meth : Method} {c : Code} {H : Heap} {locs : List Loc} {cells slots : Nat} {Q : State → Prop}
variable {cc : ByteArray} {pc n nL : Nat} {ls : Array Slot} {rest : List Value} {D : va_G} {cy : Nat → ClassId} {Z : Nat → Prop} {ad : Nat → Nat} {tb : List (Nat × Instr × Nat)} {lv : List (Nat × Value)}
def g_Ne_sweep_59 (I : Nat → Int32) (T : Nat → Option Nat) (L : List Nat) (K : Nat → Nat) (F : Nat → Nat → Int32) (a1 : Int32) (P : Int32 → ((Nat → Nat → Int32)) → Prop) (kb4 : (Nat → Nat → Int32) → Int32 → Int32 → Prop) (A : Nat → Nat → Int32) (x2 : Int32) (x3 : Int32) : Prop := kb4 A x2 (x3 + (1 : Int32))
set_option maxHeartbeats 4000000 in
set_option maxRecDepth 100000 in
theorem e_Ne_sweep_59 {I : Nat → Int32} {T : Nat → Option Nat} {L : List Nat} {K : Nat → Nat} {F : Nat → Nat → Int32} {a1 : Int32} {P : Int32 → ((Nat → Nat → Int32)) → Prop} {kb4 : (Nat → Nat → Int32) → Int32 → Int32 → Prop} (C : CX D cy R_Ne c_Ne_sweep tb_Ne_sweep 5 p s m args c Z) (hret : RetI p l e { frames := 3, cells := 0, slots := 0, locals := 68 } s m args below meth c c_Ne_sweep .int D Z Q (fun (u : (Nat → Nat → Int32)) => wC cy ad I u T L K F) P 0 0)
    (hb4 : ∀ (A : Nat → Nat → Int32) (x2 : Int32) (x3 : Int32) (ls : Array Slot) (H : Heap) (locs : List Loc), lv_has ls 5 [(0, .ref (ad 1)), (1, .int a1), (2, .int x2), (3, .int x3)] → HXw D Z s.heap H locs (wC cy ad I A T L K F) → kb4 A x2 x3 → W p l e { frames := 3, cells := 0, slots := 0, locals := 68 } s m args below meth c H locs 0 0 Q (F0 m 4 ls [])) :
    ∀ (A : Nat → Nat → Int32) (x2 : Int32) (x3 : Int32) (ls : Array Slot) (H : Heap) (locs : List Loc), lv_has ls 5 [(0, .ref (ad 1)), (1, .int a1), (2, .int x2), (3, .int x3)] → HXw D Z s.heap H locs (wC cy ad I A T L K F) → g_Ne_sweep_59 I T L K F a1 P kb4 A x2 x3 → W p l e { frames := 3, cells := 0, slots := 0, locals := 68 } s m args below meth c H locs 0 0 Q (F0 m 59 ls []) := by
  intro A x2 x3 ls H locs hl h hw
  refine i_iinc (v := x3 + (1 : Int32)) (lv' := [(3, .int (x3 + (1 : Int32))), (0, .ref (ad 1)), (1, .int a1), (2, .int x2)]) (n := 62) C 36 rfl rfl hl 3 rfl rfl (by decide) rfl (fun ls hl => ?_)
  refine i_goto (tgt := 4) C 37 rfl rfl ?_
  exact hb4 A x2 (x3 + (1 : Int32)) ls _ _ (lv_sub hl [1, 2, 3, 0] rfl) h hw
def g_Ne_sweep_4 (I : Nat → Int32) (T : Nat → Option Nat) (L : List Nat) (K : Nat → Nat) (F : Nat → Nat → Int32) (a1 : Int32) (P : Int32 → ((Nat → Nat → Int32)) → Prop) (kx4 : (Nat → Nat → Int32) → Int32 → Prop) : Nat → (Nat → Nat → Int32) → Int32 → Int32 → Prop
  | 0, _, _, _ => False
  | n4 + 1, A, x2, x3 => ((I 4) ≤ x3 → (kx4 A x2)) ∧ (¬ (I 4) ≤ x3 → (vp_in x3 12 ∧ ((¬ (A 10 x3.toNatClampNeg) = 0 → (g_Ne_sweep_59 I T L K F a1 P (g_Ne_sweep_4 I T L K F a1 P kx4 n4) A x2 x3)) ∧ ((A 10 x3.toNatClampNeg) = 0 → (g_Ne_taken A T L K F x3 a1 (fun r3 => (g_Ne_nextHead A x3 r3 (fun r4 => (vp_in x3 12 ∧ (∀ y5 : Int32, y5 = (if x2 < (if 0 ≤ (r4 - (A 9 x3.toNatClampNeg)) then (r4 - (A 9 x3.toNatClampNeg)) else 0 - (r4 - (A 9 x3.toNatClampNeg))) then (if 0 ≤ (r4 - (A 9 x3.toNatClampNeg)) then (r4 - (A 9 x3.toNatClampNeg)) else 0 - (r4 - (A 9 x3.toNatClampNeg))) else x2) → (vp_in x3 12 ∧ (g_Ne_sweep_59 I T L K F a1 P (g_Ne_sweep_4 I T L K F a1 P kx4 n4) (sA A 9 x3 r4) y5 x3))))))))))))
set_option maxHeartbeats 4000000 in
set_option maxRecDepth 100000 in
theorem e_Ne_sweep_4 {I : Nat → Int32} {T : Nat → Option Nat} {L : List Nat} {K : Nat → Nat} {F : Nat → Nat → Int32} {a1 : Int32} {P : Int32 → ((Nat → Nat → Int32)) → Prop} {kx4 : (Nat → Nat → Int32) → Int32 → Prop} (C : CX D cy R_Ne c_Ne_sweep tb_Ne_sweep 5 p s m args c Z) (hret : RetI p l e { frames := 3, cells := 0, slots := 0, locals := 68 } s m args below meth c c_Ne_sweep .int D Z Q (fun (u : (Nat → Nat → Int32)) => wC cy ad I u T L K F) P 0 0)
    (hx4 : ∀ (A : Nat → Nat → Int32) (x2 : Int32) (ls : Array Slot) (H : Heap) (locs : List Loc), lv_has ls 5 [(2, .int x2)] → HXw D Z s.heap H locs (wC cy ad I A T L K F) → kx4 A x2 → W p l e { frames := 3, cells := 0, slots := 0, locals := 68 } s m args below meth c H locs 0 0 Q (F0 m 65 ls [])) :
    ∀ (n : Nat) (A : Nat → Nat → Int32) (x2 : Int32) (x3 : Int32) (ls : Array Slot) (H : Heap) (locs : List Loc), lv_has ls 5 [(0, .ref (ad 1)), (1, .int a1), (2, .int x2), (3, .int x3)] → HXw D Z s.heap H locs (wC cy ad I A T L K F) → g_Ne_sweep_4 I T L K F a1 P kx4 n A x2 x3 → W p l e { frames := 3, cells := 0, slots := 0, locals := 68 } s m args below meth c H locs 0 0 Q (F0 m 4 ls []) := by
  intro n
  induction n with
  | zero => intro A x2 x3 ls H locs hl h hw; exact hw.elim
  | succ n ih =>
    intro A x2 x3 ls H locs hl h hw
    refine i_iload_n (n := 5) C 4 rfl rfl rfl hl 3 rfl ?_
    refine i_aload_n (n := 6) C 5 rfl rfl rfl hl 0 rfl ?_
    refine fgC_Ne_56 (n := 9) C 6 rfl rfl h ?_
    refine i_icmp_ge (tgt := 65) (n := 12) C 7 rfl rfl rfl (fun c1 => ?_) (fun c1 => ?_)
    · replace hw := hw.1 c1
      exact hx4 A x2 ls _ _ (lv_sub hl [2] rfl) h hw
    · replace hw := hw.2 c1
      refine i_aload_n (n := 13) C 8 rfl rfl rfl hl 0 rfl ?_
      refine fgC_Ne_34 (n := 16) C 9 rfl rfl h ?_
      refine i_iload_n (n := 17) C 10 rfl rfl rfl hl 3 rfl ?_
      obtain ⟨hb, hw⟩ := hw
      refine i_zald (n := 18) C 11 rfl rfl h (wC_arr 10 (by decide) rfl) hb ?_
      refine i_if_ne (tgt := 59) (n := 21) C 12 rfl rfl rfl (fun c2 => ?_) (fun c2 => ?_)
      · replace hw := hw.1 c2
        exact e_Ne_sweep_59 C hret ih A x2 x3 ls _ _ hl h hw
      · replace hw := hw.2 c2
        refine i_aload_n (n := 22) C 13 rfl rfl rfl hl 0 rfl ?_
        refine i_iload_n (n := 23) C 14 rfl rfl rfl hl 3 rfl ?_
        refine i_aload_n (n := 24) C 15 rfl rfl rfl hl 0 rfl ?_
        refine i_iload_n (n := 25) C 16 rfl rfl rfl hl 3 rfl ?_
        refine i_iload_n (n := 26) C 17 rfl rfl rfl hl 1 rfl ?_
        refine i_callVp (rest := [.int x3, .ref (ad 1)]) (ci := 5) (qc := (R_Ne, T_Ne, 17)) (n := 29) C 18 rfl rfl hl h rfl (wC_get (h := 1) (by decide)) (kV_Ne_151 ⟨by decide, by decide⟩) (m_Ne_taken hw) rfl rfl (Nat.le_of_ble_eq_true rfl) ⟨by decide, by decide⟩ (fun r3 hw => ?_)
        refine i_callVp (rest := []) (ci := 5) (qc := (R_Ne, T_Ne, 17)) (n := 32) C 19 rfl rfl hl h rfl (wC_get (h := 1) (by decide)) (kV_Ne_154 ⟨by decide, by decide⟩) (m_Ne_nextHead hw) rfl rfl (Nat.le_of_ble_eq_true rfl) ⟨by decide, by decide⟩ (fun r4 hw => ?_)
        refine i_istore (lv' := [(4, .int r4), (0, .ref (ad 1)), (1, .int a1), (2, .int x2), (3, .int x3)]) (n := 34) C 20 rfl rfl hl (by decide) rfl (fun ls hl => ?_)
        refine i_iload_n (n := 35) C 21 rfl rfl rfl hl 3 rfl ?_
        refine i_iload (n := 37) C 22 rfl rfl hl 0 rfl ?_
        refine i_aload_n (n := 38) C 23 rfl rfl rfl hl 1 rfl ?_
        refine fgC_Ne_25 (n := 41) C 24 rfl rfl h ?_
        refine i_iload_n (n := 42) C 25 rfl rfl rfl hl 4 rfl ?_
        obtain ⟨hb, hw⟩ := hw
        refine i_iald (n := 43) C 26 rfl rfl h (wC_arr 9 (by decide) rfl) hb ?_
        refine i_isub (n := 44) C 27 rfl rfl ?_
        refine i_mabs (n := 47) C 28 rfl rfl hl w_3_213 (by decide) (Nat.le_of_ble_eq_true rfl) (Nat.le_of_ble_eq_true rfl) (Nat.le_of_ble_eq_true rfl) ?_
        refine i_mmax (n := 50) C 29 rfl rfl hl w_3_210 (by decide) (Nat.le_of_ble_eq_true rfl) (Nat.le_of_ble_eq_true rfl) (Nat.le_of_ble_eq_true rfl) ?_
        refine lv_topi (fun y5 ey5 => ?_)
        replace hw := hw y5 ey5
        refine i_istore_n (lv' := [(2, .int y5), (4, .int r4), (0, .ref (ad 1)), (1, .int a1), (3, .int x3)]) (n := 51) C 30 rfl rfl rfl hl (by decide) rfl (fun ls hl => ?_)
        refine i_aload_n (n := 52) C 31 rfl rfl rfl hl 2 rfl ?_
        refine fgC_Ne_25 (n := 55) C 32 rfl rfl h ?_
        refine i_iload_n (n := 56) C 33 rfl rfl rfl hl 4 rfl ?_
        refine i_iload (n := 58) C 34 rfl rfl hl 1 rfl ?_
        obtain ⟨hb, hw⟩ := hw
        refine i_iast (n := 59) C 35 rfl rfl h (wC_arr 9 (by decide) rfl) hb (wC_sA 9 (by decide) rfl _ _) (fun H locs h => ?_)
        exact e_Ne_sweep_59 C hret ih (sA A 9 x3 r4) y5 x3 ls _ _ (lv_sub hl [2, 3, 0, 4] rfl) h hw
def g_Ne_sweep (I : Nat → Int32) (A : Nat → Nat → Int32) (T : Nat → Option Nat) (L : List Nat) (K : Nat → Nat) (F : Nat → Nat → Int32) (a1 : Int32) (P : Int32 → ((Nat → Nat → Int32)) → Prop) : Prop := ∃ N : Nat, g_Ne_sweep_4 I T L K F a1 P (fun (A_6 : Nat → Nat → Int32) (x2_6 : Int32) => P x2_6 A_6) N A (0 : Int32) (0 : Int32)
set_option maxHeartbeats 4000000 in
set_option maxRecDepth 100000 in
theorem m_Ne_sweep {l : Launch} {D : va_G} {cy : Nat → ClassId} {ad : Nat → Nat} {I : Nat → Int32} {A : Nat → Nat → Int32} {T : Nat → Option Nat} {L : List Nat} {K : Nat → Nat} {F : Nat → Nat → Int32} {a1 : Int32} {P : Int32 → ((Nat → Nat → Int32)) → Prop} (hw : g_Ne_sweep I A T L K F a1 P) : ∀ sz, Met l y_Ne_sweep (WL y_Ne_sweep c_Ne_sweep 5 (some .int)) { frames := 3, cells := 0, slots := 0, locals := 68 } (va_Pc [.ref (ad 1), .int a1] (PreW D cy (wC cy ad I A T L K F) sz)) (va_Qi P (fun u t => PostW D (va_A (wC cy ad I A T L K F) sz) ((fun (u : (Nat → Nat → Int32)) => wC cy ad I u T L K F) u) t) (va_A (wC cy ad I A T L K F) sz)) 0 0 (va_A (wC cy ad I A T L K F) sz) := by
  refine met_i (wf := fun (u : (Nat → Nat → Int32)) => wC cy ad I u T L K F) R_Ne .int db_Ne_sweep (by decide) rfl rfl (Nat.le_of_ble_eq_true rfl) ?_
  intro p e s m below meth c Z Q ls C h hl hret
  have hl : lv_has ls 5 [(0, .ref (ad 1)), (1, .int a1)] := hl
  refine i_iconst (v := (0 : Int32)) (n := 1) C 0 rfl rfl rfl ?_
  refine i_istore_n (lv' := [(2, .int (0 : Int32)), (0, .ref (ad 1)), (1, .int a1)]) (n := 2) C 1 rfl rfl rfl hl (by decide) rfl (fun ls hl => ?_)
  refine i_iconst (v := (0 : Int32)) (n := 3) C 2 rfl rfl rfl ?_
  refine i_istore_n (lv' := [(3, .int (0 : Int32)), (2, .int (0 : Int32)), (0, .ref (ad 1)), (1, .int a1)]) (n := 4) C 3 rfl rfl rfl hl (by decide) rfl (fun ls hl => ?_)
  obtain ⟨n6, hw⟩ := hw
  refine e_Ne_sweep_4 C hret (fun A_6 x2_6 ls H locs hl h hw => ?_) n6 A (0 : Int32) (0 : Int32) ls _ _ (lv_sub hl [2, 3, 1, 0] rfl) h hw
  have hl : lv_has ls 5 [(2, .int x2_6)] := hl
  refine i_iload_n (n := 66) C 38 rfl rfl rfl hl 0 rfl ?_
  exact hret _ A_6 _ _ _ _ rfl hw h (C.dg (k := 39) rfl)
end S88
section S89
variable {p : Program} {l : Launch} {e : Env} {R : Room} {s : State} {m : MethodId} {args : Array Value} {below : List Frame} {meth : Method} {c : Code} {H : Heap} {locs : List Loc} {cells slots : Nat} {Q : State → Prop}
variable {cc : ByteArray} {pc n nL : Nat} {ls : Array Slot} {rest : List Value} {D : va_G} {cy : Nat → ClassId} {Z : Nat → Prop} {ad : Nat → Nat} {tb : List (Nat × Instr × Nat)} {lv : List (Nat × Value)}
def g_Ne_isAsMarked_2 (I : Nat → Int32) (A : Nat → Nat → Int32) (P : Int32 → Prop) (kx2 : Prop) : Nat → Int32 → Prop
  | 0, _ => False
  | n2 + 1, x1 => ((I 4) ≤ x1 → (kx2 )) ∧ (¬ (I 4) ≤ x1 → (vp_in x1 12 ∧ (vp_in x1 12 ∧ (((A 9 x1.toNatClampNeg) = (A 12 x1.toNatClampNeg) → (g_Ne_isAsMarked_2 I A P kx2 n2 (x1 + (1 : Int32)))) ∧ (¬ (A 9 x1.toNatClampNeg) = (A 12 x1.toNatClampNeg) → (P (0 : Int32)))))))
set_option maxHeartbeats 4000000 in
set_option maxRecDepth 100000 in
theorem e_Ne_isAsMarked_2 {I : Nat → Int32} {A : Nat → Nat → Int32} {T : Nat → Option Nat} {L : List Nat} {K : Nat → Nat} {F : Nat → Nat → Int32}  {P : Int32 → Prop} {kx2 : Prop} (C : CX D cy R_Ne c_Ne_isAsMarked tb_Ne_isAsMarked 2 p s m args c Z) (h : HXw D Z s.heap H locs (wC cy ad I A T L K F)) (hret : RetP p l e { frames := 0, cells := 0, slots := 0, locals := 0 } s m args below meth c c_Ne_isAsMarked .boolean H locs Q P)
    (hx2 : ∀ (ls : Array Slot), lv_has ls 2 [] → kx2  → W p l e { frames := 0, cells := 0, slots := 0, locals := 0 } s m args below meth c H locs 0 0 Q (F0 m 33 ls [])) :
    ∀ (n : Nat) (x1 : Int32) (ls : Array Slot), lv_has ls 2 [(0, .ref (ad 1)), (1, .int x1)] → g_Ne_isAsMarked_2 I A P kx2 n x1 → W p l e { frames := 0, cells := 0, slots := 0, locals := 0 } s m args below meth c H locs 0 0 Q (F0 m 2 ls []) := by
  intro n
  induction n with
  | zero => intro x1 ls hl hw; exact hw.elim
  | succ n ih =>
    intro x1 ls hl hw
    refine i_iload_n (n := 3) C 2 rfl rfl rfl hl 1 rfl ?_
    refine i_aload_n (n := 4) C 3 rfl rfl rfl hl 0 rfl ?_
    refine fgC_Ne_56 (n := 7) C 4 rfl rfl h ?_
    refine i_icmp_ge (tgt := 33) (n := 10) C 5 rfl rfl rfl (fun c1 => ?_) (fun c1 => ?_)
    · replace hw := hw.1 c1
      exact hx2  ls (lv_sub hl [] rfl) hw
    · replace hw := hw.2 c1
      refine i_aload_n (n := 11) C 6 rfl rfl rfl hl 0 rfl ?_
      refine fgC_Ne_25 (n := 14) C 7 rfl rfl h ?_
      refine i_iload_n (n := 15) C 8 rfl rfl rfl hl 1 rfl ?_
      obtain ⟨hb, hw⟩ := hw
      refine i_iald (n := 16) C 9 rfl rfl h (wC_arr 9 (by decide) rfl) hb ?_
      refine i_aload_n (n := 17) C 10 rfl rfl rfl hl 0 rfl ?_
      refine fgC_Ne_41 (n := 20) C 11 rfl rfl h ?_
      refine i_iload_n (n := 21) C 12 rfl rfl rfl hl 1 rfl ?_
      obtain ⟨hb, hw⟩ := hw
      refine i_iald (n := 22) C 13 rfl rfl h (wC_arr 12 (by decide) rfl) hb ?_
      refine i_icmp_eq (tgt := 27) (n := 25) C 14 rfl rfl rfl (fun c2 => ?_) (fun c2 => ?_)
      · replace hw := hw.1 c2
        refine i_iinc (v := x1 + (1 : Int32)) (lv' := [(1, .int (x1 + (1 : Int32))), (0, .ref (ad 1))]) (n := 30) C 17 rfl rfl hl 1 rfl rfl (by decide) rfl (fun ls hl => ?_)
        refine i_goto (tgt := 2) C 18 rfl rfl ?_
        exact ih (x1 + (1 : Int32)) ls (lv_sub hl [1, 0] rfl) hw
      · replace hw := hw.2 c2
        refine i_iconst (v := (0 : Int32)) (n := 26) C 15 rfl rfl rfl ?_
        exact hret _ _ _ rfl hw (C.dg (k := 16) rfl)
def g_Ne_isAsMarked (I : Nat → Int32) (A : Nat → Nat → Int32) (P : Int32 → Prop) : Prop := ∃ N : Nat, g_Ne_isAsMarked_2 I A P (P (1 : Int32)) N (0 : Int32)
set_option maxHeartbeats 4000000 in
set_option maxRecDepth 100000 in
theorem m_Ne_isAsMarked {l : Launch} {D : va_G} {cy : Nat → ClassId} {ad : Nat → Nat} {I : Nat → Int32} {A : Nat → Nat → Int32} {T : Nat → Option Nat} {L : List Nat} {K : Nat → Nat} {F : Nat → Nat → Int32}  {P : Int32 → Prop} (hw : g_Ne_isAsMarked I A P) : ∀ sz, Met l y_Ne_isAsMarked (WL y_Ne_isAsMarked c_Ne_isAsMarked 2 (some .boolean)) { frames := 0, cells := 0, slots := 0, locals := 0 } (va_Pc [.ref (ad 1)] (PreW D cy (wC cy ad I A T L K F) sz)) (vp_Si P) 0 0 (fun _ => False) := by
  refine met_p R_Ne .boolean db_Ne_isAsMarked (by decide) rfl rfl (Nat.le_of_ble_eq_true rfl) ?_
  intro p e s m below meth c Z Q ls C h hl hret
  have hl : lv_has ls 2 [(0, .ref (ad 1))] := hl
  refine i_iconst (v := (0 : Int32)) (n := 1) C 0 rfl rfl rfl ?_
  refine i_istore_n (lv' := [(1, .int (0 : Int32)), (0, .ref (ad 1))]) (n := 2) C 1 rfl rfl rfl hl (by decide) rfl (fun ls hl => ?_)
  obtain ⟨n3, hw⟩ := hw
  refine e_Ne_isAsMarked_2 C h hret (fun  ls hl hw => ?_) n3 (0 : Int32) ls (lv_sub hl [1, 0] rfl) hw
  have hl : lv_has ls 2 [] := hl
  refine i_iconst (v := (1 : Int32)) (n := 34) C 19 rfl rfl rfl ?_
  exact hret _ _ _ rfl hw (C.dg (k := 20) rfl)
end S89
theorem kV_Ne_134 {R : Room} {s : State} {args : Array Value} (hR : 2 + 1 ≤ R.frames ∧ 8 + (4 + 11) + 44 ≤ R.locals) (ht : ∀ w ∈ GW, w.before args s = true) : CallW R s args R_Ne R_Ne 134 y_Ne_beginHeads c_Ne_beginHeads 4 none (WL y_Ne_beginHeads c_Ne_beginHeads 4 none) { frames := 2, cells := 0, slots := 0, locals := 44 } 0 0 1 := cwV 1 ht (GW_v w_3_184 w_3_186 w_0_5 w_1_2 (GW_wl w_3_187)) rfl rfl rfl (by decide +kernel) hR
theorem kV_Ne_138 {R : Room} {s : State} {args : Array Value} (hR : 2 + 1 ≤ R.frames ∧ 8 + (6 + 11) + 44 ≤ R.locals) (ht : ∀ w ∈ GW, w.before args s = true) : CallW R s args R_Ne R_Ne 138 y_Ne_listMains c_Ne_listMains 6 none (WL y_Ne_listMains c_Ne_listMains 6 none) { frames := 2, cells := 0, slots := 0, locals := 44 } 0 0 0 := cwV 0 ht (GW_v w_3_189 w_3_191 w_0_6 w_1_2 (GW_wl w_3_192)) rfl rfl rfl (by decide +kernel) hR
theorem kV_Ne_141 {R : Room} {s : State} {args : Array Value} (hR : 1 + 1 ≤ R.frames ∧ 8 + (1 + 11) + 40 ≤ R.locals) (ht : ∀ w ∈ GW, w.before args s = true) : CallW R s args R_Ne R_Ne 141 y_Ne_markHeads c_Ne_markHeads 1 none (WL y_Ne_markHeads c_Ne_markHeads 1 none) { frames := 1, cells := 0, slots := 0, locals := 40 } 0 0 0 := cwV 0 ht (GW_v w_3_194 w_3_196 w_0_7 w_1_2 (GW_wl w_3_197)) rfl rfl rfl (by decide +kernel) hR
theorem kV_Ne_144 {R : Room} {s : State} {args : Array Value} (hR : 3 + 1 ≤ R.frames ∧ 8 + (5 + 11) + 68 ≤ R.locals) (ht : ∀ w ∈ GW, w.before args s = true) : CallW R s args R_Ne R_Ne 144 y_Ne_sweep c_Ne_sweep 5 (some .int) (WL y_Ne_sweep c_Ne_sweep 5 (some .int)) { frames := 3, cells := 0, slots := 0, locals := 68 } 0 0 1 := cwV 1 ht (GW_v w_3_201 w_3_203 w_0_8 w_1_2 (GW_wl w_3_204)) rfl rfl rfl (by decide +kernel) hR
theorem kV_Ne_147 {R : Room} {s : State} {args : Array Value} (hR : 0 + 1 ≤ R.frames ∧ 8 + (2 + 11) + 0 ≤ R.locals) (ht : ∀ w ∈ GW, w.before args s = true) : CallW R s args R_Ne R_Ne 147 y_Ne_isAsMarked c_Ne_isAsMarked 2 (some .boolean) (WL y_Ne_isAsMarked c_Ne_isAsMarked 2 (some .boolean)) { frames := 0, cells := 0, slots := 0, locals := 0 } 0 0 0 := cwV 0 ht (GW_v w_3_216 w_3_218 w_0_10 w_1_2 (GW_wl w_3_219)) rfl rfl rfl (by decide +kernel) hR
section S90
variable {p : Program} {l : Launch} {e : Env} {R : Room} {s : State} {m : MethodId} {args : Array Value} {below : List Frame} {meth : Method} {c : Code} {H : Heap} {locs : List Loc} {cells slots : Nat} {Q : State → Prop}
variable {cc : ByteArray} {pc n nL : Nat} {ls : Array Slot} {rest : List Value} {D : va_G} {cy : Nat → ClassId} {Z : Nat → Prop} {ad : Nat → Nat} {tb : List (Nat × Instr × Nat)} {lv : List (Nat × Value)}
def g_Ne_runSweeps_22 (I : Nat → Int32) (T : Nat → Option Nat) (L : List Nat) (K : Nat → Nat) (F : Nat → Nat → Int32) (a1 : Int32) (P : Int32 → ((Nat → Nat → Int32)) → Prop) (kx22 : (Nat → Nat → Int32) → Prop) : Nat → (Nat → Nat → Int32) → Int32 → Int32 → Int32 → Prop
  | 0, _, _, _, _ => False
  | n22 + 1, A, x2, x3, x4 => (x2 ≤ 0 → (kx22 A)) ∧ (¬ x2 ≤ 0 → (g_Ne_sweep I A T L K F a1 (fun r5 u6 => (((I 5) < r5 → (g_Ne_isAsMarked I u6 (fun r8 => ((r8 = 0 → (((x3 + (1 : Int32)) < x4 → (g_Ne_runSweeps_22 I T L K F a1 P kx22 n22 u6 (x2 + (-1 : Int32)) (x3 + (1 : Int32)) x4)) ∧ (¬ (x3 + (1 : Int32)) < x4 → (g_Ne_markHeads u6 (fun u11 => (∀ y12 : Int32, y12 = (x4 * (2 : Int32)) → (g_Ne_runSweeps_22 I T L K F a1 P kx22 n22 u11 (x2 + (-1 : Int32)) (0 : Int32) y12))))))) ∧ (¬ r8 = 0 → (¬ (x3 + (1 : Int32)) = 0 ∧ (∀ y13 : Int32, y13 = ((x2 + (-1 : Int32)) - (x2 + (-1 : Int32)) / (x3 + (1 : Int32)) * (x3 + (1 : Int32))) → (g_Ne_runSweeps_22 I T L K F a1 P kx22 n22 u6 y13 (x3 + (1 : Int32)) x4)))))))) ∧ (¬ (I 5) < r5 → (P ((500 : Int32) - (x2 + (-1 : Int32))) u6))))))
set_option maxHeartbeats 4000000 in
set_option maxRecDepth 100000 in
theorem e_Ne_runSweeps_22 {I : Nat → Int32} {T : Nat → Option Nat} {L : List Nat} {K : Nat → Nat} {F : Nat → Nat → Int32} {a1 : Int32} {P : Int32 → ((Nat → Nat → Int32)) → Prop} {kx22 : (Nat → Nat → Int32) → Prop} (C : CX D cy R_Ne c_Ne_runSweeps tb_Ne_runSweeps 5 p s m args c Z) (hret : RetI p l e { frames := 4, cells := 0, slots := 0, locals := 92 } s m args below meth c c_Ne_runSweeps .int D Z Q (fun (u : (Nat → Nat → Int32)) => wC cy ad I u T L K F) P 0 0)
    (hx22 : ∀ (A : Nat → Nat → Int32) (ls : Array Slot) (H : Heap) (locs : List Loc), lv_has ls 5 [] → HXw D Z s.heap H locs (wC cy ad I A T L K F) → kx22 A → W p l e { frames := 4, cells := 0, slots := 0, locals := 92 } s m args below meth c H locs 0 0 Q (F0 m 85 ls [])) :
    ∀ (n : Nat) (A : Nat → Nat → Int32) (x2 : Int32) (x3 : Int32) (x4 : Int32) (ls : Array Slot) (H : Heap) (locs : List Loc), lv_has ls 5 [(0, .ref (ad 1)), (1, .int a1), (2, .int x2), (3, .int x3), (4, .int x4)] → HXw D Z s.heap H locs (wC cy ad I A T L K F) → g_Ne_runSweeps_22 I T L K F a1 P kx22 n A x2 x3 x4 → W p l e { frames := 4, cells := 0, slots := 0, locals := 92 } s m args below meth c H locs 0 0 Q (F0 m 22 ls []) := by
  intro n
  induction n with
  | zero => intro A x2 x3 x4 ls H locs hl h hw; exact hw.elim
  | succ n ih =>
    intro A x2 x3 x4 ls H locs hl h hw
    refine i_iload_n (n := 23) C 13 rfl rfl rfl hl 2 rfl ?_
    refine i_if_le (tgt := 85) (n := 26) C 14 rfl rfl rfl (fun c4 => ?_) (fun c4 => ?_)
    · replace hw := hw.1 c4
      exact hx22 A ls _ _ (lv_sub hl [] rfl) h hw
    · replace hw := hw.2 c4
      refine i_iinc (v := x2 + (-1 : Int32)) (lv' := [(2, .int (x2 + (-1 : Int32))), (0, .ref (ad 1)), (1, .int a1), (3, .int x3), (4, .int x4)]) (n := 29) C 15 rfl rfl hl 2 rfl rfl (by decide) rfl (fun ls hl => ?_)
      refine i_aload_n (n := 30) C 16 rfl rfl rfl hl 1 rfl ?_
      refine i_iload_n (n := 31) C 17 rfl rfl rfl hl 2 rfl ?_
      refine i_callVi (rest := []) (ci := 5) (qc := (R_Ne, T_Ne, 17)) (n := 34) C 18 rfl rfl hl h rfl (wC_get (h := 1) (by decide)) (kV_Ne_144 ⟨by decide, by decide⟩) (m_Ne_sweep hw) rfl rfl (Nat.le_of_ble_eq_true rfl) ⟨by decide, by decide⟩ (fun r5 u6 H locs hw h => ?_)
      refine i_aload_n (n := 35) C 19 rfl rfl rfl hl 1 rfl ?_
      refine fgC_Ne_125 (n := 38) C 20 rfl rfl h ?_
      refine i_icmp_gt (tgt := 47) (n := 41) C 21 rfl rfl rfl (fun c7 => ?_) (fun c7 => ?_)
      · replace hw := hw.1 c7
        refine i_iinc (v := x3 + (1 : Int32)) (lv' := [(3, .int (x3 + (1 : Int32))), (2, .int (x2 + (-1 : Int32))), (0, .ref (ad 1)), (1, .int a1), (4, .int x4)]) (n := 50) C 26 rfl rfl hl 3 rfl rfl (by decide) rfl (fun ls hl => ?_)
        refine i_aload_n (n := 51) C 27 rfl rfl rfl hl 2 rfl ?_
        refine i_callVp (rest := []) (ci := 5) (qc := (R_Ne, T_Ne, 17)) (n := 54) C 28 rfl rfl hl h rfl (wC_get (h := 1) (by decide)) (kV_Ne_147 ⟨by decide, by decide⟩) (m_Ne_isAsMarked hw) rfl rfl (Nat.le_of_ble_eq_true rfl) ⟨by decide, by decide⟩ (fun r8 hw => ?_)
        refine i_if_eq (tgt := 64) (n := 57) C 29 rfl rfl rfl (fun c9 => ?_) (fun c9 => ?_)
        · replace hw := hw.1 c9
          refine i_iload_n (n := 65) C 35 rfl rfl rfl hl 0 rfl ?_
          refine i_iload (n := 67) C 36 rfl rfl hl 4 rfl ?_
          refine i_icmp_lt (tgt := 22) (n := 70) C 37 rfl rfl rfl (fun c10 => ?_) (fun c10 => ?_)
          · replace hw := hw.1 c10
            exact ih u6 (x2 + (-1 : Int32)) (x3 + (1 : Int32)) x4 ls _ _ (lv_sub hl [2, 3, 1, 0, 4] rfl) h hw
          · replace hw := hw.2 c10
            refine i_aload_n (n := 71) C 38 rfl rfl rfl hl 2 rfl ?_
            refine i_callVv (rest := []) (ci := 5) (qc := (R_Ne, T_Ne, 17)) (n := 74) C 39 rfl rfl hl h rfl (wC_get (h := 1) (by decide)) (kV_Ne_141 ⟨by decide, by decide⟩) (m_Ne_markHeads hw) rfl rfl (Nat.le_of_ble_eq_true rfl) ⟨by decide, by decide⟩ (fun u11 H locs hw h => ?_)
            refine i_iload (n := 76) C 40 rfl rfl hl 4 rfl ?_
            refine i_iconst (v := (2 : Int32)) (n := 77) C 41 rfl rfl rfl ?_
            refine i_imul (n := 78) C 42 rfl rfl ?_
            refine lv_topi (fun y12 ey12 => ?_)
            replace hw := hw y12 ey12
            refine i_istore (lv' := [(4, .int y12), (3, .int (x3 + (1 : Int32))), (2, .int (x2 + (-1 : Int32))), (0, .ref (ad 1)), (1, .int a1)]) (n := 80) C 43 rfl rfl hl (by decide) rfl (fun ls hl => ?_)
            refine i_iconst (v := (0 : Int32)) (n := 81) C 44 rfl rfl rfl ?_
            refine i_istore_n (lv' := [(3, .int (0 : Int32)), (4, .int y12), (2, .int (x2 + (-1 : Int32))), (0, .ref (ad 1)), (1, .int a1)]) (n := 82) C 45 rfl rfl rfl hl (by decide) rfl (fun ls hl => ?_)
            refine i_goto (tgt := 22) C 46 rfl rfl ?_
            exact ih u11 (x2 + (-1 : Int32)) (0 : Int32) y12 ls _ _ (lv_sub hl [3, 4, 2, 0, 1] rfl) h hw
        · replace hw := hw.2 c9
          refine i_iload_n (n := 58) C 30 rfl rfl rfl hl 1 rfl ?_
          refine i_iload_n (n := 59) C 31 rfl rfl rfl hl 0 rfl ?_
          obtain ⟨hd, hw⟩ := hw
          refine i_irem (n := 60) C 32 rfl rfl hd ?_
          refine lv_topi (fun y13 ey13 => ?_)
          replace hw := hw y13 ey13
          refine i_istore_n (lv' := [(2, .int y13), (3, .int (x3 + (1 : Int32))), (0, .ref (ad 1)), (1, .int a1), (4, .int x4)]) (n := 61) C 33 rfl rfl rfl hl (by decide) rfl (fun ls hl => ?_)
          refine i_goto (tgt := 22) C 34 rfl rfl ?_
          exact ih u6 y13 (x3 + (1 : Int32)) x4 ls _ _ (lv_sub hl [2, 3, 0, 1, 4] rfl) h hw
      · replace hw := hw.2 c7
        refine i_sipush (v := (500 : Int32)) (n := 44) C 22 rfl rfl rfl ?_
        refine i_iload_n (n := 45) C 23 rfl rfl rfl hl 0 rfl ?_
        refine i_isub (n := 46) C 24 rfl rfl ?_
        exact hret _ u6 _ _ _ _ rfl hw h (C.dg (k := 25) rfl)
def g_Ne_runSweeps (I : Nat → Int32) (A : Nat → Nat → Int32) (T : Nat → Option Nat) (L : List Nat) (K : Nat → Nat) (F : Nat → Nat → Int32) (a1 : Int32) (P : Int32 → ((Nat → Nat → Int32)) → Prop) : Prop := g_Ne_beginHeads I A T L K F a1 (fun u1 => (g_Ne_listMains I u1 (fun u2 => (g_Ne_markHeads u2 (fun u3 => (∃ N : Nat, g_Ne_runSweeps_22 I T L K F a1 P (fun (A_14 : Nat → Nat → Int32) => P (-5 : Int32) A_14) N u3 (500 : Int32) (0 : Int32) (1 : Int32)))))))
set_option maxHeartbeats 4000000 in
set_option maxRecDepth 100000 in
theorem m_Ne_runSweeps {l : Launch} {D : va_G} {cy : Nat → ClassId} {ad : Nat → Nat} {I : Nat → Int32} {A : Nat → Nat → Int32} {T : Nat → Option Nat} {L : List Nat} {K : Nat → Nat} {F : Nat → Nat → Int32} {a1 : Int32} {P : Int32 → ((Nat → Nat → Int32)) → Prop} (hw : g_Ne_runSweeps I A T L K F a1 P) : ∀ sz, Met l y_Ne_runSweeps (WL y_Ne_runSweeps c_Ne_runSweeps 5 (some .int)) { frames := 4, cells := 0, slots := 0, locals := 92 } (va_Pc [.ref (ad 1), .int a1] (PreW D cy (wC cy ad I A T L K F) sz)) (va_Qi P (fun u t => PostW D (va_A (wC cy ad I A T L K F) sz) ((fun (u : (Nat → Nat → Int32)) => wC cy ad I u T L K F) u) t) (va_A (wC cy ad I A T L K F) sz)) 0 0 (va_A (wC cy ad I A T L K F) sz) := by
  refine met_i (wf := fun (u : (Nat → Nat → Int32)) => wC cy ad I u T L K F) R_Ne .int db_Ne_runSweeps (by decide) rfl rfl (Nat.le_of_ble_eq_true rfl) ?_
  intro p e s m below meth c Z Q ls C h hl hret
  have hl : lv_has ls 5 [(0, .ref (ad 1)), (1, .int a1)] := hl
  refine i_aload_n (n := 1) C 0 rfl rfl rfl hl 0 rfl ?_
  refine i_iload_n (n := 2) C 1 rfl rfl rfl hl 1 rfl ?_
  refine i_callVv (rest := []) (ci := 5) (qc := (R_Ne, T_Ne, 17)) (n := 5) C 2 rfl rfl hl h rfl (wC_get (h := 1) (by decide)) (kV_Ne_134 ⟨by decide, by decide⟩) (m_Ne_beginHeads hw) rfl rfl (Nat.le_of_ble_eq_true rfl) ⟨by decide, by decide⟩ (fun u1 H locs hw h => ?_)
  refine i_aload_n (n := 6) C 3 rfl rfl rfl hl 0 rfl ?_
  refine i_callVv (rest := []) (ci := 5) (qc := (R_Ne, T_Ne, 17)) (n := 9) C 4 rfl rfl hl h rfl (wC_get (h := 1) (by decide)) (kV_Ne_138 ⟨by decide, by decide⟩) (m_Ne_listMains hw) rfl rfl (Nat.le_of_ble_eq_true rfl) ⟨by decide, by decide⟩ (fun u2 H locs hw h => ?_)
  refine i_aload_n (n := 10) C 5 rfl rfl rfl hl 0 rfl ?_
  refine i_callVv (rest := []) (ci := 5) (qc := (R_Ne, T_Ne, 17)) (n := 13) C 6 rfl rfl hl h rfl (wC_get (h := 1) (by decide)) (kV_Ne_141 ⟨by decide, by decide⟩) (m_Ne_markHeads hw) rfl rfl (Nat.le_of_ble_eq_true rfl) ⟨by decide, by decide⟩ (fun u3 H locs hw h => ?_)
  refine i_sipush (v := (500 : Int32)) (n := 16) C 7 rfl rfl rfl ?_
  refine i_istore_n (lv' := [(2, .int (500 : Int32)), (0, .ref (ad 1)), (1, .int a1)]) (n := 17) C 8 rfl rfl rfl hl (by decide) rfl (fun ls hl => ?_)
  refine i_iconst (v := (0 : Int32)) (n := 18) C 9 rfl rfl rfl ?_
  refine i_istore_n (lv' := [(3, .int (0 : Int32)), (2, .int (500 : Int32)), (0, .ref (ad 1)), (1, .int a1)]) (n := 19) C 10 rfl rfl rfl hl (by decide) rfl (fun ls hl => ?_)
  refine i_iconst (v := (1 : Int32)) (n := 20) C 11 rfl rfl rfl ?_
  refine i_istore (lv' := [(4, .int (1 : Int32)), (3, .int (0 : Int32)), (2, .int (500 : Int32)), (0, .ref (ad 1)), (1, .int a1)]) (n := 22) C 12 rfl rfl hl (by decide) rfl (fun ls hl => ?_)
  obtain ⟨n14, hw⟩ := hw
  refine e_Ne_runSweeps_22 C hret (fun A_14 ls H locs hl h hw => ?_) n14 u3 (500 : Int32) (0 : Int32) (1 : Int32) ls _ _ (lv_sub hl [3, 4, 2, 1, 0] rfl) h hw
  have hl : lv_has ls 5 [] := hl
  refine i_bipush (v := (-5 : Int32)) (n := 87) C 47 rfl rfl rfl ?_
  exact hret _ A_14 _ _ _ _ rfl hw h (C.dg (k := 48) rfl)
end S90
