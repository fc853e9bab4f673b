section S143
variable {p : Program} {l : Launch} {e : Env} {R : Room} {s : State} {m : MethodId} {args : Array Value} {below : List Frame} {meth : Method} {c : Code} {H : Heap} {locs : List Loc} {cells slots : Nat} {Q : State → Prop}
variable {cc : ByteArray} {pc n nL : Nat} {ls : Array Slot} {rest : List Value} {D : va_G} {cy : Nat → ClassId} {Z : Nat → Prop} {ad : Nat → Nat} {tb : List (Nat × Instr × Nat)} {lv : List (Nat × Value)}
set_option maxHeartbeats 4000000 in
set_option maxRecDepth 100000 in
theorem m_JInt_bitCount {l : Launch} {D : va_G} {cy : Nat → ClassId}   {a1 : Int32} {w : va_W} {P : Int32 → Prop} (hw : g_JInt_bitCount a1 P) : ∀ sz, Met l y_JInt_bitCount (WL y_JInt_bitCount c_JInt_bitCount 1 (some .int)) { frames := 0, cells := 0, slots := 0, locals := 0 } (va_Pc [.int a1] (PreW D cy (w) sz)) (vp_Si P) 0 0 (fun _ => False) := by
  refine met_p R_JInt .int db_JInt_bitCount (by decide) rfl rfl (Nat.le_of_ble_eq_true rfl) ?_
  intro p e s m below meth c Z Q ls C h hl hret
  have hl : lv_has ls 1 [(0, .int a1)] := hl
  refine i_iload_n (n := 1) C 0 rfl rfl rfl hl 0 rfl ?_
  refine i_iload_n (n := 2) C 1 rfl rfl rfl hl 0 rfl ?_
  refine i_iconst (v := (1 : Int32)) (n := 3) C 2 rfl rfl rfl ?_
  refine i_iushr (n := 4) C 3 rfl rfl ?_
  refine i_ldcw (n := 7) C 4 rfl rfl w_4_218 ?_
  refine i_iand (n := 8) C 5 rfl rfl ?_
  refine i_isub (n := 9) C 6 rfl rfl ?_
  refine lv_topi (fun y1 ey1 => ?_)
  replace hw := hw y1 ey1
  refine i_istore_n (lv' := [(0, .int y1)]) (n := 10) C 7 rfl rfl rfl hl (by decide) rfl (fun ls hl => ?_)
  refine i_iload_n (n := 11) C 8 rfl rfl rfl hl 0 rfl ?_
  refine i_ldcw (n := 14) C 9 rfl rfl w_4_219 ?_
  refine i_iand (n := 15) C 10 rfl rfl ?_
  refine i_iload_n (n := 16) C 11 rfl rfl rfl hl 0 rfl ?_
  refine i_iconst (v := (2 : Int32)) (n := 17) C 12 rfl rfl rfl ?_
  refine i_iushr (n := 18) C 13 rfl rfl ?_
  refine i_ldcw (n := 21) C 14 rfl rfl w_4_219 ?_
  refine i_iand (n := 22) C 15 rfl rfl ?_
  refine i_iadd (n := 23) C 16 rfl rfl ?_
  refine lv_topi (fun y2 ey2 => ?_)
  replace hw := hw y2 ey2
  refine i_istore_n (lv' := [(0, .int y2)]) (n := 24) C 17 rfl rfl rfl hl (by decide) rfl (fun ls hl => ?_)
  refine i_iload_n (n := 25) C 18 rfl rfl rfl hl 0 rfl ?_
  refine i_iload_n (n := 26) C 19 rfl rfl rfl hl 0 rfl ?_
  refine i_iconst (v := (4 : Int32)) (n := 27) C 20 rfl rfl rfl ?_
  refine i_iushr (n := 28) C 21 rfl rfl ?_
  refine i_iadd (n := 29) C 22 rfl rfl ?_
  refine i_ldcw (n := 32) C 23 rfl rfl w_4_220 ?_
  refine i_iand (n := 33) C 24 rfl rfl ?_
  refine lv_topi (fun y3 ey3 => ?_)
  replace hw := hw y3 ey3
  refine i_istore_n (lv' := [(0, .int y3)]) (n := 34) C 25 rfl rfl rfl hl (by decide) rfl (fun ls hl => ?_)
  refine i_iload_n (n := 35) C 26 rfl rfl rfl hl 0 rfl ?_
  refine i_iload_n (n := 36) C 27 rfl rfl rfl hl 0 rfl ?_
  refine i_bipush (v := (8 : Int32)) (n := 38) C 28 rfl rfl rfl ?_
  refine i_iushr (n := 39) C 29 rfl rfl ?_
  refine i_iadd (n := 40) C 30 rfl rfl ?_
  refine lv_topi (fun y4 ey4 => ?_)
  replace hw := hw y4 ey4
  refine i_istore_n (lv' := [(0, .int y4)]) (n := 41) C 31 rfl rfl rfl hl (by decide) rfl (fun ls hl => ?_)
  refine i_iload_n (n := 42) C 32 rfl rfl rfl hl 0 rfl ?_
  refine i_iload_n (n := 43) C 33 rfl rfl rfl hl 0 rfl ?_
  refine i_bipush (v := (16 : Int32)) (n := 45) C 34 rfl rfl rfl ?_
  refine i_iushr (n := 46) C 35 rfl rfl ?_
  refine i_iadd (n := 47) C 36 rfl rfl ?_
  refine lv_topi (fun y5 ey5 => ?_)
  replace hw := hw y5 ey5
  refine i_istore_n (lv' := [(0, .int y5)]) (n := 48) C 37 rfl rfl rfl hl (by decide) rfl (fun ls hl => ?_)
  refine i_iload_n (n := 49) C 38 rfl rfl rfl hl 0 rfl ?_
  refine i_bipush (v := (63 : Int32)) (n := 51) C 39 rfl rfl rfl ?_
  refine i_iand (n := 52) C 40 rfl rfl ?_
  exact hret _ _ _ rfl hw (C.dg (k := 41) rfl)
end S143
theorem kV_Pi_63 {R : Room} {s : State} {args : Array Value} (hR : 2 + 1 ≤ R.frames ∧ 8 + (9 + 11) + 44 ≤ R.locals) (ht : ∀ w ∈ GW, w.before args s = true) : CallW R s args R_Pi R_Pi 63 y_Pi_joined c_Pi_joined 9 (some .int) (WL y_Pi_joined c_Pi_joined 9 (some .int)) { frames := 2, cells := 0, slots := 0, locals := 44 } 0 0 2 := cwV 2 ht (GW_v w_4_210 w_4_211 w_4_212 w_1_3 (GW_wl w_4_213)) rfl rfl rfl (by decide +kernel) hR
theorem kX_Pi_67 {R : Room} {s : State} {args : Array Value} (hR : 0 + 1 ≤ R.frames ∧ 8 + (1 + 11) + 0 ≤ R.locals) (ht : ∀ w ∈ GW, w.before args s = true) : CallB R s args R_Pi 67 y_JInt_bitCount c_JInt_bitCount 1 (some .int) (WL y_JInt_bitCount c_JInt_bitCount 1 (some .int)) { frames := 0, cells := 0, slots := 0, locals := 0 } 0 0 1 ∧ (Cond.static y_JInt_bitCount).before args s = true := ⟨callB_of 1 ht (GW_in (GW_wl w_4_217)) rfl rfl rfl (ht _ w_1_17) (ht _ w_4_215) (by decide +kernel) hR, ht _ w_4_216⟩
section S144
variable {p : Program} {l : Launch} {e : Env} {R : Room} {s : State} {m : MethodId} {args : Array Value} {below : List Frame} {meth : Method} {c : Code} {H : Heap} {locs : List Loc} {cells slots : Nat} {Q : State → Prop}
variable {cc : ByteArray} {pc n nL : Nat} {ls : Array Slot} {rest : List Value} {D : va_G} {cy : Nat → ClassId} {Z : Nat → Prop} {ad : Nat → Nat} {tb : List (Nat × Instr × Nat)} {lv : List (Nat × Value)}
set_option maxHeartbeats 4000000 in
set_option maxRecDepth 100000 in
theorem e_Pi_fewestValves_95 {I : Nat → Int32} {A : Nat → Nat → Int32} {T : Nat → Option Nat} {L : List Nat} {K : Nat → Nat} {F : Nat → Nat → Int32} {a1 : Int32} {a2 : Int32} {P : Int32 → Prop} {kb40 : Int32 → Int32 → Int32 → Prop} (C : CX D cy R_Pi c_Pi_fewestValves tb_Pi_fewestValves 7 p s m args c Z) (h : HXw D Z s.heap H locs (wC cy ad I A T L K F)) (hret : RetP p l e { frames := 3, cells := 0, slots := 0, locals := 72 } s m args below meth c c_Pi_fewestValves .int H locs Q P)
    (hb40 : ∀ (x3 : Int32) (x4 : Int32) (x5 : Int32) (ls : Array Slot), lv_has ls 7 [(0, .ref (ad 2)), (1, .int a1), (2, .int a2), (3, .int x3), (4, .int x4), (5, .int x5)] → kb40 x3 x4 x5 → W p l e { frames := 3, cells := 0, slots := 0, locals := 72 } s m args below meth c H locs 0 0 Q (F0 m 40 ls [])) :
    ∀ (x3 : Int32) (x4 : Int32) (x5 : Int32) (ls : Array Slot), lv_has ls 7 [(0, .ref (ad 2)), (1, .int a1), (2, .int a2), (3, .int x3), (4, .int x4), (5, .int x5)] → g_Pi_fewestValves_95 I A a1 a2 P kb40 x3 x4 x5 → W p l e { frames := 3, cells := 0, slots := 0, locals := 72 } s m args below meth c H locs 0 0 Q (F0 m 95 ls []) := by
  intro x3 x4 x5 ls hl hw
  refine i_iinc (v := x5 + (1 : Int32)) (lv' := [(5, .int (x5 + (1 : Int32))), (0, .ref (ad 2)), (1, .int a1), (2, .int a2), (3, .int x3), (4, .int x4)]) (n := 98) C 51 rfl rfl hl 5 rfl rfl (by decide) rfl (fun ls hl => ?_)
  refine i_goto (tgt := 40) C 52 rfl rfl ?_
  exact hb40 x3 x4 (x5 + (1 : Int32)) ls (lv_sub hl [1, 2, 3, 4, 5, 0] rfl) hw
set_option maxHeartbeats 4000000 in
set_option maxRecDepth 100000 in
theorem e_Pi_fewestValves_71 {I : Nat → Int32} {A : Nat → Nat → Int32} {T : Nat → Option Nat} {L : List Nat} {K : Nat → Nat} {F : Nat → Nat → Int32} {a1 : Int32} {a2 : Int32} {P : Int32 → Prop} {kb40 : Int32 → Int32 → Int32 → Prop} (C : CX D cy R_Pi c_Pi_fewestValves tb_Pi_fewestValves 7 p s m args c Z) (h : HXw D Z s.heap H locs (wC cy ad I A T L K F)) (hret : RetP p l e { frames := 3, cells := 0, slots := 0, locals := 72 } s m args below meth c c_Pi_fewestValves .int H locs Q P)
    (hb40 : ∀ (x3 : Int32) (x4 : Int32) (x5 : Int32) (ls : Array Slot), lv_has ls 7 [(0, .ref (ad 2)), (1, .int a1), (2, .int a2), (3, .int x3), (4, .int x4), (5, .int x5)] → kb40 x3 x4 x5 → W p l e { frames := 3, cells := 0, slots := 0, locals := 72 } s m args below meth c H locs 0 0 Q (F0 m 40 ls [])) :
    ∀ (x3 : Int32) (x4 : Int32) (x5 : Int32) (s0 : Int32) (ls : Array Slot), lv_has ls 7 [(0, .ref (ad 2)), (1, .int a1), (2, .int a2), (3, .int x3), (4, .int x4), (5, .int x5)] → g_Pi_fewestValves_71 I A a1 a2 P kb40 x3 x4 x5 s0 → W p l e { frames := 3, cells := 0, slots := 0, locals := 72 } s m args below meth c H locs 0 0 Q (F0 m 71 ls [.int s0]) := by
  intro x3 x4 x5 s0 ls hl hw
  refine i_istore (lv' := [(6, .int s0), (0, .ref (ad 2)), (1, .int a1), (2, .int a2), (3, .int x3), (4, .int x4), (5, .int x5)]) (n := 73) C 39 rfl rfl hl (by decide) rfl (fun ls hl => ?_)
  refine i_iload (n := 75) C 40 rfl rfl hl 0 rfl ?_
  refine i_if_eq (tgt := 95) (n := 78) C 41 rfl rfl rfl (fun c9 => ?_) (fun c9 => ?_)
  · replace hw := hw.1 c9
    exact e_Pi_fewestValves_95 C h hret hb40 x3 x4 x5 ls (lv_sub hl [1, 2, 3, 4, 5, 6] rfl) hw
  · replace hw := hw.2 c9
    refine i_aload_n (n := 79) C 42 rfl rfl rfl hl 1 rfl ?_
    refine i_iload_n (n := 80) C 43 rfl rfl rfl hl 3 rfl ?_
    refine i_iload (n := 82) C 44 rfl rfl hl 6 rfl ?_
    refine i_callVp (rest := []) (ci := 7) (qc := (R_Pi, T_Pi, 8)) (n := 85) C 45 rfl rfl hl h rfl (wC_get (h := 2) (by decide)) (kV_Pi_63 ⟨by decide, by decide⟩) (m_Pi_joined hw) rfl rfl (Nat.le_of_ble_eq_true rfl) ⟨by decide, by decide⟩ (fun r10 hw => ?_)
    refine i_iload_n (n := 86) C 46 rfl rfl rfl hl 2 rfl ?_
    refine i_callSNp (rest := []) (n := 89) C 47 rfl rfl hl h (kSN_Pi_48 ⟨by decide, by decide⟩) (m_Pw_hasBit hw) rfl rfl (Nat.le_of_ble_eq_true rfl) ⟨by decide, by decide⟩ (fun r11 hw => ?_)
    refine i_if_ne (tgt := 95) (n := 92) C 48 rfl rfl rfl (fun c12 => ?_) (fun c12 => ?_)
    · replace hw := hw.1 c12
      exact e_Pi_fewestValves_95 C h hret hb40 x3 x4 x5 ls (lv_sub hl [1, 2, 3, 4, 5, 6] rfl) hw
    · replace hw := hw.2 c12
      refine i_iload (n := 94) C 49 rfl rfl hl 6 rfl ?_
      exact hret _ _ _ rfl hw (C.dg (k := 50) rfl)
set_option maxHeartbeats 4000000 in
set_option maxRecDepth 100000 in
theorem e_Pi_fewestValves_70 {I : Nat → Int32} {A : Nat → Nat → Int32} {T : Nat → Option Nat} {L : List Nat} {K : Nat → Nat} {F : Nat → Nat → Int32} {a1 : Int32} {a2 : Int32} {P : Int32 → Prop} {kb40 : Int32 → Int32 → Int32 → Prop} (C : CX D cy R_Pi c_Pi_fewestValves tb_Pi_fewestValves 7 p s m args c Z) (h : HXw D Z s.heap H locs (wC cy ad I A T L K F)) (hret : RetP p l e { frames := 3, cells := 0, slots := 0, locals := 72 } s m args below meth c c_Pi_fewestValves .int H locs Q P)
    (hb40 : ∀ (x3 : Int32) (x4 : Int32) (x5 : Int32) (ls : Array Slot), lv_has ls 7 [(0, .ref (ad 2)), (1, .int a1), (2, .int a2), (3, .int x3), (4, .int x4), (5, .int x5)] → kb40 x3 x4 x5 → W p l e { frames := 3, cells := 0, slots := 0, locals := 72 } s m args below meth c H locs 0 0 Q (F0 m 40 ls [])) :
    ∀ (x3 : Int32) (x4 : Int32) (x5 : Int32) (ls : Array Slot), lv_has ls 7 [(0, .ref (ad 2)), (1, .int a1), (2, .int a2), (3, .int x3), (4, .int x4), (5, .int x5)] → g_Pi_fewestValves_70 I A a1 a2 P kb40 x3 x4 x5 → W p l e { frames := 3, cells := 0, slots := 0, locals := 72 } s m args below meth c H locs 0 0 Q (F0 m 70 ls []) := by
  intro x3 x4 x5 ls hl hw
  refine i_iconst (v := (0 : Int32)) (n := 71) C 38 rfl rfl rfl ?_
  exact e_Pi_fewestValves_71 C h hret hb40 x3 x4 x5 (0 : Int32) ls hl hw
set_option maxHeartbeats 4000000 in
set_option maxRecDepth 100000 in
theorem e_Pi_fewestValves_40 {I : Nat → Int32} {A : Nat → Nat → Int32} {T : Nat → Option Nat} {L : List Nat} {K : Nat → Nat} {F : Nat → Nat → Int32} {a1 : Int32} {a2 : Int32} {P : Int32 → Prop} {kx40 : Int32 → Int32 → Prop} (C : CX D cy R_Pi c_Pi_fewestValves tb_Pi_fewestValves 7 p s m args c Z) (h : HXw D Z s.heap H locs (wC cy ad I A T L K F)) (hret : RetP p l e { frames := 3, cells := 0, slots := 0, locals := 72 } s m args below meth c c_Pi_fewestValves .int H locs Q P)
    (hx40 : ∀ (x3 : Int32) (x4 : Int32) (ls : Array Slot), lv_has ls 7 [(0, .ref (ad 2)), (1, .int a1), (2, .int a2), (3, .int x3), (4, .int x4)] → kx40 x3 x4 → W p l e { frames := 3, cells := 0, slots := 0, locals := 72 } s m args below meth c H locs 0 0 Q (F0 m 101 ls [])) :
    ∀ (n : Nat) (x3 : Int32) (x4 : Int32) (x5 : Int32) (ls : Array Slot), lv_has ls 7 [(0, .ref (ad 2)), (1, .int a1), (2, .int a2), (3, .int x3), (4, .int x4), (5, .int x5)] → g_Pi_fewestValves_40 I A a1 a2 P kx40 n x3 x4 x5 → W p l e { frames := 3, cells := 0, slots := 0, locals := 72 } s m args below meth c H locs 0 0 Q (F0 m 40 ls []) := by
  intro n
  induction n with
  | zero => intro x3 x4 x5 ls hl hw; exact hw.elim
  | succ n ih =>
    intro x3 x4 x5 ls hl hw
    refine i_iload (n := 42) C 24 rfl rfl hl 5 rfl ?_
    refine i_iload_n (n := 43) C 25 rfl rfl rfl hl 3 rfl ?_
    refine i_icmp_ge (tgt := 101) (n := 46) C 26 rfl rfl rfl (fun c6 => ?_) (fun c6 => ?_)
    · replace hw := hw.1 c6
      exact hx40 x3 x4 ls (lv_sub hl [0, 1, 2, 3, 4] rfl) hw
    · replace hw := hw.2 c6
      refine i_iload (n := 48) C 27 rfl rfl hl 5 rfl ?_
      refine i_callSp (rest := []) (n := 51) C 28 rfl rfl hl h (kX_Pi_67 ⟨by decide, by decide⟩) (m_JInt_bitCount hw) rfl rfl (Nat.le_of_ble_eq_true rfl) ⟨by decide, by decide⟩ (fun r7 hw => ?_)
      refine i_iload (n := 53) C 29 rfl rfl hl 4 rfl ?_
      refine i_icmp_ne (tgt := 70) (n := 56) C 30 rfl rfl rfl (fun c8 => ?_) (fun c8 => ?_)
      · replace hw := hw.1 c8
        exact e_Pi_fewestValves_70 C h hret ih x3 x4 x5 ls hl hw
      · replace hw := hw.2 c8
        refine i_iload (n := 58) C 31 rfl rfl hl 5 rfl ?_
        refine i_aload_n (n := 59) C 32 rfl rfl rfl hl 0 rfl ?_
        refine fgC_Pi_45 (n := 62) C 33 rfl rfl h ?_
        refine i_iand (n := 63) C 34 rfl rfl ?_
        refine i_if_ne (tgt := 70) (n := 66) C 35 rfl rfl rfl (fun c13 => ?_) (fun c13 => ?_)
        · replace hw := hw.1 c13
          exact e_Pi_fewestValves_70 C h hret ih x3 x4 x5 ls hl hw
        · replace hw := hw.2 c13
          refine i_iconst (v := (1 : Int32)) (n := 67) C 36 rfl rfl rfl ?_
          refine i_goto (tgt := 71) C 37 rfl rfl ?_
          exact e_Pi_fewestValves_71 C h hret ih x3 x4 x5 (1 : Int32) ls hl hw
set_option maxHeartbeats 4000000 in
set_option maxRecDepth 100000 in
theorem e_Pi_fewestValves_28 {I : Nat → Int32} {A : Nat → Nat → Int32} {T : Nat → Option Nat} {L : List Nat} {K : Nat → Nat} {F : Nat → Nat → Int32} {a1 : Int32} {a2 : Int32} {P : Int32 → Prop} {kx28 : Prop} (C : CX D cy R_Pi c_Pi_fewestValves tb_Pi_fewestValves 7 p s m args c Z) (h : HXw D Z s.heap H locs (wC cy ad I A T L K F)) (hret : RetP p l e { frames := 3, cells := 0, slots := 0, locals := 72 } s m args below meth c c_Pi_fewestValves .int H locs Q P)
    (hx28 : ∀ (ls : Array Slot), lv_has ls 7 [] → kx28  → W p l e { frames := 3, cells := 0, slots := 0, locals := 72 } s m args below meth c H locs 0 0 Q (F0 m 107 ls [])) :
    ∀ (n : Nat) (x3 : Int32) (x4 : Int32) (ls : Array Slot), lv_has ls 7 [(0, .ref (ad 2)), (1, .int a1), (2, .int a2), (3, .int x3), (4, .int x4)] → g_Pi_fewestValves_28 I A a1 a2 P kx28 n x3 x4 → W p l e { frames := 3, cells := 0, slots := 0, locals := 72 } s m args below meth c H locs 0 0 Q (F0 m 28 ls []) := by
  intro n
  induction n with
  | zero => intro x3 x4 ls hl hw; exact hw.elim
  | succ n ih =>
    intro x3 x4 ls hl hw
    refine i_iload (n := 30) C 18 rfl rfl hl 4 rfl ?_
    refine i_aload_n (n := 31) C 19 rfl rfl rfl hl 0 rfl ?_
    refine fgC_Pi_31 (n := 34) C 20 rfl rfl h ?_
    refine i_icmp_gt (tgt := 107) (n := 37) C 21 rfl rfl rfl (fun c5 => ?_) (fun c5 => ?_)
    · replace hw := hw.1 c5
      exact hx28  ls (lv_sub hl [] rfl) hw
    · replace hw := hw.2 c5
      refine i_iconst (v := (0 : Int32)) (n := 38) C 22 rfl rfl rfl ?_
      refine i_istore (lv' := [(5, .int (0 : Int32)), (0, .ref (ad 2)), (1, .int a1), (2, .int a2), (3, .int x3), (4, .int x4)]) (n := 40) C 23 rfl rfl hl (by decide) rfl (fun ls hl => ?_)
      obtain ⟨n14, hw⟩ := hw
      refine e_Pi_fewestValves_40 C h hret (fun x3_14 x4_14 ls hl hw => ?_) n14 x3 x4 (0 : Int32) ls (lv_sub hl [1, 2, 3, 4, 5, 0] rfl) hw
      have hl : lv_has ls 7 [(0, .ref (ad 2)), (1, .int a1), (2, .int a2), (3, .int x3_14), (4, .int x4_14)] := hl
      refine i_iinc (v := x4_14 + (1 : Int32)) (lv' := [(4, .int (x4_14 + (1 : Int32))), (0, .ref (ad 2)), (1, .int a1), (2, .int a2), (3, .int x3_14)]) (n := 104) C 53 rfl rfl hl 4 rfl rfl (by decide) rfl (fun ls hl => ?_)
      refine i_goto (tgt := 28) C 54 rfl rfl ?_
      exact ih x3_14 (x4_14 + (1 : Int32)) ls (lv_sub hl [1, 2, 3, 4, 0] rfl) hw
set_option maxHeartbeats 4000000 in
set_option maxRecDepth 100000 in
theorem m_Pi_fewestValves {l : Launch} {D : va_G} {cy : Nat → ClassId} {ad : Nat → Nat} {I : Nat → Int32} {A : Nat → Nat → Int32} {T : Nat → Option Nat} {L : List Nat} {K : Nat → Nat} {F : Nat → Nat → Int32} {a1 : Int32} {a2 : Int32} {P : Int32 → Prop} (hw : g_Pi_fewestValves I A a1 a2 P) : ∀ sz, Met l y_Pi_fewestValves (WL y_Pi_fewestValves c_Pi_fewestValves 7 (some .int)) { frames := 3, cells := 0, slots := 0, locals := 72 } (va_Pc [.ref (ad 2), .int a1, .int a2] (PreW D cy (wC cy ad I A T L K F) sz)) (vp_Si P) 0 0 (fun _ => False) := by
  refine met_p R_Pi .int db_Pi_fewestValves (by decide) rfl rfl (Nat.le_of_ble_eq_true rfl) ?_
  intro p e s m below meth c Z Q ls C h hl hret
  have hl : lv_has ls 7 [(0, .ref (ad 2)), (1, .int a1), (2, .int a2)] := hl
  refine i_iconst (v := (1 : Int32)) (n := 1) C 0 rfl rfl rfl ?_
  refine i_aload_n (n := 2) C 1 rfl rfl rfl hl 0 rfl ?_
  refine fgC_Pi_31 (n := 5) C 2 rfl rfl h ?_
  refine i_ishl (n := 6) C 3 rfl rfl ?_
  refine lv_topi (fun y1 ey1 => ?_)
  replace hw := hw y1 ey1
  refine i_istore_n (lv' := [(3, .int y1), (0, .ref (ad 2)), (1, .int a1), (2, .int a2)]) (n := 7) C 4 rfl rfl rfl hl (by decide) rfl (fun ls hl => ?_)
  refine i_aload_n (n := 8) C 5 rfl rfl rfl hl 1 rfl ?_
  refine i_iload_n (n := 9) C 6 rfl rfl rfl hl 3 rfl ?_
  refine i_iload_n (n := 10) C 7 rfl rfl rfl hl 0 rfl ?_
  refine i_iconst (v := (1 : Int32)) (n := 11) C 8 rfl rfl rfl ?_
  refine i_isub (n := 12) C 9 rfl rfl ?_
  refine i_callVp (rest := []) (ci := 7) (qc := (R_Pi, T_Pi, 8)) (n := 15) C 10 rfl rfl hl h rfl (wC_get (h := 2) (by decide)) (kV_Pi_63 ⟨by decide, by decide⟩) (m_Pi_joined hw) rfl rfl (Nat.le_of_ble_eq_true rfl) ⟨by decide, by decide⟩ (fun r2 hw => ?_)
  refine i_iload_n (n := 16) C 11 rfl rfl rfl hl 2 rfl ?_
  refine i_callSNp (rest := []) (n := 19) C 12 rfl rfl hl h (kSN_Pi_48 ⟨by decide, by decide⟩) (m_Pw_hasBit hw) rfl rfl (Nat.le_of_ble_eq_true rfl) ⟨by decide, by decide⟩ (fun r3 hw => ?_)
  refine i_if_eq (tgt := 25) (n := 22) C 13 rfl rfl rfl (fun c4 => ?_) (fun c4 => ?_)
  · replace hw := hw.1 c4
    refine i_iconst (v := (0 : Int32)) (n := 26) C 16 rfl rfl rfl ?_
    refine i_istore (lv' := [(4, .int (0 : Int32)), (3, .int y1), (0, .ref (ad 2)), (1, .int a1), (2, .int a2)]) (n := 28) C 17 rfl rfl hl (by decide) rfl (fun ls hl => ?_)
    obtain ⟨n15, hw⟩ := hw
    refine e_Pi_fewestValves_28 C h hret (fun  ls hl hw => ?_) n15 y1 (0 : Int32) ls (lv_sub hl [2, 3, 4, 1, 0] rfl) hw
    have hl : lv_has ls 7 [] := hl
    refine i_bipush (v := (-6 : Int32)) (n := 109) C 55 rfl rfl rfl ?_
    exact hret _ _ _ rfl hw (C.dg (k := 56) rfl)
  · replace hw := hw.2 c4
    refine i_bipush (v := (-6 : Int32)) (n := 24) C 14 rfl rfl rfl ?_
    exact hret _ _ _ rfl hw (C.dg (k := 15) rfl)
end S144
theorem kV_Pw_310 {R : Room} {s : State} {args : Array Value} (hR : 2 + 1 ≤ R.frames ∧ 8 + (4 + 11) + 44 ≤ R.locals) (ht : ∀ w ∈ GW, w.before args s = true) : CallW R s args R_Pw R_Ne 310 y_Ne_sources c_Ne_sources 4 (some .int) (WL y_Ne_sources c_Ne_sources 4 (some .int)) { frames := 2, cells := 0, slots := 0, locals := 44 } 0 0 1 := cwV 1 ht (GW_v w_4_202 w_4_203 w_4_204 w_1_2 (GW_wl w_4_205)) rfl rfl rfl (by decide +kernel) hR
theorem kV_Pw_313 {R : Room} {s : State} {args : Array Value} (hR : 3 + 1 ≤ R.frames ∧ 8 + (7 + 11) + 72 ≤ R.locals) (ht : ∀ w ∈ GW, w.before args s = true) : CallW R s args R_Pw R_Pi 313 y_Pi_fewestValves c_Pi_fewestValves 7 (some .int) (WL y_Pi_fewestValves c_Pi_fewestValves 7 (some .int)) { frames := 3, cells := 0, slots := 0, locals := 72 } 0 0 2 := cwV 2 ht (GW_v w_4_206 w_4_207 w_4_208 w_1_3 (GW_wl w_4_209)) rfl rfl rfl (by decide +kernel) hR
section S145
variable {p : Program} {l : Launch} {e : Env} {R : Room} {s : State} {m : MethodId} {args : Array Value} {below : List Frame} {meth : Method} {c : Code} {H : Heap} {locs : List Loc} {cells slots : Nat} {Q : State → Prop}
variable {cc : ByteArray} {pc n nL : Nat} {ls : Array Slot} {rest : List Value} {D : va_G} {cy : Nat → ClassId} {Z : Nat → Prop} {ad : Nat → Nat} {tb : List (Nat × Instr × Nat)} {lv : List (Nat × Value)}
set_option maxHeartbeats 4000000 in
set_option maxRecDepth 100000 in
theorem m_Pw_cut {l : Launch} {D : va_G} {cy : Nat → ClassId} {ad : Nat → Nat} {I : Nat → Int32} {A : Nat → Nat → Int32} {T : Nat → Option Nat} {L : List Nat} {K : Nat → Nat} {F : Nat → Nat → Int32} {a1 : Int32} {P : Int32 → Prop} (hw : g_Pw_cut I A T L K F a1 P) : ∀ sz, Met l y_Pw_cut (WL y_Pw_cut c_Pw_cut 2 (some .int)) { frames := 4, cells := 0, slots := 0, locals := 98 } (va_Pc [.ref (ad 0), .int a1] (PreW D cy (wC cy ad I A T L K F) sz)) (vp_Si P) 0 0 (fun _ => False) := by
  refine met_p R_Pw .int db_Pw_cut (by decide) rfl rfl (Nat.le_of_ble_eq_true rfl) ?_
  intro p e s m below meth c Z Q ls C h hl hret
  have hl : lv_has ls 2 [(0, .ref (ad 0)), (1, .int a1)] := hl
  refine i_aload_n (n := 1) C 0 rfl rfl rfl hl 0 rfl ?_
  refine fgC_Pw_10 (n := 4) C 1 rfl rfl h ?_
  refine i_iload_n (n := 5) C 2 rfl rfl rfl hl 1 rfl ?_
  refine i_callVp (rest := []) (ci := 5) (qc := (R_Ne, T_Ne, 17)) (n := 8) C 3 rfl rfl hl h rfl (wC_get (h := 1) (by decide)) (kV_Pw_77 ⟨by decide, by decide⟩) (m_Ne_has hw) rfl rfl (Nat.le_of_ble_eq_true rfl) ⟨by decide, by decide⟩ (fun r1 hw => ?_)
  refine i_if_eq (tgt := 33) (n := 11) C 4 rfl rfl rfl (fun c2 => ?_) (fun c2 => ?_)
  · replace hw := hw.1 c2
    refine i_iconst (v := (-1 : Int32)) (n := 34) C 15 rfl rfl rfl ?_
    exact hret _ _ _ rfl hw (C.dg (k := 16) rfl)
  · replace hw := hw.2 c2
    refine i_aload_n (n := 12) C 5 rfl rfl rfl hl 0 rfl ?_
    refine fgC_Pw_20 (n := 15) C 6 rfl rfl h ?_
    refine i_iload_n (n := 16) C 7 rfl rfl rfl hl 1 rfl ?_
    refine i_aload_n (n := 17) C 8 rfl rfl rfl hl 0 rfl ?_
    refine fgC_Pw_10 (n := 20) C 9 rfl rfl h ?_
    refine i_aload_n (n := 21) C 10 rfl rfl rfl hl 0 rfl ?_
    refine fgC_Pw_184 (n := 24) C 11 rfl rfl h ?_
    refine i_callVp (rest := [.int a1, .ref (ad 2)]) (ci := 5) (qc := (R_Ne, T_Ne, 17)) (n := 27) C 12 rfl rfl hl h rfl (wC_get (h := 1) (by decide)) (kV_Pw_310 ⟨by decide, by decide⟩) (m_Ne_sources hw) rfl rfl (Nat.le_of_ble_eq_true rfl) ⟨by decide, by decide⟩ (fun r3 hw => ?_)
    refine i_callVp (rest := []) (ci := 7) (qc := (R_Pi, T_Pi, 8)) (n := 30) C 13 rfl rfl hl h rfl (wC_get (h := 2) (by decide)) (kV_Pw_313 ⟨by decide, by decide⟩) (m_Pi_fewestValves hw) rfl rfl (Nat.le_of_ble_eq_true rfl) ⟨by decide, by decide⟩ (fun r4 hw => ?_)
    refine i_goto (tgt := 34) C 14 rfl rfl ?_
    exact hret _ _ _ rfl hw (C.dg (k := 16) rfl)
end S145
theorem kV_Pw_316 {R : Room} {s : State} {args : Array Value} (hR : 2 + 1 ≤ R.frames ∧ 8 + (9 + 11) + 44 ≤ R.locals) (ht : ∀ w ∈ GW, w.before args s = true) : CallW R s args R_Pw R_Pi 316 y_Pi_joined c_Pi_joined 9 (some .int) (WL y_Pi_joined c_Pi_joined 9 (some .int)) { frames := 2, cells := 0, slots := 0, locals := 44 } 0 0 2 := cwV 2 ht (GW_v w_4_225 w_4_211 w_4_212 w_1_3 (GW_wl w_4_213)) rfl rfl rfl (by decide +kernel) hR
section S146
variable {p : Program} {l : Launch} {e : Env} {R : Room} {s : State} {m : MethodId} {args : Array Value} {below : List Frame} {meth : Method} {c : Code} {H : Heap} {locs : List Loc} {cells slots : Nat} {Q : State → Prop}
variable {cc : ByteArray} {pc n nL : Nat} {ls : Array Slot} {rest : List Value} {D : va_G} {cy : Nat → ClassId} {Z : Nat → Prop} {ad : Nat → Nat} {tb : List (Nat × Instr × Nat)} {lv : List (Nat × Value)}
set_option maxHeartbeats 4000000 in
set_option maxRecDepth 100000 in
theorem m_Pw_dry {l : Launch} {D : va_G} {cy : Nat → ClassId} {ad : Nat → Nat} {I : Nat → Int32} {A : Nat → Nat → Int32} {T : Nat → Option Nat} {L : List Nat} {K : Nat → Nat} {F : Nat → Nat → Int32} {a1 : Int32} {P : Int32 → Prop} (hw : g_Pw_dry I A T L K F a1 P) : ∀ sz, Met l y_Pw_dry (WL y_Pw_dry c_Pw_dry 4 (some .int)) { frames := 4, cells := 0, slots := 0, locals := 98 } (va_Pc [.ref (ad 0), .int a1] (PreW D cy (wC cy ad I A T L K F) sz)) (vp_Si P) 0 0 (fun _ => False) := by
  refine met_p R_Pw .int db_Pw_dry (by decide) rfl rfl (Nat.le_of_ble_eq_true rfl) ?_
  intro p e s m below meth c Z Q ls C h hl hret
  have hl : lv_has ls 4 [(0, .ref (ad 0)), (1, .int a1)] := hl
  refine i_aload_n (n := 1) C 0 rfl rfl rfl hl 0 rfl ?_
  refine fgC_Pw_10 (n := 4) C 1 rfl rfl h ?_
  refine i_iload_n (n := 5) C 2 rfl rfl rfl hl 1 rfl ?_
  refine i_callVp (rest := []) (ci := 5) (qc := (R_Ne, T_Ne, 17)) (n := 8) C 3 rfl rfl hl h rfl (wC_get (h := 1) (by decide)) (kV_Pw_77 ⟨by decide, by decide⟩) (m_Ne_has hw) rfl rfl (Nat.le_of_ble_eq_true rfl) ⟨by decide, by decide⟩ (fun r1 hw => ?_)
  refine i_if_ne (tgt := 13) (n := 11) C 4 rfl rfl rfl (fun c2 => ?_) (fun c2 => ?_)
  · replace hw := hw.1 c2
    refine i_aload_n (n := 14) C 7 rfl rfl rfl hl 0 rfl ?_
    refine fgC_Pw_10 (n := 17) C 8 rfl rfl h ?_
    refine i_aload_n (n := 18) C 9 rfl rfl rfl hl 0 rfl ?_
    refine fgC_Pw_184 (n := 21) C 10 rfl rfl h ?_
    refine i_callVp (rest := []) (ci := 5) (qc := (R_Ne, T_Ne, 17)) (n := 24) C 11 rfl rfl hl h rfl (wC_get (h := 1) (by decide)) (kV_Pw_310 ⟨by decide, by decide⟩) (m_Ne_sources hw) rfl rfl (Nat.le_of_ble_eq_true rfl) ⟨by decide, by decide⟩ (fun r3 hw => ?_)
    refine i_istore_n (lv' := [(2, .int r3), (0, .ref (ad 0)), (1, .int a1)]) (n := 25) C 12 rfl rfl rfl hl (by decide) rfl (fun ls hl => ?_)
    refine i_aload_n (n := 26) C 13 rfl rfl rfl hl 1 rfl ?_
    refine fgC_Pw_20 (n := 29) C 14 rfl rfl h ?_
    refine i_iload_n (n := 30) C 15 rfl rfl rfl hl 2 rfl ?_
    refine i_iload_n (n := 31) C 16 rfl rfl rfl hl 0 rfl ?_
    refine i_callVp (rest := []) (ci := 7) (qc := (R_Pi, T_Pi, 8)) (n := 34) C 17 rfl rfl hl h rfl (wC_get (h := 2) (by decide)) (kV_Pw_313 ⟨by decide, by decide⟩) (m_Pi_fewestValves hw) rfl rfl (Nat.le_of_ble_eq_true rfl) ⟨by decide, by decide⟩ (fun r4 hw => ?_)
    refine i_istore_n (lv' := [(3, .int r4), (2, .int r3), (0, .ref (ad 0)), (1, .int a1)]) (n := 35) C 18 rfl rfl rfl hl (by decide) rfl (fun ls hl => ?_)
    refine i_iload_n (n := 36) C 19 rfl rfl rfl hl 0 rfl ?_
    refine i_bipush (v := (-6 : Int32)) (n := 38) C 20 rfl rfl rfl ?_
    refine i_icmp_ne (tgt := 46) (n := 41) C 21 rfl rfl rfl (fun c5 => ?_) (fun c5 => ?_)
    · replace hw := hw.1 c5
      refine i_aload_n (n := 47) C 24 rfl rfl rfl hl 2 rfl ?_
      refine fgC_Pw_20 (n := 50) C 25 rfl rfl h ?_
      refine i_iload_n (n := 51) C 26 rfl rfl rfl hl 1 rfl ?_
      refine i_iconst (v := (0 : Int32)) (n := 52) C 27 rfl rfl rfl ?_
      refine i_callVp (rest := []) (ci := 7) (qc := (R_Pi, T_Pi, 8)) (n := 55) C 28 rfl rfl hl h rfl (wC_get (h := 2) (by decide)) (kV_Pw_316 ⟨by decide, by decide⟩) (m_Pi_joined hw) rfl rfl (Nat.le_of_ble_eq_true rfl) ⟨by decide, by decide⟩ (fun r6 hw => ?_)
      refine i_aload_n (n := 56) C 29 rfl rfl rfl hl 2 rfl ?_
      refine fgC_Pw_20 (n := 59) C 30 rfl rfl h ?_
      refine i_iload_n (n := 60) C 31 rfl rfl rfl hl 1 rfl ?_
      refine i_iload_n (n := 61) C 32 rfl rfl rfl hl 0 rfl ?_
      refine i_callVp (rest := [.int r6]) (ci := 7) (qc := (R_Pi, T_Pi, 8)) (n := 64) C 33 rfl rfl hl h rfl (wC_get (h := 2) (by decide)) (kV_Pw_316 ⟨by decide, by decide⟩) (m_Pi_joined hw) rfl rfl (Nat.le_of_ble_eq_true rfl) ⟨by decide, by decide⟩ (fun r7 hw => ?_)
      refine i_iconst (v := (-1 : Int32)) (n := 65) C 34 rfl rfl rfl ?_
      refine i_ixor (n := 66) C 35 rfl rfl ?_
      refine i_iand (n := 67) C 36 rfl rfl ?_
      exact hret _ _ _ rfl hw (C.dg (k := 37) rfl)
    · replace hw := hw.2 c5
      refine i_bipush (v := (-6 : Int32)) (n := 43) C 22 rfl rfl rfl ?_
      refine i_goto (tgt := 67) C 23 rfl rfl ?_
      exact hret _ _ _ rfl hw (C.dg (k := 37) rfl)
  · replace hw := hw.2 c2
    refine i_iconst (v := (-1 : Int32)) (n := 12) C 5 rfl rfl rfl ?_
    exact hret _ _ _ rfl hw (C.dg (k := 6) rfl)
end S146
section S147
variable {p : Program} {l : Launch} {e : Env} {R : Room} {s : State} {m : MethodId} {args : Array Value} {below : List Frame} {meth : Method} {c : Code} {H : Heap} {locs : List Loc} {cells slots : Nat} {Q : State → Prop}
variable {cc : ByteArray} {pc n nL : Nat} {ls : Array Slot} {rest : List Value} {D : va_G} {cy : Nat → ClassId} {Z : Nat → Prop} {ad : Nat → Nat} {tb : List (Nat × Instr × Nat)} {lv : List (Nat × Value)}
set_option maxHeartbeats 4000000 in
set_option maxRecDepth 100000 in
theorem m_Ne_keepHeads {l : Launch} {D : va_G} {cy : Nat → ClassId} {ad : Nat → Nat} {I : Nat → Int32} {A : Nat → Nat → Int32} {T : Nat → Option Nat} {L : List Nat} {K : Nat → Nat} {F : Nat → Nat → Int32}  {P : ((Nat → Nat → Int32)) → Prop} (hw : g_Ne_keepHeads A P) : ∀ sz, Met l y_Ne_keepHeads (WL y_Ne_keepHeads c_Ne_keepHeads 1 none) { frames := 1, cells := 0, slots := 0, locals := 40 } (va_Pc [.ref (ad 1)] (PreW D cy (wC cy ad I A T L K F) sz)) (va_Qv P (fun u t => PostW D (va_A (wC cy ad I A T L K F) sz) ((fun (u : (Nat → Nat → Int32)) => wC cy ad I u T L K F) u) t) (va_A (wC cy ad I A T L K F) sz)) 0 0 (va_A (wC cy ad I A T L K F) sz) := by
  refine met_v (wf := fun (u : (Nat → Nat → Int32)) => wC cy ad I u T L K F) R_Ne db_Ne_keepHeads (by decide) rfl (Nat.le_of_ble_eq_true rfl) ?_
  intro p e s m below meth c Z Q ls hin C h hl hret
  have hl : lv_has ls 1 [(0, .ref (ad 1))] := hl
  refine i_aload_n (n := 1) C 0 rfl rfl rfl hl 0 rfl ?_
  refine fgC_Ne_25 (n := 4) C 1 rfl rfl h ?_
  refine i_iconst (v := (0 : Int32)) (n := 5) C 2 rfl rfl rfl ?_
  refine i_aload_n (n := 6) C 3 rfl rfl rfl hl 0 rfl ?_
  refine fgC_Ne_38 (n := 9) C 4 rfl rfl h ?_
  refine i_iconst (v := (0 : Int32)) (n := 10) C 5 rfl rfl rfl ?_
  refine i_bipush (v := (12 : Int32)) (n := 12) C 6 rfl rfl rfl ?_
  refine i_acopy (n := 15) C 7 rfl rfl hl h w_3_198 (wC_arr 9 (by decide) rfl) (wC_arr 11 (by decide) rfl) (by decide) (by decide) (by decide) (by decide) (by decide) (by decide) (Nat.le_of_ble_eq_true rfl) (wC_setA 11 (by decide) rfl _) (fun H locs h => ?_)
  exact hret (va_up A 11 (va_cpy (A 9) (A 11) (0 : Int32).toNatClampNeg (0 : Int32).toNatClampNeg (12 : Int32).toNatClampNeg)) _ _ _ _ hw h (C.dg (k := 8) rfl)
end S147
section S148
variable {p : Program} {l : Launch} {e : Env} {R : Room} {s : State} {m : MethodId} {args : Array Value} {below : List Frame} {meth : Method} {c : Code} {H : Heap} {locs : List Loc} {cells slots : Nat} {Q : State → Prop}
variable {cc : ByteArray} {pc n nL : Nat} {ls : Array Slot} {rest : List Value} {D : va_G} {cy : Nat → ClassId} {Z : Nat → Prop} {ad : Nat → Nat} {tb : List (Nat × Instr × Nat)} {lv : List (Nat × Value)}
set_option maxHeartbeats 4000000 in
set_option maxRecDepth 100000 in
theorem e_Pw_misfitToKnown_4 {I : Nat → Int32} {A : Nat → Nat → Int32} {T : Nat → Option Nat} {L : List Nat} {K : Nat → Nat} {F : Nat → Nat → Int32}  {P : Int32 → Prop} {kx4 : Int32 → Prop} (C : CX D cy R_Pw c_Pw_misfitToKnown tb_Pw_misfitToKnown 3 p s m args c Z) (h : HXw D Z s.heap H locs (wC cy ad I A T L K F)) (hret : RetP p l e { frames := 1, cells := 0, slots := 0, locals := 21 } s m args below meth c c_Pw_misfitToKnown .int H locs Q P)
    (hx4 : ∀ (x1 : Int32) (ls : Array Slot), lv_has ls 3 [(1, .int x1)] → kx4 x1 → W p l e { frames := 1, cells := 0, slots := 0, locals := 21 } s m args below meth c H locs 0 0 Q (F0 m 42 ls [])) :
    ∀ (n : Nat) (x1 : Int32) (x2 : Int32) (ls : Array Slot), lv_has ls 3 [(0, .ref (ad 0)), (1, .int x1), (2, .int x2)] → g_Pw_misfitToKnown_4 I A P kx4 n x1 x2 → W p l e { frames := 1, cells := 0, slots := 0, locals := 21 } s m args below meth c H locs 0 0 Q (F0 m 4 ls []) := by
  intro n
  induction n with
  | zero => intro x1 x2 ls hl hw; exact hw.elim
  | succ n ih =>
    intro x1 x2 ls hl hw
    refine i_iload_n (n := 5) C 4 rfl rfl rfl hl 2 rfl ?_
    refine i_aload_n (n := 6) C 5 rfl rfl rfl hl 0 rfl ?_
    refine fgC_Pw_10 (n := 9) C 6 rfl rfl h ?_
    refine fgC_Pw_245 (n := 12) C 7 rfl rfl h ?_
    refine i_icmp_ge (tgt := 42) (n := 15) C 8 rfl rfl rfl (fun c1 => ?_) (fun c1 => ?_)
    · replace hw := hw.1 c1
      exact hx4 x1 ls (lv_sub hl [1] rfl) hw
    · replace hw := hw.2 c1
      refine i_iload_n (n := 16) C 9 rfl rfl rfl hl 1 rfl ?_
      refine i_aload_n (n := 17) C 10 rfl rfl rfl hl 0 rfl ?_
      refine fgC_Pw_10 (n := 20) C 11 rfl rfl h ?_
      refine i_iload_n (n := 21) C 12 rfl rfl rfl hl 2 rfl ?_
      refine i_callVp (rest := [.int x1]) (ci := 5) (qc := (R_Ne, T_Ne, 17)) (n := 24) C 13 rfl rfl hl h rfl (wC_get (h := 1) (by decide)) (kV_Pw_230 ⟨by decide, by decide⟩) (m_Ne_pressAt hw) rfl rfl (Nat.le_of_ble_eq_true rfl) ⟨by decide, by decide⟩ (fun r2 hw => ?_)
      refine i_aload_n (n := 25) C 14 rfl rfl rfl hl 0 rfl ?_
      refine fgC_Pw_54 (n := 28) C 15 rfl rfl h ?_
      refine i_iload_n (n := 29) C 16 rfl rfl rfl hl 2 rfl ?_
      obtain ⟨hb, hw⟩ := hw
      refine i_iald (n := 30) C 17 rfl rfl h (wC_arr 4 (by decide) rfl) hb ?_
      refine i_isub (n := 31) C 18 rfl rfl ?_
      refine i_mabs (n := 34) C 19 rfl rfl hl w_5_3 (by decide) (Nat.le_of_ble_eq_true rfl) (Nat.le_of_ble_eq_true rfl) (Nat.le_of_ble_eq_true rfl) ?_
      refine i_iadd (n := 35) C 20 rfl rfl ?_
      refine lv_topi (fun y3 ey3 => ?_)
      replace hw := hw y3 ey3
      refine i_istore_n (lv' := [(1, .int y3), (0, .ref (ad 0)), (2, .int x2)]) (n := 36) C 21 rfl rfl rfl hl (by decide) rfl (fun ls hl => ?_)
      refine i_iinc (v := x2 + (1 : Int32)) (lv' := [(2, .int (x2 + (1 : Int32))), (1, .int y3), (0, .ref (ad 0))]) (n := 39) C 22 rfl rfl hl 2 rfl rfl (by decide) rfl (fun ls hl => ?_)
      refine i_goto (tgt := 4) C 23 rfl rfl ?_
      exact ih y3 (x2 + (1 : Int32)) ls (lv_sub hl [2, 1, 0] rfl) hw
set_option maxHeartbeats 4000000 in
set_option maxRecDepth 100000 in
theorem m_Pw_misfitToKnown {l : Launch} {D : va_G} {cy : Nat → ClassId} {ad : Nat → Nat} {I : Nat → Int32} {A : Nat → Nat → Int32} {T : Nat → Option Nat} {L : List Nat} {K : Nat → Nat} {F : Nat → Nat → Int32}  {P : Int32 → Prop} (hw : g_Pw_misfitToKnown I A P) : ∀ sz, Met l y_Pw_misfitToKnown (WL y_Pw_misfitToKnown c_Pw_misfitToKnown 3 (some .int)) { frames := 1, cells := 0, slots := 0, locals := 21 } (va_Pc [.ref (ad 0)] (PreW D cy (wC cy ad I A T L K F) sz)) (vp_Si P) 0 0 (fun _ => False) := by
  refine met_p R_Pw .int db_Pw_misfitToKnown (by decide) rfl rfl (Nat.le_of_ble_eq_true rfl) ?_
  intro p e s m below meth c Z Q ls C h hl hret
  have hl : lv_has ls 3 [(0, .ref (ad 0))] := hl
  refine i_iconst (v := (0 : Int32)) (n := 1) C 0 rfl rfl rfl ?_
  refine i_istore_n (lv' := [(1, .int (0 : Int32)), (0, .ref (ad 0))]) (n := 2) C 1 rfl rfl rfl hl (by decide) rfl (fun ls hl => ?_)
  refine i_iconst (v := (0 : Int32)) (n := 3) C 2 rfl rfl rfl ?_
  refine i_istore_n (lv' := [(2, .int (0 : Int32)), (1, .int (0 : Int32)), (0, .ref (ad 0))]) (n := 4) C 3 rfl rfl rfl hl (by decide) rfl (fun ls hl => ?_)
  obtain ⟨n4, hw⟩ := hw
  refine e_Pw_misfitToKnown_4 C h hret (fun x1_4 ls hl hw => ?_) n4 (0 : Int32) (0 : Int32) ls (lv_sub hl [2, 1, 0] rfl) hw
  have hl : lv_has ls 3 [(1, .int x1_4)] := hl
  refine i_iload_n (n := 43) C 24 rfl rfl rfl hl 0 rfl ?_
  exact hret _ _ _ rfl hw (C.dg (k := 25) rfl)
end S148
theorem kV_Pw_381 {R : Room} {s : State} {args : Array Value} (hR : 4 + 1 ≤ R.frames ∧ 8 + (5 + 11) + 92 ≤ R.locals) (ht : ∀ w ∈ GW, w.before args s = true) : CallW R s args R_Pw R_Ne 381 y_Ne_runSweeps c_Ne_runSweeps 5 (some .int) (WL y_Ne_runSweeps c_Ne_runSweeps 5 (some .int)) { frames := 4, cells := 0, slots := 0, locals := 92 } 0 0 1 := cwV 1 ht (GW_v w_4_238 w_3_181 w_3_182 w_1_2 (GW_wl w_3_183)) rfl rfl rfl (by decide +kernel) hR
theorem kV_Pw_384 {R : Room} {s : State} {args : Array Value} (hR : 1 + 1 ≤ R.frames ∧ 8 + (3 + 11) + 21 ≤ R.locals) (ht : ∀ w ∈ GW, w.before args s = true) : CallW R s args R_Pw R_Pw 384 y_Pw_misfitToKnown c_Pw_misfitToKnown 3 (some .int) (WL y_Pw_misfitToKnown c_Pw_misfitToKnown 3 (some .int)) { frames := 1, cells := 0, slots := 0, locals := 21 } 0 0 0 := cwV 0 ht (GW_v w_4_239 w_5_1 w_0_20 w_1_1 (GW_wl w_5_2)) rfl rfl rfl (by decide +kernel) hR
section S149
variable {p : Program} {l : Launch} {e : Env} {R : Room} {s : State} {m : MethodId} {args : Array Value} {below : List Frame} {meth : Method} {c : Code} {H : Heap} {locs : List Loc} {cells slots : Nat} {Q : State → Prop}
variable {cc : ByteArray} {pc n nL : Nat} {ls : Array Slot} {rest : List Value} {D : va_G} {cy : Nat → ClassId} {Z : Nat → Prop} {ad : Nat → Nat} {tb : List (Nat × Instr × Nat)} {lv : List (Nat × Value)}
set_option maxHeartbeats 4000000 in
set_option maxRecDepth 100000 in
theorem e_Pw_tryBursts_75 {I : Nat → Int32} {L : List Nat} {K : Nat → Nat} {F : Nat → Nat → Int32} {q1 : Nat} {P : ((Nat → Nat → Int32) × (Nat → Option Nat)) → Prop} {kb2 : (Nat → Nat → Int32) → (Nat → Option Nat) → Int32 → Prop} (C : CX D cy R_Pw c_Pw_tryBursts tb_Pw_tryBursts 3 p s m args c Z) (hret : RetV p l e { frames := 5, cells := 0, slots := 0, locals := 116 } s m args below meth c c_Pw_tryBursts D Z Q (fun (u : (Nat → Nat → Int32) × (Nat → Option Nat)) => wC cy ad I u.1 u.2 L K F) P 0 0)
    (hb2 : ∀ (A : Nat → Nat → Int32) (T : Nat → Option Nat) (x2 : Int32) (ls : Array Slot) (H : Heap) (locs : List Loc), lv_has ls 3 [(0, .ref (ad 0)), (1, .ref q1), (2, .int x2)] → HXw D Z s.heap H locs (wC cy ad I A T L K F) → kb2 A T x2 → W p l e { frames := 5, cells := 0, slots := 0, locals := 116 } s m args below meth c H locs 0 0 Q (F0 m 2 ls [])) :
    ∀ (A : Nat → Nat → Int32) (T : Nat → Option Nat) (x2 : Int32) (ls : Array Slot) (H : Heap) (locs : List Loc), lv_has ls 3 [(0, .ref (ad 0)), (1, .ref q1), (2, .int x2)] → HXw D Z s.heap H locs (wC cy ad I A T L K F) → g_Pw_tryBursts_75 I L K F q1 P kb2 A T x2 → W p l e { frames := 5, cells := 0, slots := 0, locals := 116 } s m args below meth c H locs 0 0 Q (F0 m 75 ls []) := by
  intro A T x2 ls H locs hl h hw
  refine i_iinc (v := x2 + (1 : Int32)) (lv' := [(2, .int (x2 + (1 : Int32))), (0, .ref (ad 0)), (1, .ref q1)]) (n := 78) C 42 rfl rfl hl 2 rfl rfl (by decide) rfl (fun ls hl => ?_)
  refine i_goto (tgt := 2) C 43 rfl rfl ?_
  exact hb2 A T (x2 + (1 : Int32)) ls _ _ (lv_sub hl [1, 2, 0] rfl) h hw
set_option maxHeartbeats 4000000 in
set_option maxRecDepth 100000 in
theorem e_Pw_tryBursts_2 {I : Nat → Int32} {L : List Nat} {K : Nat → Nat} {F : Nat → Nat → Int32} {q1 : Nat} {P : ((Nat → Nat → Int32) × (Nat → Option Nat)) → Prop} {kx2 : (Nat → Nat → Int32) → (Nat → Option Nat) → Prop} (C : CX D cy R_Pw c_Pw_tryBursts tb_Pw_tryBursts 3 p s m args c Z) (hret : RetV p l e { frames := 5, cells := 0, slots := 0, locals := 116 } s m args below meth c c_Pw_tryBursts D Z Q (fun (u : (Nat → Nat → Int32) × (Nat → Option Nat)) => wC cy ad I u.1 u.2 L K F) P 0 0)
    (hx2 : ∀ (A : Nat → Nat → Int32) (T : Nat → Option Nat) (ls : Array Slot) (H : Heap) (locs : List Loc), lv_has ls 3 [] → HXw D Z s.heap H locs (wC cy ad I A T L K F) → kx2 A T → W p l e { frames := 5, cells := 0, slots := 0, locals := 116 } s m args below meth c H locs 0 0 Q (F0 m 81 ls [])) :
    ∀ (n : Nat) (A : Nat → Nat → Int32) (T : Nat → Option Nat) (x2 : Int32) (ls : Array Slot) (H : Heap) (locs : List Loc), lv_has ls 3 [(0, .ref (ad 0)), (1, .ref q1), (2, .int x2)] → HXw D Z s.heap H locs (wC cy ad I A T L K F) → g_Pw_tryBursts_2 I L K F q1 P kx2 n A T x2 → W p l e { frames := 5, cells := 0, slots := 0, locals := 116 } s m args below meth c H locs 0 0 Q (F0 m 2 ls []) := by
  intro n
  induction n with
  | zero => intro A T x2 ls H locs hl h hw; exact hw.elim
  | succ n ih =>
    intro A T x2 ls H locs hl h hw
    refine i_iload_n (n := 3) C 2 rfl rfl rfl hl 2 rfl ?_
    refine i_aload_n (n := 4) C 3 rfl rfl rfl hl 0 rfl ?_
    refine fgC_Pw_10 (n := 7) C 4 rfl rfl h ?_
    refine fgC_Pw_245 (n := 10) C 5 rfl rfl h ?_
    refine i_icmp_ge (tgt := 81) (n := 13) C 6 rfl rfl rfl (fun c1 => ?_) (fun c1 => ?_)
    · replace hw := hw.1 c1
      exact hx2 A T ls _ _ (lv_sub hl [] rfl) h hw
    · replace hw := hw.2 c1
      refine i_aload_n (n := 14) C 7 rfl rfl rfl hl 0 rfl ?_
      refine fgC_Pw_60 (n := 17) C 8 rfl rfl h ?_
      refine i_iload_n (n := 18) C 9 rfl rfl rfl hl 2 rfl ?_
      refine i_bipush (v := (-6 : Int32)) (n := 20) C 10 rfl rfl rfl ?_
      obtain ⟨hb, hw⟩ := hw
      refine i_iast (n := 21) C 11 rfl rfl h (wC_arr 6 (by decide) rfl) hb (wC_sA 6 (by decide) rfl _ _) (fun H locs h => ?_)
      refine i_aload_n (n := 22) C 12 rfl rfl rfl hl 0 rfl ?_
      refine fgC_Pw_10 (n := 25) C 13 rfl rfl h ?_
      refine fgC_Pw_168 (n := 28) C 14 rfl rfl h ?_
      refine i_iload_n (n := 29) C 15 rfl rfl rfl hl 2 rfl ?_
      obtain ⟨hb, hw⟩ := hw
      refine i_aldq (n := 30) C 16 rfl rfl h (wC_get (h := 5) (by decide)) hb (fun c3 => ?_) (fun q2 c3 => ?_)
      · replace hw := hw.1 c3
        refine i_ifnonnullN (n := 33) C 17 rfl rfl ?_
        refine i_aload_n (n := 34) C 18 rfl rfl rfl hl 0 rfl ?_
        refine fgC_Pw_10 (n := 37) C 19 rfl rfl h ?_
        refine fgC_Pw_168 (n := 40) C 20 rfl rfl h ?_
        refine i_iload_n (n := 41) C 21 rfl rfl rfl hl 2 rfl ?_
        refine i_aload_n (n := 42) C 22 rfl rfl rfl hl 1 rfl ?_
        obtain ⟨hb, hw⟩ := hw
        obtain ⟨hq, ht, hw⟩ := hw
        refine i_astT (n := 43) C 23 rfl rfl h hb hq ht (fun H locs h => ?_)
        refine i_aload_n (n := 44) C 24 rfl rfl rfl hl 0 rfl ?_
        refine fgC_Pw_10 (n := 47) C 25 rfl rfl h ?_
        refine i_aload_n (n := 48) C 26 rfl rfl rfl hl 0 rfl ?_
        refine fgC_Pw_184 (n := 51) C 27 rfl rfl h ?_
        refine i_callVi (rest := []) (ci := 5) (qc := (R_Ne, T_Ne, 17)) (n := 54) C 28 rfl rfl hl h rfl (wC_get (h := 1) (by decide)) (kV_Pw_381 ⟨by decide, by decide⟩) (m_Ne_runSweeps hw) rfl rfl (Nat.le_of_ble_eq_true rfl) ⟨by decide, by decide⟩ (fun r4 u5 H locs hw h => ?_)
        refine i_pop (n := 55) C 29 rfl rfl rfl ?_
        refine i_aload_n (n := 56) C 30 rfl rfl rfl hl 0 rfl ?_
        refine fgC_Pw_10 (n := 59) C 31 rfl rfl h ?_
        refine fgC_Pw_168 (n := 62) C 32 rfl rfl h ?_
        refine i_iload_n (n := 63) C 33 rfl rfl rfl hl 2 rfl ?_
        refine i_null (n := 64) C 34 rfl rfl ?_
        obtain ⟨hb, hw⟩ := hw
        refine i_astN (n := 65) C 35 rfl rfl h hb (fun H locs h => ?_)
        refine i_aload_n (n := 66) C 36 rfl rfl rfl hl 0 rfl ?_
        refine fgC_Pw_60 (n := 69) C 37 rfl rfl h ?_
        refine i_iload_n (n := 70) C 38 rfl rfl rfl hl 2 rfl ?_
        refine i_aload_n (n := 71) C 39 rfl rfl rfl hl 0 rfl ?_
        refine i_callVp (rest := [.int x2, .ref (ad 14)]) (ci := 10) (qc := (R_Pw, T_Pw, 16)) (n := 74) C 40 rfl rfl hl h rfl (wC_get (h := 0) (by decide)) (kV_Pw_384 ⟨by decide, by decide⟩) (m_Pw_misfitToKnown hw) rfl rfl (Nat.le_of_ble_eq_true rfl) ⟨by decide, by decide⟩ (fun r6 hw => ?_)
        obtain ⟨hb, hw⟩ := hw
        refine i_iast (n := 75) C 41 rfl rfl h (wC_arr 6 (by decide) rfl) hb (wC_sA 6 (by decide) rfl _ _) (fun H locs h => ?_)
        exact e_Pw_tryBursts_75 C hret ih (sA u5 6 x2 r6) (va_up (va_up T x2.toNatClampNeg (some q1)) x2.toNatClampNeg none) x2 ls _ _ hl h hw
      · replace hw := hw.2 q2 c3
        refine i_ifnonnull (tgt := 75) C 17 rfl rfl ?_
        exact e_Pw_tryBursts_75 C hret ih (sA A 6 x2 (-6 : Int32)) T x2 ls _ _ hl h hw
set_option maxHeartbeats 4000000 in
set_option maxRecDepth 100000 in
theorem m_Pw_tryBursts {l : Launch} {D : va_G} {cy : Nat → ClassId} {ad : Nat → Nat} {I : Nat → Int32} {A : Nat → Nat → Int32} {T : Nat → Option Nat} {L : List Nat} {K : Nat → Nat} {F : Nat → Nat → Int32} {q1 : Nat} {P : ((Nat → Nat → Int32) × (Nat → Option Nat)) → Prop} (hw : g_Pw_tryBursts I A T L K F q1 P) : ∀ sz, Met l y_Pw_tryBursts (WL y_Pw_tryBursts c_Pw_tryBursts 3 none) { frames := 5, cells := 0, slots := 0, locals := 116 } (va_Pc [.ref (ad 0), .ref q1] (PreW D cy (wC cy ad I A T L K F) sz)) (va_Qv P (fun u t => PostW D (va_A (wC cy ad I A T L K F) sz) ((fun (u : (Nat → Nat → Int32) × (Nat → Option Nat)) => wC cy ad I u.1 u.2 L K F) u) t) (va_A (wC cy ad I A T L K F) sz)) 0 0 (va_A (wC cy ad I A T L K F) sz) := by
  refine met_v (wf := fun (u : (Nat → Nat → Int32) × (Nat → Option Nat)) => wC cy ad I u.1 u.2 L K F) R_Pw db_Pw_tryBursts (by decide) rfl (Nat.le_of_ble_eq_true rfl) ?_
  intro p e s m below meth c Z Q ls hin C h hl hret
  have hl : lv_has ls 3 [(0, .ref (ad 0)), (1, .ref q1)] := hl
  refine i_iconst (v := (0 : Int32)) (n := 1) C 0 rfl rfl rfl ?_
  refine i_istore_n (lv' := [(2, .int (0 : Int32)), (0, .ref (ad 0)), (1, .ref q1)]) (n := 2) C 1 rfl rfl rfl hl (by decide) rfl (fun ls hl => ?_)
  obtain ⟨n7, hw⟩ := hw
  refine e_Pw_tryBursts_2 C hret (fun A_7 T_7 ls H locs hl h hw => ?_) n7 A T (0 : Int32) ls _ _ (lv_sub hl [1, 2, 0] rfl) h hw
  have hl : lv_has ls 3 [] := hl
  exact hret (A_7, T_7) _ _ _ _ hw h (C.dg (k := 44) rfl)
end S149
section S150
variable {p : Program} {l : Launch} {e : Env} {R : Room} {s : State} {m : MethodId} {args : Array Value} {below : List Frame} {meth : Method} {c : Code} {H : Heap} {locs : List Loc} {cells slots : Nat} {Q : State → Prop}
variable {cc : ByteArray} {pc n nL : Nat} {ls : Array Slot} {rest : List Value} {D : va_G} {cy : Nat → ClassId} {Z : Nat → Prop} {ad : Nat → Nat} {tb : List (Nat × Instr × Nat)} {lv : List (Nat × Value)}
set_option maxHeartbeats 4000000 in
set_option maxRecDepth 100000 in
theorem m_Ne_takeBackHeads {l : Launch} {D : va_G} {cy : Nat → ClassId} {ad : Nat → Nat} {I : Nat → Int32} {A : Nat → Nat → Int32} {T : Nat → Option Nat} {L : List Nat} {K : Nat → Nat} {F : Nat → Nat → Int32}  {P : ((Nat → Nat → Int32)) → Prop} (hw : g_Ne_takeBackHeads A P) : ∀ sz, Met l y_Ne_takeBackHeads (WL y_Ne_takeBackHeads c_Ne_takeBackHeads 1 none) { frames := 1, cells := 0, slots := 0, locals := 40 } (va_Pc [.ref (ad 1)] (PreW D cy (wC cy ad I A T L K F) sz)) (va_Qv P (fun u t => PostW D (va_A (wC cy ad I A T L K F) sz) ((fun (u : (Nat → Nat → Int32)) => wC cy ad I u T L K F) u) t) (va_A (wC cy ad I A T L K F) sz)) 0 0 (va_A (wC cy ad I A T L K F) sz) := by
  refine met_v (wf := fun (u : (Nat → Nat → Int32)) => wC cy ad I u T L K F) R_Ne db_Ne_takeBackHeads (by decide) rfl (Nat.le_of_ble_eq_true rfl) ?_
  intro p e s m below meth c Z Q ls hin C h hl hret
  have hl : lv_has ls 1 [(0, .ref (ad 1))] := hl
  refine i_aload_n (n := 1) C 0 rfl rfl rfl hl 0 rfl ?_
  refine fgC_Ne_38 (n := 4) C 1 rfl rfl h ?_
  refine i_iconst (v := (0 : Int32)) (n := 5) C 2 rfl rfl rfl ?_
  refine i_aload_n (n := 6) C 3 rfl rfl rfl hl 0 rfl ?_
  refine fgC_Ne_25 (n := 9) C 4 rfl rfl h ?_
  refine i_iconst (v := (0 : Int32)) (n := 10) C 5 rfl rfl rfl ?_
  refine i_bipush (v := (12 : Int32)) (n := 12) C 6 rfl rfl rfl ?_
  refine i_acopy (n := 15) C 7 rfl rfl hl h w_3_198 (wC_arr 11 (by decide) rfl) (wC_arr 9 (by decide) rfl) (by decide) (by decide) (by decide) (by decide) (by decide) (by decide) (Nat.le_of_ble_eq_true rfl) (wC_setA 9 (by decide) rfl _) (fun H locs h => ?_)
  exact hret (va_up A 9 (va_cpy (A 11) (A 9) (0 : Int32).toNatClampNeg (0 : Int32).toNatClampNeg (12 : Int32).toNatClampNeg)) _ _ _ _ hw h (C.dg (k := 8) rfl)
end S150
section S151
variable {p : Program} {l : Launch} {e : Env} {R : Room} {s : State} {m : MethodId} {args : Array Value} {below : List Frame} {meth : Method} {c : Code} {H : Heap} {locs : List Loc} {cells slots : Nat} {Q : State → Prop}
variable {cc : ByteArray} {pc n nL : Nat} {ls : Array Slot} {rest : List Value} {D : va_G} {cy : Nat → ClassId} {Z : Nat → Prop} {ad : Nat → Nat} {tb : List (Nat × Instr × Nat)} {lv : List (Nat × Value)}
set_option maxHeartbeats 4000000 in
set_option maxRecDepth 100000 in
theorem e_Pw_rivalsAheadOf_76 {I : Nat → Int32} {A : Nat → Nat → Int32} {T : Nat → Option Nat} {L : List Nat} {K : Nat → Nat} {F : Nat → Nat → Int32} {a1 : Int32} {P : Int32 → Prop} {kb4 : Int32 → Int32 → Prop} (C : CX D cy R_Pw c_Pw_rivalsAheadOf tb_Pw_rivalsAheadOf 5 p s m args c Z) (h : HXw D Z s.heap H locs (wC cy ad I A T L K F)) (hret : RetP p l e { frames := 0, cells := 0, slots := 0, locals := 0 } s m args below meth c c_Pw_rivalsAheadOf .int H locs Q P)
    (hb4 : ∀ (x2 : Int32) (x3 : Int32) (ls : Array Slot), lv_has ls 5 [(0, .ref (ad 0)), (1, .int a1), (2, .int x2), (3, .int x3)] → kb4 x2 x3 → W p l e { frames := 0, cells := 0, slots := 0, locals := 0 } s m args below meth c H locs 0 0 Q (F0 m 4 ls [])) :
    ∀ (x2 : Int32) (x3 : Int32) (ls : Array Slot), lv_has ls 5 [(0, .ref (ad 0)), (1, .int a1), (2, .int x2), (3, .int x3)] → g_Pw_rivalsAheadOf_76 I A a1 P kb4 x2 x3 → W p l e { frames := 0, cells := 0, slots := 0, locals := 0 } s m args below meth c H locs 0 0 Q (F0 m 76 ls []) := by
  intro x2 x3 ls hl hw
  refine i_iinc (v := x3 + (1 : Int32)) (lv' := [(3, .int (x3 + (1 : Int32))), (0, .ref (ad 0)), (1, .int a1), (2, .int x2)]) (n := 79) C 43 rfl rfl hl 3 rfl rfl (by decide) rfl (fun ls hl => ?_)
  refine i_goto (tgt := 4) C 44 rfl rfl ?_
  exact hb4 x2 (x3 + (1 : Int32)) ls (lv_sub hl [1, 2, 3, 0] rfl) hw
set_option maxHeartbeats 4000000 in
set_option maxRecDepth 100000 in
theorem e_Pw_rivalsAheadOf_55 {I : Nat → Int32} {A : Nat → Nat → Int32} {T : Nat → Option Nat} {L : List Nat} {K : Nat → Nat} {F : Nat → Nat → Int32} {a1 : Int32} {P : Int32 → Prop} {kb4 : Int32 → Int32 → Prop} (C : CX D cy R_Pw c_Pw_rivalsAheadOf tb_Pw_rivalsAheadOf 5 p s m args c Z) (h : HXw D Z s.heap H locs (wC cy ad I A T L K F)) (hret : RetP p l e { frames := 0, cells := 0, slots := 0, locals := 0 } s m args below meth c c_Pw_rivalsAheadOf .int H locs Q P)
    (hb4 : ∀ (x2 : Int32) (x3 : Int32) (ls : Array Slot), lv_has ls 5 [(0, .ref (ad 0)), (1, .int a1), (2, .int x2), (3, .int x3)] → kb4 x2 x3 → W p l e { frames := 0, cells := 0, slots := 0, locals := 0 } s m args below meth c H locs 0 0 Q (F0 m 4 ls [])) :
    ∀ (x2 : Int32) (x3 : Int32) (s0 : Int32) (ls : Array Slot), lv_has ls 5 [(0, .ref (ad 0)), (1, .int a1), (2, .int x2), (3, .int x3)] → g_Pw_rivalsAheadOf_55 I A a1 P kb4 x2 x3 s0 → W p l e { frames := 0, cells := 0, slots := 0, locals := 0 } s m args below meth c H locs 0 0 Q (F0 m 55 ls [.int s0]) := by
  intro x2 x3 s0 ls hl hw
  refine i_istore (lv' := [(4, .int s0), (0, .ref (ad 0)), (1, .int a1), (2, .int x2), (3, .int x3)]) (n := 57) C 33 rfl rfl hl (by decide) rfl (fun ls hl => ?_)
  refine i_aload_n (n := 58) C 34 rfl rfl rfl hl 1 rfl ?_
  refine fgC_Pw_60 (n := 61) C 35 rfl rfl h ?_
  refine i_iload_n (n := 62) C 36 rfl rfl rfl hl 4 rfl ?_
  obtain ⟨hb, hw⟩ := hw
  refine i_iald (n := 63) C 37 rfl rfl h (wC_arr 6 (by decide) rfl) hb ?_
  refine i_bipush (v := (-6 : Int32)) (n := 65) C 38 rfl rfl rfl ?_
  refine i_icmp_eq (tgt := 76) (n := 68) C 39 rfl rfl rfl (fun c3 => ?_) (fun c3 => ?_)
  · replace hw := hw.1 c3
    exact e_Pw_rivalsAheadOf_76 C h hret hb4 x2 x3 ls (lv_sub hl [1, 2, 3, 4] rfl) hw
  · replace hw := hw.2 c3
    refine i_iload (n := 70) C 40 rfl rfl hl 0 rfl ?_
    refine i_if_eq (tgt := 76) (n := 73) C 41 rfl rfl rfl (fun c4 => ?_) (fun c4 => ?_)
    · replace hw := hw.1 c4
      exact e_Pw_rivalsAheadOf_76 C h hret hb4 x2 x3 ls (lv_sub hl [1, 2, 3, 4] rfl) hw
    · replace hw := hw.2 c4
      refine i_iinc (v := x2 + (1 : Int32)) (lv' := [(2, .int (x2 + (1 : Int32))), (4, .int s0), (0, .ref (ad 0)), (1, .int a1), (3, .int x3)]) (n := 76) C 42 rfl rfl hl 3 rfl rfl (by decide) rfl (fun ls hl => ?_)
      exact e_Pw_rivalsAheadOf_76 C h hret hb4 (x2 + (1 : Int32)) x3 ls (lv_sub hl [2, 3, 0, 4] rfl) hw
set_option maxHeartbeats 4000000 in
set_option maxRecDepth 100000 in
theorem e_Pw_rivalsAheadOf_50 {I : Nat → Int32} {A : Nat → Nat → Int32} {T : Nat → Option Nat} {L : List Nat} {K : Nat → Nat} {F : Nat → Nat → Int32} {a1 : Int32} {P : Int32 → Prop} {kb4 : Int32 → Int32 → Prop} (C : CX D cy R_Pw c_Pw_rivalsAheadOf tb_Pw_rivalsAheadOf 5 p s m args c Z) (h : HXw D Z s.heap H locs (wC cy ad I A T L K F)) (hret : RetP p l e { frames := 0, cells := 0, slots := 0, locals := 0 } s m args below meth c c_Pw_rivalsAheadOf .int H locs Q P)
    (hb4 : ∀ (x2 : Int32) (x3 : Int32) (ls : Array Slot), lv_has ls 5 [(0, .ref (ad 0)), (1, .int a1), (2, .int x2), (3, .int x3)] → kb4 x2 x3 → W p l e { frames := 0, cells := 0, slots := 0, locals := 0 } s m args below meth c H locs 0 0 Q (F0 m 4 ls [])) :
    ∀ (x2 : Int32) (x3 : Int32) (ls : Array Slot), lv_has ls 5 [(0, .ref (ad 0)), (1, .int a1), (2, .int x2), (3, .int x3)] → g_Pw_rivalsAheadOf_50 I A a1 P kb4 x2 x3 → W p l e { frames := 0, cells := 0, slots := 0, locals := 0 } s m args below meth c H locs 0 0 Q (F0 m 50 ls []) := by
  intro x2 x3 ls hl hw
  refine i_iconst (v := (1 : Int32)) (n := 51) C 30 rfl rfl rfl ?_
  refine i_goto (tgt := 55) C 31 rfl rfl ?_
  exact e_Pw_rivalsAheadOf_55 C h hret hb4 x2 x3 (1 : Int32) ls hl hw
set_option maxHeartbeats 4000000 in
set_option maxRecDepth 100000 in
theorem e_Pw_rivalsAheadOf_54 {I : Nat → Int32} {A : Nat → Nat → Int32} {T : Nat → Option Nat} {L : List Nat} {K : Nat → Nat} {F : Nat → Nat → Int32} {a1 : Int32} {P : Int32 → Prop} {kb4 : Int32 → Int32 → Prop} (C : CX D cy R_Pw c_Pw_rivalsAheadOf tb_Pw_rivalsAheadOf 5 p s m args c Z) (h : HXw D Z s.heap H locs (wC cy ad I A T L K F)) (hret : RetP p l e { frames := 0, cells := 0, slots := 0, locals := 0 } s m args below meth c c_Pw_rivalsAheadOf .int H locs Q P)
    (hb4 : ∀ (x2 : Int32) (x3 : Int32) (ls : Array Slot), lv_has ls 5 [(0, .ref (ad 0)), (1, .int a1), (2, .int x2), (3, .int x3)] → kb4 x2 x3 → W p l e { frames := 0, cells := 0, slots := 0, locals := 0 } s m args below meth c H locs 0 0 Q (F0 m 4 ls [])) :
    ∀ (x2 : Int32) (x3 : Int32) (ls : Array Slot), lv_has ls 5 [(0, .ref (ad 0)), (1, .int a1), (2, .int x2), (3, .int x3)] → g_Pw_rivalsAheadOf_54 I A a1 P kb4 x2 x3 → W p l e { frames := 0, cells := 0, slots := 0, locals := 0 } s m args below meth c H locs 0 0 Q (F0 m 54 ls []) := by
  intro x2 x3 ls hl hw
  refine i_iconst (v := (0 : Int32)) (n := 55) C 32 rfl rfl rfl ?_
  exact e_Pw_rivalsAheadOf_55 C h hret hb4 x2 x3 (0 : Int32) ls hl hw
set_option maxHeartbeats 4000000 in
set_option maxRecDepth 100000 in
theorem e_Pw_rivalsAheadOf_4 {I : Nat → Int32} {A : Nat → Nat → Int32} {T : Nat → Option Nat} {L : List Nat} {K : Nat → Nat} {F : Nat → Nat → Int32} {a1 : Int32} {P : Int32 → Prop} {kx4 : Int32 → Prop} (C : CX D cy R_Pw c_Pw_rivalsAheadOf tb_Pw_rivalsAheadOf 5 p s m args c Z) (h : HXw D Z s.heap H locs (wC cy ad I A T L K F)) (hret : RetP p l e { frames := 0, cells := 0, slots := 0, locals := 0 } s m args below meth c c_Pw_rivalsAheadOf .int H locs Q P)
    (hx4 : ∀ (x2 : Int32) (ls : Array Slot), lv_has ls 5 [(2, .int x2)] → kx4 x2 → W p l e { frames := 0, cells := 0, slots := 0, locals := 0 } s m args below meth c H locs 0 0 Q (F0 m 82 ls [])) :
    ∀ (n : Nat) (x2 : Int32) (x3 : Int32) (ls : Array Slot), lv_has ls 5 [(0, .ref (ad 0)), (1, .int a1), (2, .int x2), (3, .int x3)] → g_Pw_rivalsAheadOf_4 I A a1 P kx4 n x2 x3 → W p l e { frames := 0, cells := 0, slots := 0, locals := 0 } s m args below meth c H locs 0 0 Q (F0 m 4 ls []) := by
  intro n
  induction n with
  | zero => intro x2 x3 ls hl hw; exact hw.elim
  | succ n ih =>
    intro x2 x3 ls hl hw
    refine i_iload_n (n := 5) C 4 rfl rfl rfl hl 3 rfl ?_
    refine i_aload_n (n := 6) C 5 rfl rfl rfl hl 0 rfl ?_
    refine fgC_Pw_10 (n := 9) C 6 rfl rfl h ?_
    refine fgC_Pw_245 (n := 12) C 7 rfl rfl h ?_
    refine i_icmp_ge (tgt := 82) (n := 15) C 8 rfl rfl rfl (fun c1 => ?_) (fun c1 => ?_)
    · replace hw := hw.1 c1
      exact hx4 x2 ls (lv_sub hl [2] rfl) hw
    · replace hw := hw.2 c1
      refine i_aload_n (n := 16) C 9 rfl rfl rfl hl 0 rfl ?_
      refine fgC_Pw_60 (n := 19) C 10 rfl rfl h ?_
      refine i_iload_n (n := 20) C 11 rfl rfl rfl hl 3 rfl ?_
      obtain ⟨hb, hw⟩ := hw
      refine i_iald (n := 21) C 12 rfl rfl h (wC_arr 6 (by decide) rfl) hb ?_
      refine i_aload_n (n := 22) C 13 rfl rfl rfl hl 0 rfl ?_
      refine fgC_Pw_60 (n := 25) C 14 rfl rfl h ?_
      refine i_iload_n (n := 26) C 15 rfl rfl rfl hl 1 rfl ?_
      obtain ⟨hb, hw⟩ := hw
      refine i_iald (n := 27) C 16 rfl rfl h (wC_arr 6 (by decide) rfl) hb ?_
      refine i_icmp_lt (tgt := 50) (n := 30) C 17 rfl rfl rfl (fun c2 => ?_) (fun c2 => ?_)
      · replace hw := hw.1 c2
        exact e_Pw_rivalsAheadOf_50 C h hret ih x2 x3 ls hl hw
      · replace hw := hw.2 c2
        refine i_aload_n (n := 31) C 18 rfl rfl rfl hl 0 rfl ?_
        refine fgC_Pw_60 (n := 34) C 19 rfl rfl h ?_
        refine i_iload_n (n := 35) C 20 rfl rfl rfl hl 3 rfl ?_
        obtain ⟨hb, hw⟩ := hw
        refine i_iald (n := 36) C 21 rfl rfl h (wC_arr 6 (by decide) rfl) hb ?_
        refine i_aload_n (n := 37) C 22 rfl rfl rfl hl 0 rfl ?_
        refine fgC_Pw_60 (n := 40) C 23 rfl rfl h ?_
        refine i_iload_n (n := 41) C 24 rfl rfl rfl hl 1 rfl ?_
        obtain ⟨hb, hw⟩ := hw
        refine i_iald (n := 42) C 25 rfl rfl h (wC_arr 6 (by decide) rfl) hb ?_
        refine i_icmp_ne (tgt := 54) (n := 45) C 26 rfl rfl rfl (fun c5 => ?_) (fun c5 => ?_)
        · replace hw := hw.1 c5
          exact e_Pw_rivalsAheadOf_54 C h hret ih x2 x3 ls hl hw
        · replace hw := hw.2 c5
          refine i_iload_n (n := 46) C 27 rfl rfl rfl hl 3 rfl ?_
          refine i_iload_n (n := 47) C 28 rfl rfl rfl hl 1 rfl ?_
          refine i_icmp_ge (tgt := 54) (n := 50) C 29 rfl rfl rfl (fun c6 => ?_) (fun c6 => ?_)
          · replace hw := hw.1 c6
            exact e_Pw_rivalsAheadOf_54 C h hret ih x2 x3 ls hl hw
          · replace hw := hw.2 c6
            exact e_Pw_rivalsAheadOf_50 C h hret ih x2 x3 ls hl hw
set_option maxHeartbeats 4000000 in
set_option maxRecDepth 100000 in
theorem m_Pw_rivalsAheadOf {l : Launch} {D : va_G} {cy : Nat → ClassId} {ad : Nat → Nat} {I : Nat → Int32} {A : Nat → Nat → Int32} {T : Nat → Option Nat} {L : List Nat} {K : Nat → Nat} {F : Nat → Nat → Int32} {a1 : Int32} {P : Int32 → Prop} (hw : g_Pw_rivalsAheadOf I A a1 P) : ∀ sz, Met l y_Pw_rivalsAheadOf (WL y_Pw_rivalsAheadOf c_Pw_rivalsAheadOf 5 (some .int)) { frames := 0, cells := 0, slots := 0, locals := 0 } (va_Pc [.ref (ad 0), .int a1] (PreW D cy (wC cy ad I A T L K F) sz)) (vp_Si P) 0 0 (fun _ => False) := by
  refine met_p R_Pw .int db_Pw_rivalsAheadOf (by decide) rfl rfl (Nat.le_of_ble_eq_true rfl) ?_
  intro p e s m below meth c Z Q ls C h hl hret
  have hl : lv_has ls 5 [(0, .ref (ad 0)), (1, .int a1)] := hl
  refine i_iconst (v := (0 : Int32)) (n := 1) C 0 rfl rfl rfl ?_
  refine i_istore_n (lv' := [(2, .int (0 : Int32)), (0, .ref (ad 0)), (1, .int a1)]) (n := 2) C 1 rfl rfl rfl hl (by decide) rfl (fun ls hl => ?_)
  refine i_iconst (v := (0 : Int32)) (n := 3) C 2 rfl rfl rfl ?_
  refine i_istore_n (lv' := [(3, .int (0 : Int32)), (2, .int (0 : Int32)), (0, .ref (ad 0)), (1, .int a1)]) (n := 4) C 3 rfl rfl rfl hl (by decide) rfl (fun ls hl => ?_)
  obtain ⟨n7, hw⟩ := hw
  refine e_Pw_rivalsAheadOf_4 C h hret (fun x2_7 ls hl hw => ?_) n7 (0 : Int32) (0 : Int32) ls (lv_sub hl [2, 3, 1, 0] rfl) hw
  have hl : lv_has ls 5 [(2, .int x2_7)] := hl
  refine i_iload_n (n := 83) C 45 rfl rfl rfl hl 0 rfl ?_
  exact hret _ _ _ rfl hw (C.dg (k := 46) rfl)
end S151
theorem kV_Pw_392 {R : Room} {s : State} {args : Array Value} (hR : 0 + 1 ≤ R.frames ∧ 8 + (5 + 11) + 0 ≤ R.locals) (ht : ∀ w ∈ GW, w.before args s = true) : CallW R s args R_Pw R_Pw 392 y_Pw_rivalsAheadOf c_Pw_rivalsAheadOf 5 (some .int) (WL y_Pw_rivalsAheadOf c_Pw_rivalsAheadOf 5 (some .int)) { frames := 0, cells := 0, slots := 0, locals := 0 } 0 0 1 := cwV 1 ht (GW_v w_5_12 w_5_14 w_0_22 w_1_1 (GW_wl w_5_15)) rfl rfl rfl (by decide +kernel) hR
section S152
variable {p : Program} {l : Launch} {e : Env} {R : Room} {s : State} {m : MethodId} {args : Array Value} {below : List Frame} {meth : Method} {c : Code} {H : Heap} {locs : List Loc} {cells slots : Nat} {Q : State → Prop}
variable {cc : ByteArray} {pc n nL : Nat} {ls : Array Slot} {rest : List Value} {D : va_G} {cy : Nat → ClassId} {Z : Nat → Prop} {ad : Nat → Nat} {tb : List (Nat × Instr × Nat)} {lv : List (Nat × Value)}
set_option maxHeartbeats 4000000 in
set_option maxRecDepth 100000 in
theorem e_Pw_rivalAt_35 {I : Nat → Int32} {A : Nat → Nat → Int32} {T : Nat → Option Nat} {L : List Nat} {K : Nat → Nat} {F : Nat → Nat → Int32} {a1 : Int32} {P : Int32 → Prop} {kb2 : Int32 → Prop} (C : CX D cy R_Pw c_Pw_rivalAt tb_Pw_rivalAt 3 p s m args c Z) (h : HXw D Z s.heap H locs (wC cy ad I A T L K F)) (hret : RetP p l e { frames := 1, cells := 0, slots := 0, locals := 24 } s m args below meth c c_Pw_rivalAt .int H locs Q P)
    (hb2 : ∀ (x2 : Int32) (ls : Array Slot), lv_has ls 3 [(0, .ref (ad 0)), (1, .int a1), (2, .int x2)] → kb2 x2 → W p l e { frames := 1, cells := 0, slots := 0, locals := 24 } s m args below meth c H locs 0 0 Q (F0 m 2 ls [])) :
    ∀ (x2 : Int32) (ls : Array Slot), lv_has ls 3 [(0, .ref (ad 0)), (1, .int a1), (2, .int x2)] → g_Pw_rivalAt_35 I A a1 P kb2 x2 → W p l e { frames := 1, cells := 0, slots := 0, locals := 24 } s m args below meth c H locs 0 0 Q (F0 m 35 ls []) := by
  intro x2 ls hl hw
  refine i_iinc (v := x2 + (1 : Int32)) (lv' := [(2, .int (x2 + (1 : Int32))), (0, .ref (ad 0)), (1, .int a1)]) (n := 38) C 20 rfl rfl hl 2 rfl rfl (by decide) rfl (fun ls hl => ?_)
  refine i_goto (tgt := 2) C 21 rfl rfl ?_
  exact hb2 (x2 + (1 : Int32)) ls (lv_sub hl [1, 2, 0] rfl) hw
set_option maxHeartbeats 4000000 in
set_option maxRecDepth 100000 in
theorem e_Pw_rivalAt_2 {I : Nat → Int32} {A : Nat → Nat → Int32} {T : Nat → Option Nat} {L : List Nat} {K : Nat → Nat} {F : Nat → Nat → Int32} {a1 : Int32} {P : Int32 → Prop} {kx2 : Prop} (C : CX D cy R_Pw c_Pw_rivalAt tb_Pw_rivalAt 3 p s m args c Z) (h : HXw D Z s.heap H locs (wC cy ad I A T L K F)) (hret : RetP p l e { frames := 1, cells := 0, slots := 0, locals := 24 } s m args below meth c c_Pw_rivalAt .int H locs Q P)
    (hx2 : ∀ (ls : Array Slot), lv_has ls 3 [] → kx2  → W p l e { frames := 1, cells := 0, slots := 0, locals := 24 } s m args below meth c H locs 0 0 Q (F0 m 41 ls [])) :
    ∀ (n : Nat) (x2 : Int32) (ls : Array Slot), lv_has ls 3 [(0, .ref (ad 0)), (1, .int a1), (2, .int x2)] → g_Pw_rivalAt_2 I A a1 P kx2 n x2 → W p l e { frames := 1, cells := 0, slots := 0, locals := 24 } s m args below meth c H locs 0 0 Q (F0 m 2 ls []) := by
  intro n
  induction n with
  | zero => intro x2 ls hl hw; exact hw.elim
  | succ n ih =>
    intro x2 ls hl hw
    refine i_iload_n (n := 3) C 2 rfl rfl rfl hl 2 rfl ?_
    refine i_aload_n (n := 4) C 3 rfl rfl rfl hl 0 rfl ?_
    refine fgC_Pw_10 (n := 7) C 4 rfl rfl h ?_
    refine fgC_Pw_245 (n := 10) C 5 rfl rfl h ?_
    refine i_icmp_ge (tgt := 41) (n := 13) C 6 rfl rfl rfl (fun c1 => ?_) (fun c1 => ?_)
    · replace hw := hw.1 c1
      exact hx2  ls (lv_sub hl [] rfl) hw
    · replace hw := hw.2 c1
      refine i_aload_n (n := 14) C 7 rfl rfl rfl hl 0 rfl ?_
      refine fgC_Pw_60 (n := 17) C 8 rfl rfl h ?_
      refine i_iload_n (n := 18) C 9 rfl rfl rfl hl 2 rfl ?_
      obtain ⟨hb, hw⟩ := hw
      refine i_iald (n := 19) C 10 rfl rfl h (wC_arr 6 (by decide) rfl) hb ?_
      refine i_bipush (v := (-6 : Int32)) (n := 21) C 11 rfl rfl rfl ?_
      refine i_icmp_eq (tgt := 35) (n := 24) C 12 rfl rfl rfl (fun c2 => ?_) (fun c2 => ?_)
      · replace hw := hw.1 c2
        exact e_Pw_rivalAt_35 C h hret ih x2 ls hl hw
      · replace hw := hw.2 c2
        refine i_aload_n (n := 25) C 13 rfl rfl rfl hl 0 rfl ?_
        refine i_iload_n (n := 26) C 14 rfl rfl rfl hl 2 rfl ?_
        refine i_callVp (rest := []) (ci := 10) (qc := (R_Pw, T_Pw, 16)) (n := 29) C 15 rfl rfl hl h rfl (wC_get (h := 0) (by decide)) (kV_Pw_392 ⟨by decide, by decide⟩) (m_Pw_rivalsAheadOf hw) rfl rfl (Nat.le_of_ble_eq_true rfl) ⟨by decide, by decide⟩ (fun r3 hw => ?_)
        refine i_iload_n (n := 30) C 16 rfl rfl rfl hl 1 rfl ?_
        refine i_icmp_ne (tgt := 35) (n := 33) C 17 rfl rfl rfl (fun c4 => ?_) (fun c4 => ?_)
        · replace hw := hw.1 c4
          exact e_Pw_rivalAt_35 C h hret ih x2 ls hl hw
        · replace hw := hw.2 c4
          refine i_iload_n (n := 34) C 18 rfl rfl rfl hl 2 rfl ?_
          exact hret _ _ _ rfl hw (C.dg (k := 19) rfl)
set_option maxHeartbeats 4000000 in
set_option maxRecDepth 100000 in
theorem m_Pw_rivalAt {l : Launch} {D : va_G} {cy : Nat → ClassId} {ad : Nat → Nat} {I : Nat → Int32} {A : Nat → Nat → Int32} {T : Nat → Option Nat} {L : List Nat} {K : Nat → Nat} {F : Nat → Nat → Int32} {a1 : Int32} {P : Int32 → Prop} (hw : g_Pw_rivalAt I A a1 P) : ∀ sz, Met l y_Pw_rivalAt (WL y_Pw_rivalAt c_Pw_rivalAt 3 (some .int)) { frames := 1, cells := 0, slots := 0, locals := 24 } (va_Pc [.ref (ad 0), .int a1] (PreW D cy (wC cy ad I A T L K F) sz)) (vp_Si P) 0 0 (fun _ => False) := by
  refine met_p R_Pw .int db_Pw_rivalAt (by decide) rfl rfl (Nat.le_of_ble_eq_true rfl) ?_
  intro p e s m below meth c Z Q ls C h hl hret
  have hl : lv_has ls 3 [(0, .ref (ad 0)), (1, .int a1)] := hl
  refine i_iconst (v := (0 : Int32)) (n := 1) C 0 rfl rfl rfl ?_
  refine i_istore_n (lv' := [(2, .int (0 : Int32)), (0, .ref (ad 0)), (1, .int a1)]) (n := 2) C 1 rfl rfl rfl hl (by decide) rfl (fun ls hl => ?_)
  obtain ⟨n5, hw⟩ := hw
  refine e_Pw_rivalAt_2 C h hret (fun  ls hl hw => ?_) n5 (0 : Int32) ls (lv_sub hl [1, 2, 0] rfl) hw
  have hl : lv_has ls 3 [] := hl
  refine i_bipush (v := (-6 : Int32)) (n := 43) C 22 rfl rfl rfl ?_
  exact hret _ _ _ rfl hw (C.dg (k := 23) rfl)
end S152
