theorem kV_Pw_239 {R : Room} {s : State} {args : Array Value} (hR : 1 + 1 ≤ R.frames ∧ 8 + (4 + 11) + 21 ≤ R.locals) (ht : ∀ w ∈ GW, w.before args s = true) : CallW R s args R_Pw R_Pi 239 y_Pi_openMains c_Pi_openMains 4 (some .int) (WL y_Pi_openMains c_Pi_openMains 4 (some .int)) { frames := 1, cells := 0, slots := 0, locals := 21 } 0 0 1 := cwV 1 ht (GW_v w_4_3 w_3_161 w_3_162 w_1_3 (GW_wl w_3_163)) rfl rfl rfl (by decide +kernel) hR
theorem kV_Pw_242 {R : Room} {s : State} {args : Array Value} (hR : 3 + 1 ≤ R.frames ∧ 8 + (5 + 11) + 68 ≤ R.locals) (ht : ∀ w ∈ GW, w.before args s = true) : CallW R s args R_Pw R_Pw 242 y_Pw_stepThings c_Pw_stepThings 5 none (WL y_Pw_stepThings c_Pw_stepThings 5 none) { frames := 3, cells := 0, slots := 0, locals := 68 } 0 0 1 := cwV 1 ht (GW_v w_4_4 w_4_6 w_0_11 w_1_1 (GW_wl w_4_7)) rfl rfl rfl (by decide +kernel) hR
section S109
variable {p : Program} {l : Launch} {e : Env} {R : Room} {s : State} {m : MethodId} {args : Array Value} {below : List Frame} {meth : Method} {c : Code} {H : Heap} {locs : List Loc} {cells slots : Nat} {Q : State → Prop}
variable {cc : ByteArray} {pc n nL : Nat} {ls : Array Slot} {rest : List Value} {D : va_G} {cy : Nat → ClassId} {Z : Nat → Prop} {ad : Nat → Nat} {tb : List (Nat × Instr × Nat)} {lv : List (Nat × Value)}
set_option maxHeartbeats 4000000 in
set_option maxRecDepth 100000 in
theorem e_Pw_step_21 {T : Nat → Option Nat} {L : List Nat} {K : Nat → Nat} {a1 : Int32} {P : Int32 → ((Nat → Int32) × (Nat → Nat → Int32) × (Nat → Nat → Int32)) → Prop} {kx21 : (Nat → Int32) → (Nat → Nat → Int32) → (Nat → Nat → Int32) → Int32 → Prop} (C : CX D cy R_Pw c_Pw_step tb_Pw_step 4 p s m args c Z) (hret : RetI p l e { frames := 6, cells := 0, slots := 0, locals := 139 } s m args below meth c c_Pw_step .int D Z Q (fun (u : (Nat → Int32) × (Nat → Nat → Int32) × (Nat → Nat → Int32)) => wC cy ad u.1 u.2.1 T L K u.2.2) P 0 0)
    (hx21 : ∀ (I : Nat → Int32) (A : Nat → Nat → Int32) (F : Nat → Nat → Int32) (x2 : Int32) (ls : Array Slot) (H : Heap) (locs : List Loc), lv_has ls 4 [(0, .ref (ad 0)), (2, .int x2)] → HXw D Z s.heap H locs (wC cy ad I A T L K F) → kx21 I A F x2 → W p l e { frames := 6, cells := 0, slots := 0, locals := 139 } s m args below meth c H locs 0 0 Q (F0 m 65 ls [])) :
    ∀ (n : Nat) (I : Nat → Int32) (A : Nat → Nat → Int32) (F : Nat → Nat → Int32) (x2 : Int32) (x3 : Int32) (ls : Array Slot) (H : Heap) (locs : List Loc), lv_has ls 4 [(0, .ref (ad 0)), (1, .int a1), (2, .int x2), (3, .int x3)] → HXw D Z s.heap H locs (wC cy ad I A T L K F) → g_Pw_step_21 T L K a1 P kx21 n I A F x2 x3 → W p l e { frames := 6, cells := 0, slots := 0, locals := 139 } s m args below meth c H locs 0 0 Q (F0 m 21 ls []) := by
  intro n
  induction n with
  | zero => intro I A F x2 x3 ls H locs hl h hw; exact hw.elim
  | succ n ih =>
    intro I A F x2 x3 ls H locs hl h hw
    refine i_iload_n (n := 22) C 12 rfl rfl rfl hl 3 rfl ?_
    refine i_iload_n (n := 23) C 13 rfl rfl rfl hl 1 rfl ?_
    refine i_icmp_ge (tgt := 65) (n := 26) C 14 rfl rfl rfl (fun c4 => ?_) (fun c4 => ?_)
    · replace hw := hw.1 c4
      exact hx21 I A F x2 ls _ _ (lv_sub hl [0, 2] rfl) h hw
    · replace hw := hw.2 c4
      refine i_aload_n (n := 27) C 15 rfl rfl rfl hl 0 rfl ?_
      refine fgC_Pw_10 (n := 30) C 16 rfl rfl h ?_
      refine i_aload_n (n := 31) C 17 rfl rfl rfl hl 0 rfl ?_
      refine fgC_Pw_184 (n := 34) C 18 rfl rfl h ?_
      refine i_callVv (rest := []) (ci := 5) (qc := (R_Ne, T_Ne, 17)) (n := 37) C 19 rfl rfl hl h rfl (wC_get (h := 1) (by decide)) (kV_Pw_212 ⟨by decide, by decide⟩) (m_Ne_settle hw) rfl rfl (Nat.le_of_ble_eq_true rfl) ⟨by decide, by decide⟩ (fun u5 H locs hw h => ?_)
      refine i_aload_n (n := 38) C 20 rfl rfl rfl hl 0 rfl ?_
      refine i_aload_n (n := 39) C 21 rfl rfl rfl hl 0 rfl ?_
      refine fgC_Pw_20 (n := 42) C 22 rfl rfl h ?_
      refine i_iconst (v := (0 : Int32)) (n := 43) C 23 rfl rfl rfl ?_
      refine i_callVp (rest := [.ref (ad 0)]) (ci := 7) (qc := (R_Pi, T_Pi, 8)) (n := 46) C 24 rfl rfl hl h rfl (wC_get (h := 2) (by decide)) (kV_Pw_239 ⟨by decide, by decide⟩) (m_Pi_openMains hw) rfl rfl (Nat.le_of_ble_eq_true rfl) ⟨by decide, by decide⟩ (fun r6 hw => ?_)
      refine i_callVv (rest := []) (ci := 10) (qc := (R_Pw, T_Pw, 16)) (n := 49) C 25 rfl rfl hl h rfl (wC_get (h := 0) (by decide)) (kV_Pw_242 ⟨by decide, by decide⟩) (m_Pw_stepThings hw) rfl rfl (Nat.le_of_ble_eq_true rfl) ⟨by decide, by decide⟩ (fun u7 H locs hw h => ?_)
      refine i_aload_n (n := 50) C 26 rfl rfl rfl hl 0 rfl ?_
      refine i_dup (n := 51) C 27 rfl rfl rfl ?_
      refine fgC_Pw_184 (n := 54) C 28 rfl rfl h ?_
      refine i_iconst (v := (1 : Int32)) (n := 55) C 29 rfl rfl rfl ?_
      refine i_iadd (n := 56) C 30 rfl rfl ?_
      refine fpC_Pw_184 (n := 59) C 31 rfl rfl h (fun H locs h => ?_)
      refine i_iinc (v := x3 + (1 : Int32)) (lv' := [(3, .int (x3 + (1 : Int32))), (0, .ref (ad 0)), (1, .int a1), (2, .int x2)]) (n := 62) C 32 rfl rfl hl 3 rfl rfl (by decide) rfl (fun ls hl => ?_)
      refine i_goto (tgt := 21) C 33 rfl rfl ?_
      exact ih (va_up u7.1 0 ((u7.1 0) + (1 : Int32))) u7.2.1 u7.2.2 x2 (x3 + (1 : Int32)) ls _ _ (lv_sub hl [1, 2, 3, 0] rfl) h hw
set_option maxHeartbeats 4000000 in
set_option maxRecDepth 100000 in
theorem m_Pw_step {l : Launch} {D : va_G} {cy : Nat → ClassId} {ad : Nat → Nat} {I : Nat → Int32} {A : Nat → Nat → Int32} {T : Nat → Option Nat} {L : List Nat} {K : Nat → Nat} {F : Nat → Nat → Int32} {a1 : Int32} {P : Int32 → ((Nat → Int32) × (Nat → Nat → Int32) × (Nat → Nat → Int32)) → Prop} (hw : g_Pw_step I A T L K F a1 P) : ∀ sz, Met l y_Pw_step (WL y_Pw_step c_Pw_step 4 (some .int)) { frames := 6, cells := 0, slots := 0, locals := 139 } (va_Pc [.ref (ad 0), .int a1] (PreW D cy (wC cy ad I A T L K F) sz)) (va_Qi P (fun u t => PostW D (va_A (wC cy ad I A T L K F) sz) ((fun (u : (Nat → Int32) × (Nat → Nat → Int32) × (Nat → Nat → Int32)) => wC cy ad u.1 u.2.1 T L K u.2.2) u) t) (va_A (wC cy ad I A T L K F) sz)) 0 0 (va_A (wC cy ad I A T L K F) sz) := by
  refine met_i (wf := fun (u : (Nat → Int32) × (Nat → Nat → Int32) × (Nat → Nat → Int32)) => wC cy ad u.1 u.2.1 T L K u.2.2) R_Pw .int db_Pw_step (by decide) rfl rfl (Nat.le_of_ble_eq_true rfl) ?_
  intro p e s m below meth c Z Q ls C h hl hret
  have hl : lv_has ls 4 [(0, .ref (ad 0)), (1, .int a1)] := hl
  refine i_iload_n (n := 1) C 0 rfl rfl rfl hl 1 rfl ?_
  refine i_iconst (v := (1 : Int32)) (n := 2) C 1 rfl rfl rfl ?_
  refine i_sipush (v := (400 : Int32)) (n := 5) C 2 rfl rfl rfl ?_
  refine i_callSp (rest := []) (n := 8) C 3 rfl rfl hl h (kS_Pw_69 ⟨by decide, by decide⟩) (m_Pw_isWithin hw) rfl rfl (Nat.le_of_ble_eq_true rfl) ⟨by decide, by decide⟩ (fun r1 hw => ?_)
  refine i_if_ne (tgt := 14) (n := 11) C 4 rfl rfl rfl (fun c2 => ?_) (fun c2 => ?_)
  · replace hw := hw.1 c2
    refine i_aload_n (n := 15) C 7 rfl rfl rfl hl 0 rfl ?_
    refine fgC_Pw_236 (n := 18) C 8 rfl rfl h ?_
    refine lv_topi (fun y3 ey3 => ?_)
    replace hw := hw y3 ey3
    refine i_istore_n (lv' := [(2, .int y3), (0, .ref (ad 0)), (1, .int a1)]) (n := 19) C 9 rfl rfl rfl hl (by decide) rfl (fun ls hl => ?_)
    refine i_iconst (v := (0 : Int32)) (n := 20) C 10 rfl rfl rfl ?_
    refine i_istore_n (lv' := [(3, .int (0 : Int32)), (2, .int y3), (0, .ref (ad 0)), (1, .int a1)]) (n := 21) C 11 rfl rfl rfl hl (by decide) rfl (fun ls hl => ?_)
    obtain ⟨n8, hw⟩ := hw
    refine e_Pw_step_21 C hret (fun I_8 A_8 F_8 x2_8 ls H locs hl h hw => ?_) n8 I A F y3 (0 : Int32) ls _ _ (lv_sub hl [2, 3, 1, 0] rfl) h hw
    have hl : lv_has ls 4 [(0, .ref (ad 0)), (2, .int x2_8)] := hl
    refine i_aload_n (n := 66) C 34 rfl rfl rfl hl 0 rfl ?_
    refine fgC_Pw_236 (n := 69) C 35 rfl rfl h ?_
    refine i_iload_n (n := 70) C 36 rfl rfl rfl hl 1 rfl ?_
    refine i_isub (n := 71) C 37 rfl rfl ?_
    exact hret _ (I_8, A_8, F_8) _ _ _ _ rfl hw h (C.dg (k := 38) rfl)
  · replace hw := hw.2 c2
    refine i_bipush (v := (-2 : Int32)) (n := 13) C 5 rfl rfl rfl ?_
    exact hret _ (I, A, F) _ _ _ _ rfl hw h (C.dg (k := 6) rfl)
end S109
section S110
variable {p : Program} {l : Launch} {e : Env} {R : Room} {s : State} {m : MethodId} {args : Array Value} {below : List Frame} {meth : Method} {c : Code} {H : Heap} {locs : List Loc} {cells slots : Nat} {Q : State → Prop}
variable {cc : ByteArray} {pc n nL : Nat} {ls : Array Slot} {rest : List Value} {D : va_G} {cy : Nat → ClassId} {Z : Nat → Prop} {ad : Nat → Nat} {tb : List (Nat × Instr × Nat)} {lv : List (Nat × Value)}
set_option maxHeartbeats 4000000 in
set_option maxRecDepth 100000 in
theorem m_Pw_told {l : Launch} {D : va_G} {cy : Nat → ClassId} {ad : Nat → Nat} {I : Nat → Int32} {A : Nat → Nat → Int32} {T : Nat → Option Nat} {L : List Nat} {K : Nat → Nat} {F : Nat → Nat → Int32} {a1 : Int32} {P : Int32 → Prop} (hw : g_Pw_told I a1 P) : ∀ sz, Met l y_Pw_told (WL y_Pw_told c_Pw_told 2 (some .int)) { frames := 0, cells := 0, slots := 0, locals := 0 } (va_Pc [.ref (ad 0), .int a1] (PreW D cy (wC cy ad I A T L K F) sz)) (vp_Si P) 0 0 (fun _ => False) := by
  refine met_p R_Pw .int db_Pw_told (by decide) rfl rfl (Nat.le_of_ble_eq_true rfl) ?_
  intro p e s m below meth c Z Q ls C h hl hret
  have hl : lv_has ls 2 [(0, .ref (ad 0)), (1, .int a1)] := hl
  refine i_iload_n (n := 1) C 0 rfl rfl rfl hl 1 rfl ?_
  by_cases c1 : a1 = (0 : Int32)
  · replace hw := hw.1 c1
    refine i_tsw (tgt := 60) C 1 rfl c1 (by decide) (by decide) rfl rfl ?_
    refine i_aload_n (n := 61) C 2 rfl rfl rfl hl 0 rfl ?_
    refine fgC_Pw_184 (n := 64) C 3 rfl rfl h ?_
    exact hret _ _ _ rfl hw (C.dg (k := 4) rfl)
  replace hw := hw.2
  by_cases c2 : a1 = (1 : Int32)
  · replace hw := hw.1 c2
    refine i_tsw (tgt := 65) C 1 rfl c2 (by decide) (by decide) rfl rfl ?_
    refine i_aload_n (n := 66) C 5 rfl rfl rfl hl 0 rfl ?_
    refine fgC_Pw_10 (n := 69) C 6 rfl rfl h ?_
    refine fgC_Pw_245 (n := 72) C 7 rfl rfl h ?_
    exact hret _ _ _ rfl hw (C.dg (k := 8) rfl)
  replace hw := hw.2
  by_cases c3 : a1 = (2 : Int32)
  · replace hw := hw.1 c3
    refine i_tsw (tgt := 73) C 1 rfl c3 (by decide) (by decide) rfl rfl ?_
    refine i_aload_n (n := 74) C 9 rfl rfl rfl hl 0 rfl ?_
    refine fgC_Pw_20 (n := 77) C 10 rfl rfl h ?_
    refine fgC_Pw_248 (n := 80) C 11 rfl rfl h ?_
    exact hret _ _ _ rfl hw (C.dg (k := 12) rfl)
  replace hw := hw.2
  by_cases c4 : a1 = (3 : Int32)
  · replace hw := hw.1 c4
    refine i_tsw (tgt := 81) C 1 rfl c4 (by decide) (by decide) rfl rfl ?_
    refine i_aload_n (n := 82) C 13 rfl rfl rfl hl 0 rfl ?_
    refine fgC_Pw_20 (n := 85) C 14 rfl rfl h ?_
    refine fgC_Pw_251 (n := 88) C 15 rfl rfl h ?_
    exact hret _ _ _ rfl hw (C.dg (k := 16) rfl)
  replace hw := hw.2
  by_cases c5 : a1 = (4 : Int32)
  · replace hw := hw.1 c5
    refine i_tsw (tgt := 89) C 1 rfl c5 (by decide) (by decide) rfl rfl ?_
    refine i_aload_n (n := 90) C 17 rfl rfl rfl hl 0 rfl ?_
    refine fgC_Pw_24 (n := 93) C 18 rfl rfl h ?_
    refine fgC_Pw_254 (n := 96) C 19 rfl rfl h ?_
    exact hret _ _ _ rfl hw (C.dg (k := 20) rfl)
  replace hw := hw.2
  by_cases c6 : a1 = (5 : Int32)
  · replace hw := hw.1 c6
    refine i_tsw (tgt := 97) C 1 rfl c6 (by decide) (by decide) rfl rfl ?_
    refine i_aload_n (n := 98) C 21 rfl rfl rfl hl 0 rfl ?_
    refine fgC_Pw_24 (n := 101) C 22 rfl rfl h ?_
    refine fgC_Pw_257 (n := 104) C 23 rfl rfl h ?_
    exact hret _ _ _ rfl hw (C.dg (k := 24) rfl)
  replace hw := hw.2
  by_cases c7 : a1 = (6 : Int32)
  · replace hw := hw.1 c7
    refine i_tsw (tgt := 105) C 1 rfl c7 (by decide) (by decide) rfl rfl ?_
    refine i_aload_n (n := 106) C 25 rfl rfl rfl hl 0 rfl ?_
    refine fgC_Pw_236 (n := 109) C 26 rfl rfl h ?_
    exact hret _ _ _ rfl hw (C.dg (k := 27) rfl)
  replace hw := hw.2
  by_cases c8 : a1 = (7 : Int32)
  · replace hw := hw.1 c8
    refine i_tsw (tgt := 110) C 1 rfl c8 (by decide) (by decide) rfl rfl ?_
    refine i_aload_n (n := 111) C 28 rfl rfl rfl hl 0 rfl ?_
    refine fgC_Pw_260 (n := 114) C 29 rfl rfl h ?_
    exact hret _ _ _ rfl hw (C.dg (k := 30) rfl)
  replace hw := hw.2
  by_cases c9 : a1 = (8 : Int32)
  · replace hw := hw.1 c9
    refine i_tsw (tgt := 115) C 1 rfl c9 (by decide) (by decide) rfl rfl ?_
    refine i_aload_n (n := 116) C 31 rfl rfl rfl hl 0 rfl ?_
    refine fgC_Pw_263 (n := 119) C 32 rfl rfl h ?_
    exact hret _ _ _ rfl hw (C.dg (k := 33) rfl)
  replace hw := hw.2
  by_cases c10 : a1 = (9 : Int32)
  · replace hw := hw.1 c10
    refine i_tsw (tgt := 120) C 1 rfl c10 (by decide) (by decide) rfl rfl ?_
    refine i_aload_n (n := 121) C 34 rfl rfl rfl hl 0 rfl ?_
    refine fgC_Pw_10 (n := 124) C 35 rfl rfl h ?_
    refine fgC_Pw_219 (n := 127) C 36 rfl rfl h ?_
    exact hret _ _ _ rfl hw (C.dg (k := 37) rfl)
  replace hw := hw.2
  by_cases c11 : a1 = (10 : Int32)
  · replace hw := hw.1 c11
    refine i_tsw (tgt := 128) C 1 rfl c11 (by decide) (by decide) rfl rfl ?_
    refine i_aload_n (n := 129) C 38 rfl rfl rfl hl 0 rfl ?_
    refine fgC_Pw_31 (n := 132) C 39 rfl rfl h ?_
    refine fgC_Pw_266 (n := 135) C 40 rfl rfl h ?_
    exact hret _ _ _ rfl hw (C.dg (k := 41) rfl)
  replace hw := hw.2
  replace hw := hw c1
  replace hw := hw c2
  replace hw := hw c3
  replace hw := hw c4
  replace hw := hw c5
  replace hw := hw c6
  replace hw := hw c7
  replace hw := hw c8
  replace hw := hw c9
  replace hw := hw c10
  replace hw := hw c11
  refine i_tswd (tgt := 136) C 1 rfl (fun j hj => match j, hj with | 0, _ => lv_neT c1 rfl | 1, _ => lv_neT c2 rfl | 2, _ => lv_neT c3 rfl | 3, _ => lv_neT c4 rfl | 4, _ => lv_neT c5 rfl | 5, _ => lv_neT c6 rfl | 6, _ => lv_neT c7 rfl | 7, _ => lv_neT c8 rfl | 8, _ => lv_neT c9 rfl | 9, _ => lv_neT c10 rfl | 10, _ => lv_neT c11 rfl | j + 11, hj => absurd hj (by omega)) rfl ?_
  refine i_bipush (v := (-2 : Int32)) (n := 138) C 42 rfl rfl rfl ?_
  exact hret _ _ _ rfl hw (C.dg (k := 43) rfl)
end S110
section S111
variable {p : Program} {l : Launch} {e : Env} {R : Room} {s : State} {m : MethodId} {args : Array Value} {below : List Frame} {meth : Method} {c : Code} {H : Heap} {locs : List Loc} {cells slots : Nat} {Q : State → Prop}
variable {cc : ByteArray} {pc n nL : Nat} {ls : Array Slot} {rest : List Value} {D : va_G} {cy : Nat → ClassId} {Z : Nat → Prop} {ad : Nat → Nat} {tb : List (Nat × Instr × Nat)} {lv : List (Nat × Value)}
set_option maxHeartbeats 4000000 in
set_option maxRecDepth 100000 in
theorem e_JArr_fill_5 {I : Nat → Int32} {T : Nat → Option Nat} {L : List Nat} {K : Nat → Nat} {F : Nat → Nat → Int32} {k1 : Nat} {a2 : Int32} {P : ((Nat → Nat → Int32)) → Prop} {kx5 : (Nat → Nat → Int32) → Prop} (C : CX D cy R_JArr c_JArr_fill tb_JArr_fill 4 p s m args c Z) (hk1 : k1 < 41 ∧ tyC k1 = 0) (hret : RetV p l e { frames := 0, cells := 0, slots := 0, locals := 0 } s m args below meth c c_JArr_fill D Z Q (fun (u : (Nat → Nat → Int32)) => wC cy ad I u T L K F) P 0 0)
    (hx5 : ∀ (A : Nat → Nat → Int32) (ls : Array Slot) (H : Heap) (locs : List Loc), lv_has ls 4 [] → HXw D Z s.heap H locs (wC cy ad I A T L K F) → kx5 A → W p l e { frames := 0, cells := 0, slots := 0, locals := 0 } s m args below meth c H locs 0 0 Q (F0 m 20 ls [])) :
    ∀ (n : Nat) (A : Nat → Nat → Int32) (x2 : Int32) (x3 : Int32) (ls : Array Slot) (H : Heap) (locs : List Loc), lv_has ls 4 [(0, .ref (ad (k1 + 8))), (1, .int a2), (2, .int x2), (3, .int x3)] → HXw D Z s.heap H locs (wC cy ad I A T L K F) → g_JArr_fill_5 k1 a2 P kx5 n A x2 x3 → W p l e { frames := 0, cells := 0, slots := 0, locals := 0 } s m args below meth c H locs 0 0 Q (F0 m 5 ls []) := by
  intro n
  induction n with
  | zero => intro A x2 x3 ls H locs hl h hw; exact hw.elim
  | succ n ih =>
    intro A x2 x3 ls H locs hl h hw
    refine i_iload_n (n := 6) C 5 rfl rfl rfl hl 2 rfl ?_
    refine i_iload_n (n := 7) C 6 rfl rfl rfl hl 3 rfl ?_
    refine i_icmp_ge (tgt := 20) (n := 10) C 7 rfl rfl rfl (fun c2 => ?_) (fun c2 => ?_)
    · replace hw := hw.1 c2
      exact hx5 A ls _ _ (lv_sub hl [] rfl) h hw
    · replace hw := hw.2 c2
      refine i_aload_n (n := 11) C 8 rfl rfl rfl hl 0 rfl ?_
      refine i_iload_n (n := 12) C 9 rfl rfl rfl hl 2 rfl ?_
      refine i_iload_n (n := 13) C 10 rfl rfl rfl hl 1 rfl ?_
      obtain ⟨hb, hw⟩ := hw
      refine i_iast (n := 14) C 11 rfl rfl h (wC_arrI k1 hk1.1 hk1.2) hb (wC_sAI k1 hk1.1 hk1.2 _ _) (fun H locs h => ?_)
      refine i_iinc (v := x2 + (1 : Int32)) (lv' := [(2, .int (x2 + (1 : Int32))), (0, .ref (ad (k1 + 8))), (1, .int a2), (3, .int x3)]) (n := 17) C 12 rfl rfl hl 2 rfl rfl (by decide) rfl (fun ls hl => ?_)
      refine i_goto (tgt := 5) C 13 rfl rfl ?_
      exact ih (sA A k1 x2 a2) (x2 + (1 : Int32)) x3 ls _ _ (lv_sub hl [1, 2, 0, 3] rfl) h hw
set_option maxHeartbeats 4000000 in
set_option maxRecDepth 100000 in
theorem m_JArr_fill {l : Launch} {D : va_G} {cy : Nat → ClassId} {ad : Nat → Nat} {I : Nat → Int32} {A : Nat → Nat → Int32} {T : Nat → Option Nat} {L : List Nat} {K : Nat → Nat} {F : Nat → Nat → Int32} {k1 : Nat} {a2 : Int32} {P : ((Nat → Nat → Int32)) → Prop} (hk1 : k1 < 41 ∧ tyC k1 = 0) (hw : g_JArr_fill A k1 a2 P) : ∀ sz, Met l y_JArr_fill (WL y_JArr_fill c_JArr_fill 4 none) { frames := 0, cells := 0, slots := 0, locals := 0 } (va_Pc [.ref (ad (k1 + 8)), .int a2] (PreW D cy (wC cy ad I A T L K F) sz)) (va_Qv P (fun u t => PostW D (va_A (wC cy ad I A T L K F) sz) ((fun (u : (Nat → Nat → Int32)) => wC cy ad I u T L K F) u) t) (va_A (wC cy ad I A T L K F) sz)) 0 0 (va_A (wC cy ad I A T L K F) sz) := by
  refine met_v (wf := fun (u : (Nat → Nat → Int32)) => wC cy ad I u T L K F) R_JArr db_JArr_fill (by decide) rfl (Nat.le_of_ble_eq_true rfl) ?_
  intro p e s m below meth c Z Q ls hin C h hl hret
  have hl : lv_has ls 4 [(0, .ref (ad (k1 + 8))), (1, .int a2)] := hl
  refine i_iconst (v := (0 : Int32)) (n := 1) C 0 rfl rfl rfl ?_
  refine i_istore_n (lv' := [(2, .int (0 : Int32)), (0, .ref (ad (k1 + 8))), (1, .int a2)]) (n := 2) C 1 rfl rfl rfl hl (by decide) rfl (fun ls hl => ?_)
  refine i_aload_n (n := 3) C 2 rfl rfl rfl hl 1 rfl ?_
  refine i_alen (t0 := 0) (v := (Int32.ofNat (lenC k1))) (n := 4) C 3 rfl rfl h (wC_arrI k1 hk1.1 hk1.2) rfl rfl ?_
  refine lv_topi (fun y1 ey1 => ?_)
  replace hw := hw y1 ey1
  refine i_istore_n (lv' := [(3, .int y1), (2, .int (0 : Int32)), (0, .ref (ad (k1 + 8))), (1, .int a2)]) (n := 5) C 4 rfl rfl rfl hl (by decide) rfl (fun ls hl => ?_)
  obtain ⟨n3, hw⟩ := hw
  refine e_JArr_fill_5 C hk1 hret (fun A_3 ls H locs hl h hw => ?_) n3 A (0 : Int32) y1 ls _ _ (lv_sub hl [2, 3, 1, 0] rfl) h hw
  have hl : lv_has ls 4 [] := hl
  exact hret A_3 _ _ _ _ hw h (C.dg (k := 14) rfl)
theorem m_JArr_fill_row4 {l : Launch} {D : va_G} {cy : Nat → ClassId} {ad : Nat → Nat} {I : Nat → Int32} {A : Nat → Nat → Int32} {T : Nat → Option Nat} {L : List Nat} {K : Nat → Nat} {F : Nat → Nat → Int32} {j : Nat} {a2 : Int32} {P : ((Nat → Nat → Int32)) → Prop} (hj : j < 4) (hw : g_JArr_fill A (31 + j) a2 P) : ∀ sz, Met l y_JArr_fill (WL y_JArr_fill c_JArr_fill 4 none) { frames := 0, cells := 0, slots := 0, locals := 0 } (va_Pc [.ref (ad (39 + j)), .int a2] (PreW D cy (wC cy ad I A T L K F) sz)) (va_Qv P (fun u t => PostW D (va_A (wC cy ad I A T L K F) sz) ((fun (u : (Nat → Nat → Int32)) => wC cy ad I u T L K F) u) t) (va_A (wC cy ad I A T L K F) sz)) 0 0 (va_A (wC cy ad I A T L K F) sz) := by
  have ht : tyC (31 + j) = 0 := by rcases (show j = 0 ∨ j = 1 ∨ j = 2 ∨ j = 3 by omega) with rfl | rfl | rfl | rfl <;> rfl
  have h := m_JArr_fill (l := l) (D := D) (cy := cy) (ad := ad) (I := I) (A := A) (T := T) (L := L) (K := K) (F := F) (k1 := 31 + j) ⟨by omega, ht⟩ hw
  rw [show 31 + j + 8 = 39 + j by omega] at h
  exact h
theorem m_JArr_fill_row6 {l : Launch} {D : va_G} {cy : Nat → ClassId} {ad : Nat → Nat} {I : Nat → Int32} {A : Nat → Nat → Int32} {T : Nat → Option Nat} {L : List Nat} {K : Nat → Nat} {F : Nat → Nat → Int32} {j : Nat} {a2 : Int32} {P : ((Nat → Nat → Int32)) → Prop} (hj : j < 6) (hw : g_JArr_fill A (35 + j) a2 P) : ∀ sz, Met l y_JArr_fill (WL y_JArr_fill c_JArr_fill 4 none) { frames := 0, cells := 0, slots := 0, locals := 0 } (va_Pc [.ref (ad (43 + j)), .int a2] (PreW D cy (wC cy ad I A T L K F) sz)) (va_Qv P (fun u t => PostW D (va_A (wC cy ad I A T L K F) sz) ((fun (u : (Nat → Nat → Int32)) => wC cy ad I u T L K F) u) t) (va_A (wC cy ad I A T L K F) sz)) 0 0 (va_A (wC cy ad I A T L K F) sz) := by
  have ht : tyC (35 + j) = 0 := by rcases (show j = 0 ∨ j = 1 ∨ j = 2 ∨ j = 3 ∨ j = 4 ∨ j = 5 by omega) with rfl | rfl | rfl | rfl | rfl | rfl <;> rfl
  have h := m_JArr_fill (l := l) (D := D) (cy := cy) (ad := ad) (I := I) (A := A) (T := T) (L := L) (K := K) (F := F) (k1 := 35 + j) ⟨by omega, ht⟩ hw
  rw [show 35 + j + 8 = 43 + j by omega] at h
  exact h
end S111
theorem kX_Pw_63 {R : Room} {s : State} {args : Array Value} (hR : 0 + 1 ≤ R.frames ∧ 8 + (4 + 11) + 0 ≤ R.locals) (ht : ∀ w ∈ GW, w.before args s = true) : CallB R s args R_Pw 63 y_JArr_fill c_JArr_fill 4 none (WL y_JArr_fill c_JArr_fill 4 none) { frames := 0, cells := 0, slots := 0, locals := 0 } 0 0 2 ∧ (Cond.static y_JArr_fill).before args s = true := ⟨callB_of 2 ht (GW_in (GW_wl w_1_201)) rfl rfl rfl (ht _ w_1_6) (ht _ w_1_199) (by decide +kernel) hR, ht _ w_1_200⟩
section S112
variable {p : Program} {l : Launch} {e : Env} {R : Room} {s : State} {m : MethodId} {args : Array Value} {below : List Frame} {meth : Method} {c : Code} {H : Heap} {locs : List Loc} {cells slots : Nat} {Q : State → Prop}
variable {cc : ByteArray} {pc n nL : Nat} {ls : Array Slot} {rest : List Value} {D : va_G} {cy : Nat → ClassId} {Z : Nat → Prop} {ad : Nat → Nat} {tb : List (Nat × Instr × Nat)} {lv : List (Nat × Value)}
set_option maxHeartbeats 4000000 in
set_option maxRecDepth 100000 in
theorem e_Pw_row_47 {I : Nat → Int32} {T : Nat → Option Nat} {L : List Nat} {K : Nat → Nat} {F : Nat → Nat → Int32} {a1 : Int32} {a2 : Int32} {P : Int32 → ((Nat → Nat → Int32)) → Prop}  (C : CX D cy R_Pw c_Pw_row tb_Pw_row 4 p s m args c Z) (hret : RetI p l e { frames := 1, cells := 0, slots := 0, locals := 23 } s m args below meth c c_Pw_row .int D Z Q (fun (u : (Nat → Nat → Int32)) => wC cy ad I u T L K F) P 0 0) :
    ∀ (A : Nat → Nat → Int32) (x3 : Int32) (s1 : Int32) (s2 : Int32) (ls : Array Slot) (H : Heap) (locs : List Loc), lv_has ls 4 [(0, .ref (ad 0)), (1, .int a1), (3, .int x3)] → HXw D Z s.heap H locs (wC cy ad I A T L K F) → g_Pw_row_47 a1 a2 P  A x3 s1 s2 → W p l e { frames := 1, cells := 0, slots := 0, locals := 23 } s m args below meth c H locs 0 0 Q (F0 m 47 ls [.int s2, .int s1, .ref (ad 11)]) := by
  intro A x3 s1 s2 ls H locs hl h hw
  obtain ⟨hb, hw⟩ := hw
  refine i_iast (n := 48) C 28 rfl rfl h (wC_arr 3 (by decide) rfl) hb (wC_sA 3 (by decide) rfl _ _) (fun H locs h => ?_)
  refine i_aload_n (n := 49) C 29 rfl rfl rfl hl 0 rfl ?_
  refine fgC_Pw_48 (n := 52) C 30 rfl rfl h ?_
  refine i_iload_n (n := 53) C 31 rfl rfl rfl hl 1 rfl ?_
  obtain ⟨hb, hw⟩ := hw
  refine i_aldA (n := 54) C 32 rfl rfl h (wC_get (h := 6) (by decide)) hb (if_pos (vp_in_lt hb)) ?_
  have hr7 := vp_in_lt hb
  refine i_iconst (v := (0 : Int32)) (n := 55) C 33 rfl rfl rfl ?_
  refine i_callSv (rest := []) (n := 58) C 34 rfl rfl hl h (kX_Pw_63 ⟨by decide, by decide⟩) (m_JArr_fill_row4 hr7 hw) rfl rfl (Nat.le_of_ble_eq_true rfl) ⟨by decide, by decide⟩ (fun u8 H locs hw h => ?_)
  refine i_iload_n (n := 59) C 35 rfl rfl rfl hl 2 rfl ?_
  exact hret _ u8 _ _ _ _ rfl hw h (C.dg (k := 36) rfl)
set_option maxHeartbeats 4000000 in
set_option maxRecDepth 100000 in
theorem m_Pw_row {l : Launch} {D : va_G} {cy : Nat → ClassId} {ad : Nat → Nat} {I : Nat → Int32} {A : Nat → Nat → Int32} {T : Nat → Option Nat} {L : List Nat} {K : Nat → Nat} {F : Nat → Nat → Int32} {a1 : Int32} {a2 : Int32} {P : Int32 → ((Nat → Nat → Int32)) → Prop} (hw : g_Pw_row A a1 a2 P) : ∀ sz, Met l y_Pw_row (WL y_Pw_row c_Pw_row 4 (some .int)) { frames := 1, cells := 0, slots := 0, locals := 23 } (va_Pc [.ref (ad 0), .int a1, .int a2] (PreW D cy (wC cy ad I A T L K F) sz)) (va_Qi P (fun u t => PostW D (va_A (wC cy ad I A T L K F) sz) ((fun (u : (Nat → Nat → Int32)) => wC cy ad I u T L K F) u) t) (va_A (wC cy ad I A T L K F) sz)) 0 0 (va_A (wC cy ad I A T L K F) sz) := by
  refine met_i (wf := fun (u : (Nat → Nat → Int32)) => wC cy ad I u T L K F) R_Pw .int db_Pw_row (by decide) rfl rfl (Nat.le_of_ble_eq_true rfl) ?_
  intro p e s m below meth c Z Q ls C h hl hret
  have hl : lv_has ls 4 [(0, .ref (ad 0)), (1, .int a1), (2, .int a2)] := hl
  refine i_iload_n (n := 1) C 0 rfl rfl rfl hl 1 rfl ?_
  refine i_iconst (v := (0 : Int32)) (n := 2) C 1 rfl rfl rfl ?_
  refine i_iconst (v := (3 : Int32)) (n := 3) C 2 rfl rfl rfl ?_
  refine i_callSp (rest := []) (n := 6) C 3 rfl rfl hl h (kS_Pw_69 ⟨by decide, by decide⟩) (m_Pw_isWithin hw) rfl rfl (Nat.le_of_ble_eq_true rfl) ⟨by decide, by decide⟩ (fun r1 hw => ?_)
  refine i_if_ne (tgt := 11) (n := 9) C 4 rfl rfl rfl (fun c2 => ?_) (fun c2 => ?_)
  · replace hw := hw.1 c2
    refine i_iload_n (n := 12) C 7 rfl rfl rfl hl 2 rfl ?_
    refine i_iconst (v := (-1 : Int32)) (n := 13) C 8 rfl rfl rfl ?_
    refine i_bipush (v := (20 : Int32)) (n := 15) C 9 rfl rfl rfl ?_
    refine i_callSp (rest := []) (n := 18) C 10 rfl rfl hl h (kS_Pw_69 ⟨by decide, by decide⟩) (m_Pw_isWithin hw) rfl rfl (Nat.le_of_ble_eq_true rfl) ⟨by decide, by decide⟩ (fun r3 hw => ?_)
    refine i_if_ne (tgt := 24) (n := 21) C 11 rfl rfl rfl (fun c4 => ?_) (fun c4 => ?_)
    · replace hw := hw.1 c4
      refine i_aload_n (n := 25) C 14 rfl rfl rfl hl 0 rfl ?_
      refine fgC_Pw_51 (n := 28) C 15 rfl rfl h ?_
      refine i_iload_n (n := 29) C 16 rfl rfl rfl hl 1 rfl ?_
      obtain ⟨hb, hw⟩ := hw
      refine i_iald (n := 30) C 17 rfl rfl h (wC_arr 3 (by decide) rfl) hb ?_
      refine lv_topi (fun y5 ey5 => ?_)
      replace hw := hw y5 ey5
      refine i_istore_n (lv' := [(3, .int y5), (0, .ref (ad 0)), (1, .int a1), (2, .int a2)]) (n := 31) C 18 rfl rfl rfl hl (by decide) rfl (fun ls hl => ?_)
      refine i_aload_n (n := 32) C 19 rfl rfl rfl hl 1 rfl ?_
      refine fgC_Pw_51 (n := 35) C 20 rfl rfl h ?_
      refine i_iload_n (n := 36) C 21 rfl rfl rfl hl 2 rfl ?_
      refine i_iload_n (n := 37) C 22 rfl rfl rfl hl 3 rfl ?_
      refine i_iconst (v := (-1 : Int32)) (n := 38) C 23 rfl rfl rfl ?_
      refine i_icmp_ne (tgt := 46) (n := 41) C 24 rfl rfl rfl (fun c6 => ?_) (fun c6 => ?_)
      · replace hw := hw.1 c6
        refine i_iload_n (n := 47) C 27 rfl rfl rfl hl 3 rfl ?_
        exact e_Pw_row_47 C hret  A y5 a1 a2 ls _ _ (lv_sub hl [1, 2, 0] rfl) h hw
      · replace hw := hw.2 c6
        refine i_bipush (v := (-6 : Int32)) (n := 43) C 25 rfl rfl rfl ?_
        refine i_goto (tgt := 47) C 26 rfl rfl ?_
        exact e_Pw_row_47 C hret  A y5 a1 (-6 : Int32) ls _ _ (lv_sub hl [1, 2, 0] rfl) h hw
    · replace hw := hw.2 c4
      refine i_bipush (v := (-2 : Int32)) (n := 23) C 12 rfl rfl rfl ?_
      exact hret _ A _ _ _ _ rfl hw h (C.dg (k := 13) rfl)
  · replace hw := hw.2 c2
    refine i_iconst (v := (-1 : Int32)) (n := 10) C 5 rfl rfl rfl ?_
    exact hret _ A _ _ _ _ rfl hw h (C.dg (k := 6) rfl)
end S112
section S113
variable {p : Program} {l : Launch} {e : Env} {R : Room} {s : State} {m : MethodId} {args : Array Value} {below : List Frame} {meth : Method} {c : Code} {H : Heap} {locs : List Loc} {cells slots : Nat} {Q : State → Prop}
variable {cc : ByteArray} {pc n nL : Nat} {ls : Array Slot} {rest : List Value} {D : va_G} {cy : Nat → ClassId} {Z : Nat → Prop} {ad : Nat → Nat} {tb : List (Nat × Instr × Nat)} {lv : List (Nat × Value)}
set_option maxHeartbeats 4000000 in
set_option maxRecDepth 100000 in
theorem m_Pw_hasNumber {l : Launch} {D : va_G} {cy : Nat → ClassId} {ad : Nat → Nat} {I : Nat → Int32} {A : Nat → Nat → Int32} {T : Nat → Option Nat} {L : List Nat} {K : Nat → Nat} {F : Nat → Nat → Int32} {a1 : Int32} {a2 : Int32} {P : Int32 → Prop} (hw : g_Pw_hasNumber A a1 a2 P) : ∀ sz, Met l y_Pw_hasNumber (WL y_Pw_hasNumber c_Pw_hasNumber 3 (some .boolean)) { frames := 1, cells := 0, slots := 0, locals := 22 } (va_Pc [.ref (ad 0), .int a1, .int a2] (PreW D cy (wC cy ad I A T L K F) sz)) (vp_Si P) 0 0 (fun _ => False) := by
  refine met_p R_Pw .boolean db_Pw_hasNumber (by decide) rfl rfl (Nat.le_of_ble_eq_true rfl) ?_
  intro p e s m below meth c Z Q ls C h hl hret
  have hl : lv_has ls 3 [(0, .ref (ad 0)), (1, .int a1), (2, .int a2)] := hl
  refine i_iload_n (n := 1) C 0 rfl rfl rfl hl 1 rfl ?_
  refine i_iconst (v := (0 : Int32)) (n := 2) C 1 rfl rfl rfl ?_
  refine i_iconst (v := (3 : Int32)) (n := 3) C 2 rfl rfl rfl ?_
  refine i_callSp (rest := []) (n := 6) C 3 rfl rfl hl h (kS_Pw_69 ⟨by decide, by decide⟩) (m_Pw_isWithin hw) rfl rfl (Nat.le_of_ble_eq_true rfl) ⟨by decide, by decide⟩ (fun r1 hw => ?_)
  refine i_if_eq (tgt := 27) (n := 9) C 4 rfl rfl rfl (fun c2 => ?_) (fun c2 => ?_)
  · replace hw := hw.1 c2
    refine i_iconst (v := (0 : Int32)) (n := 28) C 15 rfl rfl rfl ?_
    exact hret _ _ _ rfl hw (C.dg (k := 16) rfl)
  · replace hw := hw.2 c2
    refine i_iload_n (n := 10) C 5 rfl rfl rfl hl 2 rfl ?_
    refine i_if_lt (tgt := 27) (n := 13) C 6 rfl rfl rfl (fun c3 => ?_) (fun c3 => ?_)
    · replace hw := hw.1 c3
      refine i_iconst (v := (0 : Int32)) (n := 28) C 15 rfl rfl rfl ?_
      exact hret _ _ _ rfl hw (C.dg (k := 16) rfl)
    · replace hw := hw.2 c3
      refine i_iload_n (n := 14) C 7 rfl rfl rfl hl 2 rfl ?_
      refine i_aload_n (n := 15) C 8 rfl rfl rfl hl 0 rfl ?_
      refine fgC_Pw_51 (n := 18) C 9 rfl rfl h ?_
      refine i_iload_n (n := 19) C 10 rfl rfl rfl hl 1 rfl ?_
      obtain ⟨hb, hw⟩ := hw
      refine i_iald (n := 20) C 11 rfl rfl h (wC_arr 3 (by decide) rfl) hb ?_
      refine i_icmp_ge (tgt := 27) (n := 23) C 12 rfl rfl rfl (fun c4 => ?_) (fun c4 => ?_)
      · replace hw := hw.1 c4
        refine i_iconst (v := (0 : Int32)) (n := 28) C 15 rfl rfl rfl ?_
        exact hret _ _ _ rfl hw (C.dg (k := 16) rfl)
      · replace hw := hw.2 c4
        refine i_iconst (v := (1 : Int32)) (n := 24) C 13 rfl rfl rfl ?_
        refine i_goto (tgt := 28) C 14 rfl rfl ?_
        exact hret _ _ _ rfl hw (C.dg (k := 16) rfl)
end S113
theorem kV_Pw_269 {R : Room} {s : State} {args : Array Value} (hR : 1 + 1 ≤ R.frames ∧ 8 + (3 + 11) + 22 ≤ R.locals) (ht : ∀ w ∈ GW, w.before args s = true) : CallW R s args R_Pw R_Pw 269 y_Pw_hasNumber c_Pw_hasNumber 3 (some .boolean) (WL y_Pw_hasNumber c_Pw_hasNumber 3 (some .boolean)) { frames := 1, cells := 0, slots := 0, locals := 22 } 0 0 2 := cwV 2 ht (GW_v w_4_79 w_4_81 w_0_12 w_1_1 (GW_wl w_4_82)) rfl rfl rfl (by decide +kernel) hR
section S114
variable {p : Program} {l : Launch} {e : Env} {R : Room} {s : State} {m : MethodId} {args : Array Value} {below : List Frame} {meth : Method} {c : Code} {H : Heap} {locs : List Loc} {cells slots : Nat} {Q : State → Prop}
variable {cc : ByteArray} {pc n nL : Nat} {ls : Array Slot} {rest : List Value} {D : va_G} {cy : Nat → ClassId} {Z : Nat → Prop} {ad : Nat → Nat} {tb : List (Nat × Instr × Nat)} {lv : List (Nat × Value)}
set_option maxHeartbeats 4000000 in
set_option maxRecDepth 100000 in
theorem m_Pw_put {l : Launch} {D : va_G} {cy : Nat → ClassId} {ad : Nat → Nat} {I : Nat → Int32} {A : Nat → Nat → Int32} {T : Nat → Option Nat} {L : List Nat} {K : Nat → Nat} {F : Nat → Nat → Int32} {a1 : Int32} {a2 : Int32} {a3 : Int32} {P : Int32 → ((Nat → Nat → Int32)) → Prop} (hw : g_Pw_put A a1 a2 a3 P) : ∀ sz, Met l y_Pw_put (WL y_Pw_put c_Pw_put 4 (some .int)) { frames := 2, cells := 0, slots := 0, locals := 44 } (va_Pc [.ref (ad 0), .int a1, .int a2, .int a3] (PreW D cy (wC cy ad I A T L K F) sz)) (va_Qi P (fun u t => PostW D (va_A (wC cy ad I A T L K F) sz) ((fun (u : (Nat → Nat → Int32)) => wC cy ad I u T L K F) u) t) (va_A (wC cy ad I A T L K F) sz)) 0 0 (va_A (wC cy ad I A T L K F) sz) := by
  refine met_i (wf := fun (u : (Nat → Nat → Int32)) => wC cy ad I u T L K F) R_Pw .int db_Pw_put (by decide) rfl rfl (Nat.le_of_ble_eq_true rfl) ?_
  intro p e s m below meth c Z Q ls C h hl hret
  have hl : lv_has ls 4 [(0, .ref (ad 0)), (1, .int a1), (2, .int a2), (3, .int a3)] := hl
  refine i_aload_n (n := 1) C 0 rfl rfl rfl hl 0 rfl ?_
  refine i_iload_n (n := 2) C 1 rfl rfl rfl hl 1 rfl ?_
  refine i_iload_n (n := 3) C 2 rfl rfl rfl hl 2 rfl ?_
  refine i_callVp (rest := []) (ci := 10) (qc := (R_Pw, T_Pw, 16)) (n := 6) C 3 rfl rfl hl h rfl (wC_get (h := 0) (by decide)) (kV_Pw_269 ⟨by decide, by decide⟩) (m_Pw_hasNumber hw) rfl rfl (Nat.le_of_ble_eq_true rfl) ⟨by decide, by decide⟩ (fun r1 hw => ?_)
  refine i_if_ne (tgt := 11) (n := 9) C 4 rfl rfl rfl (fun c2 => ?_) (fun c2 => ?_)
  · replace hw := hw.1 c2
    refine i_iload_n (n := 12) C 7 rfl rfl rfl hl 3 rfl ?_
    refine i_ldcw (n := 15) C 8 rfl rfl w_4_83 ?_
    refine i_ldcw (n := 18) C 9 rfl rfl w_4_84 ?_
    refine i_callSp (rest := []) (n := 21) C 10 rfl rfl hl h (kS_Pw_69 ⟨by decide, by decide⟩) (m_Pw_isWithin hw) rfl rfl (Nat.le_of_ble_eq_true rfl) ⟨by decide, by decide⟩ (fun r3 hw => ?_)
    refine i_if_ne (tgt := 27) (n := 24) C 11 rfl rfl rfl (fun c4 => ?_) (fun c4 => ?_)
    · replace hw := hw.1 c4
      refine i_aload_n (n := 28) C 14 rfl rfl rfl hl 0 rfl ?_
      refine fgC_Pw_48 (n := 31) C 15 rfl rfl h ?_
      refine i_iload_n (n := 32) C 16 rfl rfl rfl hl 1 rfl ?_
      obtain ⟨hb, hw⟩ := hw
      refine i_aldA (n := 33) C 17 rfl rfl h (wC_get (h := 6) (by decide)) hb (if_pos (vp_in_lt hb)) ?_
      have hr5 := vp_in_lt hb
      refine i_iload_n (n := 34) C 18 rfl rfl rfl hl 2 rfl ?_
      refine i_iload_n (n := 35) C 19 rfl rfl rfl hl 3 rfl ?_
      obtain ⟨hb, hw⟩ := hw
      refine i_iast (n := 36) C 20 rfl rfl h (wC_row4 hr5) hb (wC_rowsA4 hr5 _ _) (fun H locs h => ?_)
      refine i_iconst (v := (1 : Int32)) (n := 37) C 21 rfl rfl rfl ?_
      exact hret _ (sA A (31 + a1.toNatClampNeg) a2 a3) _ _ _ _ rfl hw h (C.dg (k := 22) rfl)
    · replace hw := hw.2 c4
      refine i_bipush (v := (-2 : Int32)) (n := 26) C 12 rfl rfl rfl ?_
      exact hret _ A _ _ _ _ rfl hw h (C.dg (k := 13) rfl)
  · replace hw := hw.2 c2
    refine i_iconst (v := (-1 : Int32)) (n := 10) C 5 rfl rfl rfl ?_
    exact hret _ A _ _ _ _ rfl hw h (C.dg (k := 6) rfl)
end S114
section S115
variable {p : Program} {l : Launch} {e : Env} {R : Room} {s : State} {m : MethodId} {args : Array Value} {below : List Frame} {meth : Method} {c : Code} {H : Heap} {locs : List Loc} {cells slots : Nat} {Q : State → Prop}
variable {cc : ByteArray} {pc n nL : Nat} {ls : Array Slot} {rest : List Value} {D : va_G} {cy : Nat → ClassId} {Z : Nat → Prop} {ad : Nat → Nat} {tb : List (Nat × Instr × Nat)} {lv : List (Nat × Value)}
set_option maxHeartbeats 4000000 in
set_option maxRecDepth 100000 in
theorem m_Pw_none {l : Launch} {D : va_G} {cy : Nat → ClassId} {ad : Nat → Nat} {I : Nat → Int32} {A : Nat → Nat → Int32} {T : Nat → Option Nat} {L : List Nat} {K : Nat → Nat} {F : Nat → Nat → Int32} {a1 : Int32} {a2 : Int32} {P : Int32 → ((Nat → Nat → Int32)) → Prop} (hw : g_Pw_none A a1 a2 P) : ∀ sz, Met l y_Pw_none (WL y_Pw_none c_Pw_none 3 (some .int)) { frames := 2, cells := 0, slots := 0, locals := 44 } (va_Pc [.ref (ad 0), .int a1, .int a2] (PreW D cy (wC cy ad I A T L K F) sz)) (va_Qi P (fun u t => PostW D (va_A (wC cy ad I A T L K F) sz) ((fun (u : (Nat → Nat → Int32)) => wC cy ad I u T L K F) u) t) (va_A (wC cy ad I A T L K F) sz)) 0 0 (va_A (wC cy ad I A T L K F) sz) := by
  refine met_i (wf := fun (u : (Nat → Nat → Int32)) => wC cy ad I u T L K F) R_Pw .int db_Pw_none (by decide) rfl rfl (Nat.le_of_ble_eq_true rfl) ?_
  intro p e s m below meth c Z Q ls C h hl hret
  have hl : lv_has ls 3 [(0, .ref (ad 0)), (1, .int a1), (2, .int a2)] := hl
  refine i_aload_n (n := 1) C 0 rfl rfl rfl hl 0 rfl ?_
  refine i_iload_n (n := 2) C 1 rfl rfl rfl hl 1 rfl ?_
  refine i_iload_n (n := 3) C 2 rfl rfl rfl hl 2 rfl ?_
  refine i_callVp (rest := []) (ci := 10) (qc := (R_Pw, T_Pw, 16)) (n := 6) C 3 rfl rfl hl h rfl (wC_get (h := 0) (by decide)) (kV_Pw_269 ⟨by decide, by decide⟩) (m_Pw_hasNumber hw) rfl rfl (Nat.le_of_ble_eq_true rfl) ⟨by decide, by decide⟩ (fun r1 hw => ?_)
  refine i_if_ne (tgt := 11) (n := 9) C 4 rfl rfl rfl (fun c2 => ?_) (fun c2 => ?_)
  · replace hw := hw.1 c2
    refine i_aload_n (n := 12) C 7 rfl rfl rfl hl 0 rfl ?_
    refine fgC_Pw_48 (n := 15) C 8 rfl rfl h ?_
    refine i_iload_n (n := 16) C 9 rfl rfl rfl hl 1 rfl ?_
    obtain ⟨hb, hw⟩ := hw
    refine i_aldA (n := 17) C 10 rfl rfl h (wC_get (h := 6) (by decide)) hb (if_pos (vp_in_lt hb)) ?_
    have hr3 := vp_in_lt hb
    refine i_iload_n (n := 18) C 11 rfl rfl rfl hl 2 rfl ?_
    refine i_ldc (n := 20) C 12 rfl rfl w_3_228 ?_
    obtain ⟨hb, hw⟩ := hw
    refine i_iast (n := 21) C 13 rfl rfl h (wC_row4 hr3) hb (wC_rowsA4 hr3 _ _) (fun H locs h => ?_)
    refine i_iconst (v := (1 : Int32)) (n := 22) C 14 rfl rfl rfl ?_
    exact hret _ (sA A (31 + a1.toNatClampNeg) a2 (-1000001 : Int32)) _ _ _ _ rfl hw h (C.dg (k := 15) rfl)
  · replace hw := hw.2 c2
    refine i_iconst (v := (-1 : Int32)) (n := 10) C 5 rfl rfl rfl ?_
    exact hret _ A _ _ _ _ rfl hw h (C.dg (k := 6) rfl)
end S115
section S116
variable {p : Program} {l : Launch} {e : Env} {R : Room} {s : State} {m : MethodId} {args : Array Value} {below : List Frame} {meth : Method} {c : Code} {H : Heap} {locs : List Loc} {cells slots : Nat} {Q : State → Prop}
variable {cc : ByteArray} {pc n nL : Nat} {ls : Array Slot} {rest : List Value} {D : va_G} {cy : Nat → ClassId} {Z : Nat → Prop} {ad : Nat → Nat} {tb : List (Nat × Instr × Nat)} {lv : List (Nat × Value)}
set_option maxHeartbeats 4000000 in
set_option maxRecDepth 100000 in
theorem m_Pw_read {l : Launch} {D : va_G} {cy : Nat → ClassId} {ad : Nat → Nat} {I : Nat → Int32} {A : Nat → Nat → Int32} {T : Nat → Option Nat} {L : List Nat} {K : Nat → Nat} {F : Nat → Nat → Int32} {a1 : Int32} {a2 : Int32} {P : Int32 → ((Nat → Nat → Int32)) → Prop} (hw : g_Pw_read I A a1 a2 P) : ∀ sz, Met l y_Pw_read (WL y_Pw_read c_Pw_read 3 (some .int)) { frames := 2, cells := 0, slots := 0, locals := 44 } (va_Pc [.ref (ad 0), .int a1, .int a2] (PreW D cy (wC cy ad I A T L K F) sz)) (va_Qi P (fun u t => PostW D (va_A (wC cy ad I A T L K F) sz) ((fun (u : (Nat → Nat → Int32)) => wC cy ad I u T L K F) u) t) (va_A (wC cy ad I A T L K F) sz)) 0 0 (va_A (wC cy ad I A T L K F) sz) := by
  refine met_i (wf := fun (u : (Nat → Nat → Int32)) => wC cy ad I u T L K F) R_Pw .int db_Pw_read (by decide) rfl rfl (Nat.le_of_ble_eq_true rfl) ?_
  intro p e s m below meth c Z Q ls C h hl hret
  have hl : lv_has ls 3 [(0, .ref (ad 0)), (1, .int a1), (2, .int a2)] := hl
  refine i_aload_n (n := 1) C 0 rfl rfl rfl hl 0 rfl ?_
  refine fgC_Pw_10 (n := 4) C 1 rfl rfl h ?_
  refine i_iload_n (n := 5) C 2 rfl rfl rfl hl 2 rfl ?_
  refine i_callVp (rest := []) (ci := 5) (qc := (R_Ne, T_Ne, 17)) (n := 8) C 3 rfl rfl hl h rfl (wC_get (h := 1) (by decide)) (kV_Pw_77 ⟨by decide, by decide⟩) (m_Ne_has hw) rfl rfl (Nat.le_of_ble_eq_true rfl) ⟨by decide, by decide⟩ (fun r1 hw => ?_)
  refine i_if_eq (tgt := 20) (n := 11) C 4 rfl rfl rfl (fun c2 => ?_) (fun c2 => ?_)
  · replace hw := hw.1 c2
    refine i_ldcw (n := 23) C 10 rfl rfl w_4_93 ?_
    exact hret _ A _ _ _ _ rfl hw h (C.dg (k := 11) rfl)
  · replace hw := hw.2 c2
    refine i_iload_n (n := 12) C 5 rfl rfl rfl hl 1 rfl ?_
    refine i_iconst (v := (0 : Int32)) (n := 13) C 6 rfl rfl rfl ?_
    refine i_iconst (v := (3 : Int32)) (n := 14) C 7 rfl rfl rfl ?_
    refine i_callSp (rest := []) (n := 17) C 8 rfl rfl hl h (kS_Pw_69 ⟨by decide, by decide⟩) (m_Pw_isWithin hw) rfl rfl (Nat.le_of_ble_eq_true rfl) ⟨by decide, by decide⟩ (fun r3 hw => ?_)
    refine i_if_ne (tgt := 24) (n := 20) C 9 rfl rfl rfl (fun c4 => ?_) (fun c4 => ?_)
    · replace hw := hw.1 c4
      refine i_aload_n (n := 25) C 12 rfl rfl rfl hl 0 rfl ?_
      refine i_iload_n (n := 26) C 13 rfl rfl rfl hl 1 rfl ?_
      refine i_iload_n (n := 27) C 14 rfl rfl rfl hl 2 rfl ?_
      refine i_callVp (rest := []) (ci := 10) (qc := (R_Pw, T_Pw, 16)) (n := 30) C 15 rfl rfl hl h rfl (wC_get (h := 0) (by decide)) (kV_Pw_269 ⟨by decide, by decide⟩) (m_Pw_hasNumber hw) rfl rfl (Nat.le_of_ble_eq_true rfl) ⟨by decide, by decide⟩ (fun r5 hw => ?_)
      refine i_if_ne (tgt := 37) (n := 33) C 16 rfl rfl rfl (fun c6 => ?_) (fun c6 => ?_)
      · replace hw := hw.1 c6
        refine i_aload_n (n := 38) C 19 rfl rfl rfl hl 0 rfl ?_
        refine fgC_Pw_48 (n := 41) C 20 rfl rfl h ?_
        refine i_iload_n (n := 42) C 21 rfl rfl rfl hl 1 rfl ?_
        obtain ⟨hb, hw⟩ := hw
        refine i_aldA (n := 43) C 22 rfl rfl h (wC_get (h := 6) (by decide)) hb (if_pos (vp_in_lt hb)) ?_
        have hr7 := vp_in_lt hb
        refine i_iload_n (n := 44) C 23 rfl rfl rfl hl 2 rfl ?_
        obtain ⟨hb, hw⟩ := hw
        refine i_iald (n := 45) C 24 rfl rfl h (wC_row4 hr7) hb ?_
        refine i_ldc (n := 47) C 25 rfl rfl w_3_228 ?_
        refine i_icmp_ne (tgt := 54) (n := 50) C 26 rfl rfl rfl (fun c8 => ?_) (fun c8 => ?_)
        · replace hw := hw.1 c8
          refine i_aload_n (n := 55) C 29 rfl rfl rfl hl 0 rfl ?_
          refine fgC_Pw_54 (n := 58) C 30 rfl rfl h ?_
          refine i_iload_n (n := 59) C 31 rfl rfl rfl hl 2 rfl ?_
          refine i_aload_n (n := 60) C 32 rfl rfl rfl hl 0 rfl ?_
          refine fgC_Pw_48 (n := 63) C 33 rfl rfl h ?_
          refine i_iload_n (n := 64) C 34 rfl rfl rfl hl 1 rfl ?_
          obtain ⟨hb, hw⟩ := hw
          refine i_aldA (n := 65) C 35 rfl rfl h (wC_get (h := 6) (by decide)) hb (if_pos (vp_in_lt hb)) ?_
          have hr9 := vp_in_lt hb
          refine i_iload_n (n := 66) C 36 rfl rfl rfl hl 2 rfl ?_
          obtain ⟨hb, hw⟩ := hw
          refine i_iald (n := 67) C 37 rfl rfl h (wC_row4 hr9) hb ?_
          refine i_bipush (v := (100 : Int32)) (n := 69) C 38 rfl rfl rfl ?_
          refine i_idiv (n := 70) C 39 rfl rfl (by decide) ?_
          obtain ⟨hb, hw⟩ := hw
          refine i_iast (n := 71) C 40 rfl rfl h (wC_arr 4 (by decide) rfl) hb (wC_sA 4 (by decide) rfl _ _) (fun H locs h => ?_)
          refine i_aload_n (n := 72) C 41 rfl rfl rfl hl 0 rfl ?_
          refine fgC_Pw_54 (n := 75) C 42 rfl rfl h ?_
          refine i_iload_n (n := 76) C 43 rfl rfl rfl hl 2 rfl ?_
          obtain ⟨hb, hw⟩ := hw
          refine i_iald (n := 77) C 44 rfl rfl h (wC_arr 4 (by decide) rfl) hb ?_
          exact hret _ (sA A 4 a2 ((A (31 + a1.toNatClampNeg) a2.toNatClampNeg) / (100 : Int32))) _ _ _ _ rfl hw h (C.dg (k := 45) rfl)
        · replace hw := hw.2 c8
          refine i_ldcw (n := 53) C 27 rfl rfl w_4_95 ?_
          exact hret _ A _ _ _ _ rfl hw h (C.dg (k := 28) rfl)
      · replace hw := hw.2 c6
        refine i_ldcw (n := 36) C 17 rfl rfl w_4_94 ?_
        exact hret _ A _ _ _ _ rfl hw h (C.dg (k := 18) rfl)
    · replace hw := hw.2 c4
      refine i_ldcw (n := 23) C 10 rfl rfl w_4_93 ?_
      exact hret _ A _ _ _ _ rfl hw h (C.dg (k := 11) rfl)
end S116
section S117
variable {p : Program} {l : Launch} {e : Env} {R : Room} {s : State} {m : MethodId} {args : Array Value} {below : List Frame} {meth : Method} {c : Code} {H : Heap} {locs : List Loc} {cells slots : Nat} {Q : State → Prop}
variable {cc : ByteArray} {pc n nL : Nat} {ls : Array Slot} {rest : List Value} {D : va_G} {cy : Nat → ClassId} {Z : Nat → Prop} {ad : Nat → Nat} {tb : List (Nat × Instr × Nat)} {lv : List (Nat × Value)}
set_option maxHeartbeats 4000000 in
set_option maxRecDepth 100000 in
theorem m_Or_addSign {l : Launch} {D : va_G} {cy : Nat → ClassId} {ad : Nat → Nat} {I : Nat → Int32} {A : Nat → Nat → Int32} {T : Nat → Option Nat} {L : List Nat} {K : Nat → Nat} {F : Nat → Nat → Int32} {a1 : Int32} {P : Int32 → ((Nat → Int32) × (Nat → Nat → Int32)) → Prop} (hw : g_Or_addSign I A a1 P) : ∀ sz, Met l y_Or_addSign (WL y_Or_addSign c_Or_addSign 2 (some .int)) { frames := 0, cells := 0, slots := 0, locals := 0 } (va_Pc [.ref (ad 3), .int a1] (PreW D cy (wC cy ad I A T L K F) sz)) (va_Qi P (fun u t => PostW D (va_A (wC cy ad I A T L K F) sz) ((fun (u : (Nat → Int32) × (Nat → Nat → Int32)) => wC cy ad u.1 u.2 T L K F) u) t) (va_A (wC cy ad I A T L K F) sz)) 0 0 (va_A (wC cy ad I A T L K F) sz) := by
  refine met_i (wf := fun (u : (Nat → Int32) × (Nat → Nat → Int32)) => wC cy ad u.1 u.2 T L K F) R_Or .int db_Or_addSign (by decide) rfl rfl (Nat.le_of_ble_eq_true rfl) ?_
  intro p e s m below meth c Z Q ls C h hl hret
  have hl : lv_has ls 2 [(0, .ref (ad 3)), (1, .int a1)] := hl
  refine i_aload_n (n := 1) C 0 rfl rfl rfl hl 0 rfl ?_
  refine fgC_Or_26 (n := 4) C 1 rfl rfl h ?_
  refine i_bipush (v := (40 : Int32)) (n := 6) C 2 rfl rfl rfl ?_
  refine i_icmp_lt (tgt := 12) (n := 9) C 3 rfl rfl rfl (fun c1 => ?_) (fun c1 => ?_)
  · replace hw := hw.1 c1
    refine i_aload_n (n := 13) C 6 rfl rfl rfl hl 0 rfl ?_
    refine fgC_Or_11 (n := 16) C 7 rfl rfl h ?_
    refine i_aload_n (n := 17) C 8 rfl rfl rfl hl 0 rfl ?_
    refine fgC_Or_26 (n := 20) C 9 rfl rfl h ?_
    refine i_iload_n (n := 21) C 10 rfl rfl rfl hl 1 rfl ?_
    obtain ⟨hb, hw⟩ := hw
    refine i_iast (n := 22) C 11 rfl rfl h (wC_arr 22 (by decide) rfl) hb (wC_sA 22 (by decide) rfl _ _) (fun H locs h => ?_)
    refine i_aload_n (n := 23) C 12 rfl rfl rfl hl 0 rfl ?_
    refine i_dup (n := 24) C 13 rfl rfl rfl ?_
    refine fgC_Or_26 (n := 27) C 14 rfl rfl h ?_
    refine i_iconst (v := (1 : Int32)) (n := 28) C 15 rfl rfl rfl ?_
    refine i_iadd (n := 29) C 16 rfl rfl ?_
    refine fpC_Or_26 (n := 32) C 17 rfl rfl h (fun H locs h => ?_)
    refine i_aload_n (n := 33) C 18 rfl rfl rfl hl 0 rfl ?_
    refine fgC_Or_26 (n := 36) C 19 rfl rfl h ?_
    exact hret _ (va_up I 12 ((I 12) + (1 : Int32)), sA A 22 (I 12) a1) _ _ _ _ rfl hw h (C.dg (k := 20) rfl)
  · replace hw := hw.2 c1
    refine i_bipush (v := (-4 : Int32)) (n := 11) C 4 rfl rfl rfl ?_
    exact hret _ (I, A) _ _ _ _ rfl hw h (C.dg (k := 5) rfl)
end S117
theorem kV_Pw_277 {R : Room} {s : State} {args : Array Value} (hR : 0 + 1 ≤ R.frames ∧ 8 + (2 + 11) + 0 ≤ R.locals) (ht : ∀ w ∈ GW, w.before args s = true) : CallW R s args R_Pw R_Or 277 y_Or_addSign c_Or_addSign 2 (some .int) (WL y_Or_addSign c_Or_addSign 2 (some .int)) { frames := 0, cells := 0, slots := 0, locals := 0 } 0 0 1 := cwV 1 ht (GW_v w_4_100 w_4_101 w_4_102 w_1_4 (GW_wl w_4_103)) rfl rfl rfl (by decide +kernel) hR
section S118
variable {p : Program} {l : Launch} {e : Env} {R : Room} {s : State} {m : MethodId} {args : Array Value} {below : List Frame} {meth : Method} {c : Code} {H : Heap} {locs : List Loc} {cells slots : Nat} {Q : State → Prop}
variable {cc : ByteArray} {pc n nL : Nat} {ls : Array Slot} {rest : List Value} {D : va_G} {cy : Nat → ClassId} {Z : Nat → Prop} {ad : Nat → Nat} {tb : List (Nat × Instr × Nat)} {lv : List (Nat × Value)}
set_option maxHeartbeats 4000000 in
set_option maxRecDepth 100000 in
theorem m_Pw_say {l : Launch} {D : va_G} {cy : Nat → ClassId} {ad : Nat → Nat} {I : Nat → Int32} {A : Nat → Nat → Int32} {T : Nat → Option Nat} {L : List Nat} {K : Nat → Nat} {F : Nat → Nat → Int32} {a1 : Int32} {P : Int32 → ((Nat → Int32) × (Nat → Nat → Int32)) → Prop} (hw : g_Pw_say I A a1 P) : ∀ sz, Met l y_Pw_say (WL y_Pw_say c_Pw_say 2 (some .int)) { frames := 1, cells := 0, slots := 0, locals := 22 } (va_Pc [.ref (ad 0), .int a1] (PreW D cy (wC cy ad I A T L K F) sz)) (va_Qi P (fun u t => PostW D (va_A (wC cy ad I A T L K F) sz) ((fun (u : (Nat → Int32) × (Nat → Nat → Int32)) => wC cy ad u.1 u.2 T L K F) u) t) (va_A (wC cy ad I A T L K F) sz)) 0 0 (va_A (wC cy ad I A T L K F) sz) := by
  refine met_i (wf := fun (u : (Nat → Int32) × (Nat → Nat → Int32)) => wC cy ad u.1 u.2 T L K F) R_Pw .int db_Pw_say (by decide) rfl rfl (Nat.le_of_ble_eq_true rfl) ?_
  intro p e s m below meth c Z Q ls C h hl hret
  have hl : lv_has ls 2 [(0, .ref (ad 0)), (1, .int a1)] := hl
  refine i_iload_n (n := 1) C 0 rfl rfl rfl hl 1 rfl ?_
  refine i_bipush (v := (33 : Int32)) (n := 3) C 1 rfl rfl rfl ?_
  refine i_bipush (v := (126 : Int32)) (n := 5) C 2 rfl rfl rfl ?_
  refine i_callSp (rest := []) (n := 8) C 3 rfl rfl hl h (kS_Pw_69 ⟨by decide, by decide⟩) (m_Pw_isWithin hw) rfl rfl (Nat.le_of_ble_eq_true rfl) ⟨by decide, by decide⟩ (fun r1 hw => ?_)
  refine i_if_eq (tgt := 22) (n := 11) C 4 rfl rfl rfl (fun c2 => ?_) (fun c2 => ?_)
  · replace hw := hw.1 c2
    refine i_bipush (v := (-2 : Int32)) (n := 24) C 10 rfl rfl rfl ?_
    exact hret _ (I, A) _ _ _ _ rfl hw h (C.dg (k := 11) rfl)
  · replace hw := hw.2 c2
    refine i_aload_n (n := 12) C 5 rfl rfl rfl hl 0 rfl ?_
    refine fgC_Pw_24 (n := 15) C 6 rfl rfl h ?_
    refine i_iload_n (n := 16) C 7 rfl rfl rfl hl 1 rfl ?_
    refine i_callVi (rest := []) (ci := 6) (qc := (R_Or, T_Or, 6)) (n := 19) C 8 rfl rfl hl h rfl (wC_get (h := 3) (by decide)) (kV_Pw_277 ⟨by decide, by decide⟩) (m_Or_addSign hw) rfl rfl (Nat.le_of_ble_eq_true rfl) ⟨by decide, by decide⟩ (fun r3 u4 H locs hw h => ?_)
    refine i_goto (tgt := 24) C 9 rfl rfl ?_
    exact hret _ (u4.1, u4.2) _ _ _ _ rfl hw h (C.dg (k := 11) rfl)
end S118
section S119
variable {p : Program} {l : Launch} {e : Env} {R : Room} {s : State} {m : MethodId} {args : Array Value} {below : List Frame} {meth : Method} {c : Code} {H : Heap} {locs : List Loc} {cells slots : Nat} {Q : State → Prop}
variable {cc : ByteArray} {pc n nL : Nat} {ls : Array Slot} {rest : List Value} {D : va_G} {cy : Nat → ClassId} {Z : Nat → Prop} {ad : Nat → Nat} {tb : List (Nat × Instr × Nat)} {lv : List (Nat × Value)}
set_option maxHeartbeats 4000000 in
set_option maxRecDepth 100000 in
theorem m_Or_dropSigns {l : Launch} {D : va_G} {cy : Nat → ClassId} {ad : Nat → Nat} {I : Nat → Int32} {A : Nat → Nat → Int32} {T : Nat → Option Nat} {L : List Nat} {K : Nat → Nat} {F : Nat → Nat → Int32}  {P : Int32 → ((Nat → Int32)) → Prop} (hw : g_Or_dropSigns I P) : ∀ sz, Met l y_Or_dropSigns (WL y_Or_dropSigns c_Or_dropSigns 2 (some .int)) { frames := 0, cells := 0, slots := 0, locals := 0 } (va_Pc [.ref (ad 3)] (PreW D cy (wC cy ad I A T L K F) sz)) (va_Qi P (fun u t => PostW D (va_A (wC cy ad I A T L K F) sz) ((fun (u : (Nat → Int32)) => wC cy ad u A T L K F) u) t) (va_A (wC cy ad I A T L K F) sz)) 0 0 (va_A (wC cy ad I A T L K F) sz) := by
  refine met_i (wf := fun (u : (Nat → Int32)) => wC cy ad u A T L K F) R_Or .int db_Or_dropSigns (by decide) rfl rfl (Nat.le_of_ble_eq_true rfl) ?_
  intro p e s m below meth c Z Q ls C h hl hret
  have hl : lv_has ls 2 [(0, .ref (ad 3))] := hl
  refine i_aload_n (n := 1) C 0 rfl rfl rfl hl 0 rfl ?_
  refine fgC_Or_26 (n := 4) C 1 rfl rfl h ?_
  refine lv_topi (fun y1 ey1 => ?_)
  replace hw := hw y1 ey1
  refine i_istore_n (lv' := [(1, .int y1), (0, .ref (ad 3))]) (n := 5) C 2 rfl rfl rfl hl (by decide) rfl (fun ls hl => ?_)
  refine i_aload_n (n := 6) C 3 rfl rfl rfl hl 1 rfl ?_
  refine i_iconst (v := (0 : Int32)) (n := 7) C 4 rfl rfl rfl ?_
  refine fpC_Or_26 (n := 10) C 5 rfl rfl h (fun H locs h => ?_)
  refine i_iload_n (n := 11) C 6 rfl rfl rfl hl 0 rfl ?_
  exact hret _ (va_up I 12 (0 : Int32)) _ _ _ _ rfl hw h (C.dg (k := 7) rfl)
end S119
theorem kV_Pw_280 {R : Room} {s : State} {args : Array Value} (hR : 0 + 1 ≤ R.frames ∧ 8 + (2 + 11) + 0 ≤ R.locals) (ht : ∀ w ∈ GW, w.before args s = true) : CallW R s args R_Pw R_Or 280 y_Or_dropSigns c_Or_dropSigns 2 (some .int) (WL y_Or_dropSigns c_Or_dropSigns 2 (some .int)) { frames := 0, cells := 0, slots := 0, locals := 0 } 0 0 0 := cwV 0 ht (GW_v w_4_108 w_4_109 w_4_110 w_1_4 (GW_wl w_4_111)) rfl rfl rfl (by decide +kernel) hR
section S120
variable {p : Program} {l : Launch} {e : Env} {R : Room} {s : State} {m : MethodId} {args : Array Value} {below : List Frame} {meth : Method} {c : Code} {H : Heap} {locs : List Loc} {cells slots : Nat} {Q : State → Prop}
variable {cc : ByteArray} {pc n nL : Nat} {ls : Array Slot} {rest : List Value} {D : va_G} {cy : Nat → ClassId} {Z : Nat → Prop} {ad : Nat → Nat} {tb : List (Nat × Instr × Nat)} {lv : List (Nat × Value)}
set_option maxHeartbeats 4000000 in
set_option maxRecDepth 100000 in
theorem m_Pw_wipe {l : Launch} {D : va_G} {cy : Nat → ClassId} {ad : Nat → Nat} {I : Nat → Int32} {A : Nat → Nat → Int32} {T : Nat → Option Nat} {L : List Nat} {K : Nat → Nat} {F : Nat → Nat → Int32}  {P : Int32 → ((Nat → Int32)) → Prop} (hw : g_Pw_wipe I P) : ∀ sz, Met l y_Pw_wipe (WL y_Pw_wipe c_Pw_wipe 1 (some .int)) { frames := 1, cells := 0, slots := 0, locals := 21 } (va_Pc [.ref (ad 0)] (PreW D cy (wC cy ad I A T L K F) sz)) (va_Qi P (fun u t => PostW D (va_A (wC cy ad I A T L K F) sz) ((fun (u : (Nat → Int32)) => wC cy ad u A T L K F) u) t) (va_A (wC cy ad I A T L K F) sz)) 0 0 (va_A (wC cy ad I A T L K F) sz) := by
  refine met_i (wf := fun (u : (Nat → Int32)) => wC cy ad u A T L K F) R_Pw .int db_Pw_wipe (by decide) rfl rfl (Nat.le_of_ble_eq_true rfl) ?_
  intro p e s m below meth c Z Q ls C h hl hret
  have hl : lv_has ls 1 [(0, .ref (ad 0))] := hl
  refine i_aload_n (n := 1) C 0 rfl rfl rfl hl 0 rfl ?_
  refine fgC_Pw_24 (n := 4) C 1 rfl rfl h ?_
  refine i_callVi (rest := []) (ci := 6) (qc := (R_Or, T_Or, 6)) (n := 7) C 2 rfl rfl hl h rfl (wC_get (h := 3) (by decide)) (kV_Pw_280 ⟨by decide, by decide⟩) (m_Or_dropSigns hw) rfl rfl (Nat.le_of_ble_eq_true rfl) ⟨by decide, by decide⟩ (fun r1 u2 H locs hw h => ?_)
  exact hret _ u2 _ _ _ _ rfl hw h (C.dg (k := 3) rfl)
end S120
theorem kSN_Or_50 {R : Room} {s : State} {args : Array Value} (hR : 0 + 1 ≤ R.frames ∧ 8 + (3 + 11) + 0 ≤ R.locals) (ht : ∀ w ∈ GW, w.before args s = true) (hN : NX s) : va_CN R s args R_Or 50 y_Pw_isWithin R_Pw c_Pw_isWithin 3 (some .boolean) (WL y_Pw_isWithin c_Pw_isWithin 3 (some .boolean)) { frames := 0, cells := 0, slots := 0, locals := 0 } 0 0 3 ∧ (Cond.static y_Pw_isWithin).before args s = true ∧ True := ⟨va_cnB 3 ht (GW_in (GW_wl w_2_17)) rfl rfl rfl (hN.1 _ (by simp [nxW])) (ht _ w_1_1) (by decide +kernel) hR, ht _ w_2_16, trivial⟩
section S121
variable {p : Program} {l : Launch} {e : Env} {R : Room} {s : State} {m : MethodId} {args : Array Value} {below : List Frame} {meth : Method} {c : Code} {H : Heap} {locs : List Loc} {cells slots : Nat} {Q : State → Prop}
variable {cc : ByteArray} {pc n nL : Nat} {ls : Array Slot} {rest : List Value} {D : va_G} {cy : Nat → ClassId} {Z : Nat → Prop} {ad : Nat → Nat} {tb : List (Nat × Instr × Nat)} {lv : List (Nat × Value)}
set_option maxHeartbeats 4000000 in
set_option maxRecDepth 100000 in
theorem m_Or_isFigure {l : Launch} {D : va_G} {cy : Nat → ClassId}   {a1 : Int32} {w : va_W} {P : Int32 → Prop} (hw : g_Or_isFigure a1 P) : ∀ sz, Met l y_Or_isFigure (WL y_Or_isFigure c_Or_isFigure 1 (some .boolean)) { frames := 1, cells := 0, slots := 0, locals := 22 } (va_Pc [.int a1] (PreW D cy (w) sz)) (vp_Si P) 0 0 (fun _ => False) := by
  refine met_p R_Or .boolean db_Or_isFigure (by decide) rfl rfl (Nat.le_of_ble_eq_true rfl) ?_
  intro p e s m below meth c Z Q ls C h hl hret
  have hl : lv_has ls 1 [(0, .int a1)] := hl
  refine i_iload_n (n := 1) C 0 rfl rfl rfl hl 0 rfl ?_
  refine i_bipush (v := (48 : Int32)) (n := 3) C 1 rfl rfl rfl ?_
  refine i_bipush (v := (57 : Int32)) (n := 5) C 2 rfl rfl rfl ?_
  refine i_callSNp (rest := []) (n := 8) C 3 rfl rfl hl h (kSN_Or_50 ⟨by decide, by decide⟩) (m_Pw_isWithin hw) rfl rfl (Nat.le_of_ble_eq_true rfl) ⟨by decide, by decide⟩ (fun r1 hw => ?_)
  obtain ⟨hB, hw⟩ := hw
  exact hret _ _ _ hB.nar hw (C.dg (k := 4) rfl)
end S121
theorem kS_Or_54 {R : Room} {s : State} {args : Array Value} (hR : 1 + 1 ≤ R.frames ∧ 8 + (1 + 11) + 22 ≤ R.locals) (ht : ∀ w ∈ GW, w.before args s = true) : CallB R s args R_Or 54 y_Or_isFigure c_Or_isFigure 1 (some .boolean) (WL y_Or_isFigure c_Or_isFigure 1 (some .boolean)) { frames := 1, cells := 0, slots := 0, locals := 22 } 0 0 1 ∧ (Cond.static y_Or_isFigure).before args s = true := cwS 1 ht (GW_s w_4_124 w_4_125 w_1_4 (GW_wl w_4_126)) rfl rfl rfl (by decide +kernel) hR
section S122
variable {p : Program} {l : Launch} {e : Env} {R : Room} {s : State} {m : MethodId} {args : Array Value} {below : List Frame} {meth : Method} {c : Code} {H : Heap} {locs : List Loc} {cells slots : Nat} {Q : State → Prop}
variable {cc : ByteArray} {pc n nL : Nat} {ls : Array Slot} {rest : List Value} {D : va_G} {cy : Nat → ClassId} {Z : Nat → Prop} {ad : Nat → Nat} {tb : List (Nat × Instr × Nat)} {lv : List (Nat × Value)}
set_option maxHeartbeats 4000000 in
set_option maxRecDepth 100000 in
theorem m_Or_dueBehindFigure {l : Launch} {D : va_G} {cy : Nat → ClassId}   {a1 : Int32} {a2 : Int32} {w : va_W} {P : Int32 → Prop} (hw : g_Or_dueBehindFigure a1 a2 P) : ∀ sz, Met l y_Or_dueBehindFigure (WL y_Or_dueBehindFigure c_Or_dueBehindFigure 2 (some .int)) { frames := 2, cells := 0, slots := 0, locals := 42 } (va_Pc [.int a1, .int a2] (PreW D cy (w) sz)) (vp_Si P) 0 0 (fun _ => False) := by
  refine met_p R_Or .int db_Or_dueBehindFigure (by decide) rfl rfl (Nat.le_of_ble_eq_true rfl) ?_
  intro p e s m below meth c Z Q ls C h hl hret
  have hl : lv_has ls 2 [(0, .int a1), (1, .int a2)] := hl
  refine i_iload_n (n := 1) C 0 rfl rfl rfl hl 1 rfl ?_
  refine i_bipush (v := (38 : Int32)) (n := 3) C 1 rfl rfl rfl ?_
  refine i_icmp_ne (tgt := 8) (n := 6) C 2 rfl rfl rfl (fun c1 => ?_) (fun c1 => ?_)
  · replace hw := hw.1 c1
    refine i_iload_n (n := 9) C 5 rfl rfl rfl hl 1 rfl ?_
    refine i_bipush (v := (58 : Int32)) (n := 11) C 6 rfl rfl rfl ?_
    refine i_icmp_ne (tgt := 16) (n := 14) C 7 rfl rfl rfl (fun c2 => ?_) (fun c2 => ?_)
    · replace hw := hw.1 c2
      refine i_iload_n (n := 17) C 10 rfl rfl rfl hl 1 rfl ?_
      refine i_callSp (rest := []) (n := 20) C 11 rfl rfl hl h (kS_Or_54 ⟨by decide, by decide⟩) (m_Or_isFigure hw) rfl rfl (Nat.le_of_ble_eq_true rfl) ⟨by decide, by decide⟩ (fun r3 hw => ?_)
      refine i_if_eq (tgt := 35) (n := 23) C 12 rfl rfl rfl (fun c4 => ?_) (fun c4 => ?_)
      · replace hw := hw.1 c4
        refine i_bipush (v := (-6 : Int32)) (n := 37) C 20 rfl rfl rfl ?_
        exact hret _ _ _ rfl hw (C.dg (k := 21) rfl)
      · replace hw := hw.2 c4
        refine i_iload_n (n := 24) C 13 rfl rfl rfl hl 0 rfl ?_
        refine i_bipush (v := (13 : Int32)) (n := 26) C 14 rfl rfl rfl ?_
        refine i_icmp_ge (tgt := 35) (n := 29) C 15 rfl rfl rfl (fun c5 => ?_) (fun c5 => ?_)
        · replace hw := hw.1 c5
          refine i_bipush (v := (-6 : Int32)) (n := 37) C 20 rfl rfl rfl ?_
          exact hret _ _ _ rfl hw (C.dg (k := 21) rfl)
        · replace hw := hw.2 c5
          refine i_iload_n (n := 30) C 16 rfl rfl rfl hl 0 rfl ?_
          refine i_iconst (v := (1 : Int32)) (n := 31) C 17 rfl rfl rfl ?_
          refine i_iadd (n := 32) C 18 rfl rfl ?_
          refine i_goto (tgt := 37) C 19 rfl rfl ?_
          exact hret _ _ _ rfl hw (C.dg (k := 21) rfl)
    · replace hw := hw.2 c2
      refine i_iconst (v := (4 : Int32)) (n := 15) C 8 rfl rfl rfl ?_
      exact hret _ _ _ rfl hw (C.dg (k := 9) rfl)
  · replace hw := hw.2 c1
    refine i_iconst (v := (0 : Int32)) (n := 7) C 3 rfl rfl rfl ?_
    exact hret _ _ _ rfl hw (C.dg (k := 4) rfl)
end S122
theorem kS_Or_58 {R : Room} {s : State} {args : Array Value} (hR : 2 + 1 ≤ R.frames ∧ 8 + (2 + 11) + 42 ≤ R.locals) (ht : ∀ w ∈ GW, w.before args s = true) : CallB R s args R_Or 58 y_Or_dueBehindFigure c_Or_dueBehindFigure 2 (some .int) (WL y_Or_dueBehindFigure c_Or_dueBehindFigure 2 (some .int)) { frames := 2, cells := 0, slots := 0, locals := 42 } 0 0 2 ∧ (Cond.static y_Or_dueBehindFigure).before args s = true := cwS 2 ht (GW_s w_4_127 w_4_128 w_1_4 (GW_wl w_4_129)) rfl rfl rfl (by decide +kernel) hR
section S123
variable {p : Program} {l : Launch} {e : Env} {R : Room} {s : State} {m : MethodId} {args : Array Value} {below : List Frame} {meth : Method} {c : Code} {H : Heap} {locs : List Loc} {cells slots : Nat} {Q : State → Prop}
variable {cc : ByteArray} {pc n nL : Nat} {ls : Array Slot} {rest : List Value} {D : va_G} {cy : Nat → ClassId} {Z : Nat → Prop} {ad : Nat → Nat} {tb : List (Nat × Instr × Nat)} {lv : List (Nat × Value)}
set_option maxHeartbeats 4000000 in
set_option maxRecDepth 100000 in
theorem e_Or_dueBehind_70  {a1 : Int32} {a2 : Int32} {P : Int32 → Prop}  {w : va_W} (C : CX D cy R_Or c_Or_dueBehind tb_Or_dueBehind 2 p s m args c Z) (h : HXw D Z s.heap H locs (w)) (hret : RetP p l e { frames := 3, cells := 0, slots := 0, locals := 63 } s m args below meth c c_Or_dueBehind .int H locs Q P) :
    ∀ (ls : Array Slot), lv_has ls 2 [] → g_Or_dueBehind_70 a1 a2 P   → W p l e { frames := 3, cells := 0, slots := 0, locals := 63 } s m args below meth c H locs 0 0 Q (F0 m 70 ls []) := by
  intro  ls hl hw
  refine i_iconst (v := (1 : Int32)) (n := 71) C 13 rfl rfl rfl ?_
  refine i_goto (tgt := 76) C 14 rfl rfl ?_
  exact hret _ _ _ rfl hw (C.dg (k := 16) rfl)
set_option maxHeartbeats 4000000 in
set_option maxRecDepth 100000 in
theorem e_Or_dueBehind_107  {a1 : Int32} {a2 : Int32} {P : Int32 → Prop}  {w : va_W} (C : CX D cy R_Or c_Or_dueBehind tb_Or_dueBehind 2 p s m args c Z) (h : HXw D Z s.heap H locs (w)) (hret : RetP p l e { frames := 3, cells := 0, slots := 0, locals := 63 } s m args below meth c c_Or_dueBehind .int H locs Q P) :
    ∀ (ls : Array Slot), lv_has ls 2 [] → g_Or_dueBehind_107 a1 a2 P   → W p l e { frames := 3, cells := 0, slots := 0, locals := 63 } s m args below meth c H locs 0 0 Q (F0 m 107 ls []) := by
  intro  ls hl hw
  refine i_iconst (v := (3 : Int32)) (n := 108) C 32 rfl rfl rfl ?_
  refine i_goto (tgt := 113) C 33 rfl rfl ?_
  exact hret _ _ _ rfl hw (C.dg (k := 35) rfl)
set_option maxHeartbeats 4000000 in
set_option maxRecDepth 100000 in
theorem e_Or_dueBehind_141  {a1 : Int32} {a2 : Int32} {P : Int32 → Prop}  {w : va_W} (C : CX D cy R_Or c_Or_dueBehind tb_Or_dueBehind 2 p s m args c Z) (h : HXw D Z s.heap H locs (w)) (hret : RetP p l e { frames := 3, cells := 0, slots := 0, locals := 63 } s m args below meth c c_Or_dueBehind .int H locs Q P) :
    ∀ (ls : Array Slot), lv_has ls 2 [] → g_Or_dueBehind_141 a1 a2 P   → W p l e { frames := 3, cells := 0, slots := 0, locals := 63 } s m args below meth c H locs 0 0 Q (F0 m 141 ls []) := by
  intro  ls hl hw
  refine i_iconst (v := (5 : Int32)) (n := 142) C 49 rfl rfl rfl ?_
  refine i_goto (tgt := 164) C 50 rfl rfl ?_
  exact hret _ _ _ rfl hw (C.dg (k := 60) rfl)
set_option maxHeartbeats 4000000 in
set_option maxRecDepth 100000 in
theorem e_Or_dueBehind_157  {a1 : Int32} {a2 : Int32} {P : Int32 → Prop}  {w : va_W} (C : CX D cy R_Or c_Or_dueBehind tb_Or_dueBehind 2 p s m args c Z) (h : HXw D Z s.heap H locs (w)) (hret : RetP p l e { frames := 3, cells := 0, slots := 0, locals := 63 } s m args below meth c c_Or_dueBehind .int H locs Q P) :
    ∀ (ls : Array Slot), lv_has ls 2 [] → g_Or_dueBehind_157 a1 a2 P   → W p l e { frames := 3, cells := 0, slots := 0, locals := 63 } s m args below meth c H locs 0 0 Q (F0 m 157 ls []) := by
  intro  ls hl hw
  refine i_bipush (v := (6 : Int32)) (n := 159) C 57 rfl rfl rfl ?_
  refine i_goto (tgt := 164) C 58 rfl rfl ?_
  exact hret _ _ _ rfl hw (C.dg (k := 60) rfl)
set_option maxHeartbeats 4000000 in
set_option maxRecDepth 100000 in
theorem m_Or_dueBehind {l : Launch} {D : va_G} {cy : Nat → ClassId}   {a1 : Int32} {a2 : Int32} {w : va_W} {P : Int32 → Prop} (hw : g_Or_dueBehind a1 a2 P) : ∀ sz, Met l y_Or_dueBehind (WL y_Or_dueBehind c_Or_dueBehind 2 (some .int)) { frames := 3, cells := 0, slots := 0, locals := 63 } (va_Pc [.int a1, .int a2] (PreW D cy (w) sz)) (vp_Si P) 0 0 (fun _ => False) := by
  refine met_p R_Or .int db_Or_dueBehind (by decide) rfl rfl (Nat.le_of_ble_eq_true rfl) ?_
  intro p e s m below meth c Z Q ls C h hl hret
  have hl : lv_has ls 2 [(0, .int a1), (1, .int a2)] := hl
  refine i_iload_n (n := 1) C 0 rfl rfl rfl hl 0 rfl ?_
  by_cases c1 : a1 = (0 : Int32)
  · replace hw := hw.1 c1
    refine i_tsw (tgt := 48) C 1 rfl c1 (by decide) (by decide) rfl rfl ?_
    refine i_iload_n (n := 49) C 2 rfl rfl rfl hl 1 rfl ?_
    refine i_bipush (v := (109 : Int32)) (n := 51) C 3 rfl rfl rfl ?_
    refine i_icmp_ne (tgt := 58) (n := 54) C 4 rfl rfl rfl (fun c2 => ?_) (fun c2 => ?_)
    · replace hw := hw.1 c2
      refine i_iload_n (n := 59) C 7 rfl rfl rfl hl 1 rfl ?_
      refine i_bipush (v := (103 : Int32)) (n := 61) C 8 rfl rfl rfl ?_
      refine i_icmp_eq (tgt := 70) (n := 64) C 9 rfl rfl rfl (fun c3 => ?_) (fun c3 => ?_)
      · replace hw := hw.1 c3
        exact e_Or_dueBehind_70 C h hret   ls (lv_sub hl [] rfl) hw
      · replace hw := hw.2 c3
        refine i_iload_n (n := 65) C 10 rfl rfl rfl hl 1 rfl ?_
        refine i_bipush (v := (116 : Int32)) (n := 67) C 11 rfl rfl rfl ?_
        refine i_icmp_ne (tgt := 74) (n := 70) C 12 rfl rfl rfl (fun c4 => ?_) (fun c4 => ?_)
        · replace hw := hw.1 c4
          refine i_bipush (v := (-6 : Int32)) (n := 76) C 15 rfl rfl rfl ?_
          exact hret _ _ _ rfl hw (C.dg (k := 16) rfl)
        · replace hw := hw.2 c4
          exact e_Or_dueBehind_70 C h hret   ls (lv_sub hl [] rfl) hw
    · replace hw := hw.2 c2
      refine i_iconst (v := (2 : Int32)) (n := 55) C 5 rfl rfl rfl ?_
      refine i_goto (tgt := 76) C 6 rfl rfl ?_
      exact hret _ _ _ rfl hw (C.dg (k := 16) rfl)
  replace hw := hw.2
  by_cases c5 : a1 = (1 : Int32)
  · replace hw := hw.1 c5
    refine i_tsw (tgt := 77) C 1 rfl c5 (by decide) (by decide) rfl rfl ?_
    refine i_iload_n (n := 78) C 17 rfl rfl rfl hl 1 rfl ?_
    refine i_bipush (v := (97 : Int32)) (n := 80) C 18 rfl rfl rfl ?_
    refine i_bipush (v := (108 : Int32)) (n := 82) C 19 rfl rfl rfl ?_
    refine i_callSNp (rest := []) (n := 85) C 20 rfl rfl hl h (kSN_Or_50 ⟨by decide, by decide⟩) (m_Pw_isWithin hw) rfl rfl (Nat.le_of_ble_eq_true rfl) ⟨by decide, by decide⟩ (fun r6 hw => ?_)
    refine i_if_eq (tgt := 92) (n := 88) C 21 rfl rfl rfl (fun c7 => ?_) (fun c7 => ?_)
    · replace hw := hw.1 c7
      refine i_bipush (v := (-6 : Int32)) (n := 94) C 24 rfl rfl rfl ?_
      exact hret _ _ _ rfl hw (C.dg (k := 25) rfl)
    · replace hw := hw.2 c7
      refine i_iconst (v := (2 : Int32)) (n := 89) C 22 rfl rfl rfl ?_
      refine i_goto (tgt := 94) C 23 rfl rfl ?_
      exact hret _ _ _ rfl hw (C.dg (k := 25) rfl)
  replace hw := hw.2
  by_cases c8 : a1 = (2 : Int32)
  · replace hw := hw.1 c8
    refine i_tsw (tgt := 95) C 1 rfl c8 (by decide) (by decide) rfl rfl ?_
    refine i_iload_n (n := 96) C 26 rfl rfl rfl hl 1 rfl ?_
    refine i_bipush (v := (60 : Int32)) (n := 98) C 27 rfl rfl rfl ?_
    refine i_icmp_eq (tgt := 107) (n := 101) C 28 rfl rfl rfl (fun c9 => ?_) (fun c9 => ?_)
    · replace hw := hw.1 c9
      exact e_Or_dueBehind_107 C h hret   ls (lv_sub hl [] rfl) hw
    · replace hw := hw.2 c9
      refine i_iload_n (n := 102) C 29 rfl rfl rfl hl 1 rfl ?_
      refine i_bipush (v := (62 : Int32)) (n := 104) C 30 rfl rfl rfl ?_
      refine i_icmp_ne (tgt := 111) (n := 107) C 31 rfl rfl rfl (fun c10 => ?_) (fun c10 => ?_)
      · replace hw := hw.1 c10
        refine i_bipush (v := (-6 : Int32)) (n := 113) C 34 rfl rfl rfl ?_
        exact hret _ _ _ rfl hw (C.dg (k := 35) rfl)
      · replace hw := hw.2 c10
        exact e_Or_dueBehind_107 C h hret   ls (lv_sub hl [] rfl) hw
  replace hw := hw.2
  by_cases c11 : a1 = (3 : Int32)
  · replace hw := hw.1 c11
    refine i_tsw (tgt := 114) C 1 rfl c11 (by decide) (by decide) rfl rfl ?_
    refine i_iload_n (n := 115) C 36 rfl rfl rfl hl 1 rfl ?_
    refine i_callSp (rest := []) (n := 118) C 37 rfl rfl hl h (kS_Or_54 ⟨by decide, by decide⟩) (m_Or_isFigure hw) rfl rfl (Nat.le_of_ble_eq_true rfl) ⟨by decide, by decide⟩ (fun r12 hw => ?_)
    refine i_if_eq (tgt := 126) (n := 121) C 38 rfl rfl rfl (fun c13 => ?_) (fun c13 => ?_)
    · replace hw := hw.1 c13
      refine i_bipush (v := (-6 : Int32)) (n := 128) C 41 rfl rfl rfl ?_
      exact hret _ _ _ rfl hw (C.dg (k := 42) rfl)
    · replace hw := hw.2 c13
      refine i_bipush (v := (9 : Int32)) (n := 123) C 39 rfl rfl rfl ?_
      refine i_goto (tgt := 128) C 40 rfl rfl ?_
      exact hret _ _ _ rfl hw (C.dg (k := 42) rfl)
  replace hw := hw.2
  by_cases c14 : a1 = (4 : Int32)
  · replace hw := hw.1 c14
    refine i_tsw (tgt := 129) C 1 rfl c14 (by decide) (by decide) rfl rfl ?_
    refine i_iload_n (n := 130) C 43 rfl rfl rfl hl 1 rfl ?_
    refine i_bipush (v := (76 : Int32)) (n := 132) C 44 rfl rfl rfl ?_
    refine i_icmp_eq (tgt := 141) (n := 135) C 45 rfl rfl rfl (fun c15 => ?_) (fun c15 => ?_)
    · replace hw := hw.1 c15
      exact e_Or_dueBehind_141 C h hret   ls (lv_sub hl [] rfl) hw
    · replace hw := hw.2 c15
      refine i_iload_n (n := 136) C 46 rfl rfl rfl hl 1 rfl ?_
      refine i_bipush (v := (68 : Int32)) (n := 138) C 47 rfl rfl rfl ?_
      refine i_icmp_ne (tgt := 145) (n := 141) C 48 rfl rfl rfl (fun c16 => ?_) (fun c16 => ?_)
      · replace hw := hw.1 c16
        refine i_iload_n (n := 146) C 51 rfl rfl rfl hl 1 rfl ?_
        refine i_bipush (v := (83 : Int32)) (n := 148) C 52 rfl rfl rfl ?_
        refine i_icmp_eq (tgt := 157) (n := 151) C 53 rfl rfl rfl (fun c17 => ?_) (fun c17 => ?_)
        · replace hw := hw.1 c17
          exact e_Or_dueBehind_157 C h hret   ls (lv_sub hl [] rfl) hw
        · replace hw := hw.2 c17
          refine i_iload_n (n := 152) C 54 rfl rfl rfl hl 1 rfl ?_
          refine i_bipush (v := (79 : Int32)) (n := 154) C 55 rfl rfl rfl ?_
          refine i_icmp_ne (tgt := 162) (n := 157) C 56 rfl rfl rfl (fun c18 => ?_) (fun c18 => ?_)
          · replace hw := hw.1 c18
            refine i_bipush (v := (-6 : Int32)) (n := 164) C 59 rfl rfl rfl ?_
            exact hret _ _ _ rfl hw (C.dg (k := 60) rfl)
          · replace hw := hw.2 c18
            exact e_Or_dueBehind_157 C h hret   ls (lv_sub hl [] rfl) hw
      · replace hw := hw.2 c16
        exact e_Or_dueBehind_141 C h hret   ls (lv_sub hl [] rfl) hw
  replace hw := hw.2
  by_cases c19 : a1 = (5 : Int32)
  · replace hw := hw.1 c19
    refine i_tsw (tgt := 165) C 1 rfl c19 (by decide) (by decide) rfl rfl ?_
    refine i_iload_n (n := 166) C 61 rfl rfl rfl hl 1 rfl ?_
    refine i_bipush (v := (97 : Int32)) (n := 168) C 62 rfl rfl rfl ?_
    refine i_bipush (v := (108 : Int32)) (n := 170) C 63 rfl rfl rfl ?_
    refine i_callSNp (rest := []) (n := 173) C 64 rfl rfl hl h (kSN_Or_50 ⟨by decide, by decide⟩) (m_Pw_isWithin hw) rfl rfl (Nat.le_of_ble_eq_true rfl) ⟨by decide, by decide⟩ (fun r20 hw => ?_)
    refine i_if_eq (tgt := 181) (n := 176) C 65 rfl rfl rfl (fun c21 => ?_) (fun c21 => ?_)
    · replace hw := hw.1 c21
      refine i_bipush (v := (-6 : Int32)) (n := 183) C 68 rfl rfl rfl ?_
      exact hret _ _ _ rfl hw (C.dg (k := 69) rfl)
    · replace hw := hw.2 c21
      refine i_bipush (v := (7 : Int32)) (n := 178) C 66 rfl rfl rfl ?_
      refine i_goto (tgt := 183) C 67 rfl rfl ?_
      exact hret _ _ _ rfl hw (C.dg (k := 69) rfl)
  replace hw := hw.2
  by_cases c22 : a1 = (6 : Int32)
  · replace hw := hw.1 c22
    refine i_tsw (tgt := 184) C 1 rfl c22 (by decide) (by decide) rfl rfl ?_
    refine i_iload_n (n := 185) C 70 rfl rfl rfl hl 1 rfl ?_
    refine i_bipush (v := (97 : Int32)) (n := 187) C 71 rfl rfl rfl ?_
    refine i_bipush (v := (114 : Int32)) (n := 189) C 72 rfl rfl rfl ?_
    refine i_callSNp (rest := []) (n := 192) C 73 rfl rfl hl h (kSN_Or_50 ⟨by decide, by decide⟩) (m_Pw_isWithin hw) rfl rfl (Nat.le_of_ble_eq_true rfl) ⟨by decide, by decide⟩ (fun r23 hw => ?_)
    refine i_if_eq (tgt := 200) (n := 195) C 74 rfl rfl rfl (fun c24 => ?_) (fun c24 => ?_)
    · replace hw := hw.1 c24
      refine i_bipush (v := (-6 : Int32)) (n := 202) C 77 rfl rfl rfl ?_
      exact hret _ _ _ rfl hw (C.dg (k := 78) rfl)
    · replace hw := hw.2 c24
      refine i_bipush (v := (7 : Int32)) (n := 197) C 75 rfl rfl rfl ?_
      refine i_goto (tgt := 202) C 76 rfl rfl ?_
      exact hret _ _ _ rfl hw (C.dg (k := 78) rfl)
  replace hw := hw.2
  by_cases c25 : a1 = (7 : Int32)
  · replace hw := hw.1 c25
    refine i_tsw (tgt := 203) C 1 rfl c25 (by decide) (by decide) rfl rfl ?_
    refine i_iload_n (n := 204) C 79 rfl rfl rfl hl 1 rfl ?_
    refine i_bipush (v := (59 : Int32)) (n := 206) C 80 rfl rfl rfl ?_
    refine i_icmp_ne (tgt := 213) (n := 209) C 81 rfl rfl rfl (fun c26 => ?_) (fun c26 => ?_)
    · replace hw := hw.1 c26
      refine i_bipush (v := (-6 : Int32)) (n := 215) C 84 rfl rfl rfl ?_
      exact hret _ _ _ rfl hw (C.dg (k := 85) rfl)
    · replace hw := hw.2 c26
      refine i_iconst (v := (0 : Int32)) (n := 210) C 82 rfl rfl rfl ?_
      refine i_goto (tgt := 215) C 83 rfl rfl ?_
      exact hret _ _ _ rfl hw (C.dg (k := 85) rfl)
  replace hw := hw.2
  replace hw := hw c1
  replace hw := hw c5
  replace hw := hw c8
  replace hw := hw c11
  replace hw := hw c14
  replace hw := hw c19
  replace hw := hw c22
  replace hw := hw c25
  refine i_tswd (tgt := 216) C 1 rfl (fun j hj => match j, hj with | 0, _ => lv_neT c1 rfl | 1, _ => lv_neT c5 rfl | 2, _ => lv_neT c8 rfl | 3, _ => lv_neT c11 rfl | 4, _ => lv_neT c14 rfl | 5, _ => lv_neT c19 rfl | 6, _ => lv_neT c22 rfl | 7, _ => lv_neT c25 rfl | j + 8, hj => absurd hj (by omega)) rfl ?_
  refine i_iload_n (n := 217) C 86 rfl rfl rfl hl 0 rfl ?_
  refine i_iload_n (n := 218) C 87 rfl rfl rfl hl 1 rfl ?_
  refine i_callSp (rest := []) (n := 221) C 88 rfl rfl hl h (kS_Or_58 ⟨by decide, by decide⟩) (m_Or_dueBehindFigure hw) rfl rfl (Nat.le_of_ble_eq_true rfl) ⟨by decide, by decide⟩ (fun r27 hw => ?_)
  exact hret _ _ _ rfl hw (C.dg (k := 89) rfl)
end S123
