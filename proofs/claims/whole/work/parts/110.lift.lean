theorem kV_Pw_364 {R : Room} {s : State} {args : Array Value} (hR : 3 + 1 ≤ R.frames ∧ 8 + (12 + 11) + 70 ≤ R.locals) (ht : ∀ w ∈ GW, w.before args s = true) : CallW R s args R_Pw R_Or 364 y_Or_rulesSo c_Or_rulesSo 12 (some .int) (WL y_Or_rulesSo c_Or_rulesSo 12 (some .int)) { frames := 3, cells := 0, slots := 0, locals := 70 } 0 0 4 := cwV 4 ht (GW_v w_4_153 w_4_154 w_4_155 w_1_4 (GW_wl w_4_156)) rfl rfl rfl (by decide +kernel) hR
section S134
variable {p : Program} {l : Launch} {e : Env} {R : Room} {s : State} {m : MethodId} {args : Array Value} {below : List Frame} {meth : Method} {c : Code} {H : Heap} {locs : List Loc} {cells slots : Nat} {Q : State → Prop}
variable {cc : ByteArray} {pc n nL : Nat} {ls : Array Slot} {rest : List Value} {D : va_G} {cy : Nat → ClassId} {Z : Nat → Prop} {ad : Nat → Nat} {tb : List (Nat × Instr × Nat)} {lv : List (Nat × Value)}
set_option maxHeartbeats 4000000 in
set_option maxRecDepth 100000 in
theorem e_Pw_rulesThatAreSo_35 {I : Nat → Int32} {T : Nat → Option Nat} {L : List Nat} {K : Nat → Nat} {F : Nat → Nat → Int32} {a1 : Int32} {P : Int32 → ((Nat → Nat → Int32)) → Prop} {kb2 : (Nat → Nat → Int32) → Int32 → Prop} (C : CX D cy R_Pw c_Pw_rulesThatAreSo tb_Pw_rulesThatAreSo 4 p s m args c Z) (hret : RetI p l e { frames := 4, cells := 0, slots := 0, locals := 101 } s m args below meth c c_Pw_rulesThatAreSo .int D Z Q (fun (u : (Nat → Nat → Int32)) => wC cy ad I u T L K F) P 0 0)
    (hb2 : ∀ (A : Nat → Nat → Int32) (x2 : Int32) (ls : Array Slot) (H : Heap) (locs : List Loc), lv_has ls 4 [(0, .ref (ad 0)), (1, .int a1), (2, .int x2)] → HXw D Z s.heap H locs (wC cy ad I A T L K F) → kb2 A x2 → W p l e { frames := 4, cells := 0, slots := 0, locals := 101 } s m args below meth c H locs 0 0 Q (F0 m 2 ls [])) :
    ∀ (A : Nat → Nat → Int32) (x2 : Int32) (s1 : Int32) (s2 : Int32) (ls : Array Slot) (H : Heap) (locs : List Loc), lv_has ls 4 [(0, .ref (ad 0)), (1, .int a1), (2, .int x2)] → HXw D Z s.heap H locs (wC cy ad I A T L K F) → g_Pw_rulesThatAreSo_35 I T L K F a1 P kb2 A x2 s1 s2 → W p l e { frames := 4, cells := 0, slots := 0, locals := 101 } s m args below meth c H locs 0 0 Q (F0 m 35 ls [.int s2, .int s1, .ref (ad 13)]) := by
  intro A x2 s1 s2 ls H locs hl h hw
  obtain ⟨hb, hw⟩ := hw
  refine i_iast (n := 36) C 20 rfl rfl h (wC_arr 5 (by decide) rfl) hb (wC_sA 5 (by decide) rfl _ _) (fun H locs h => ?_)
  refine i_iinc (v := x2 + (1 : Int32)) (lv' := [(2, .int (x2 + (1 : Int32))), (0, .ref (ad 0)), (1, .int a1)]) (n := 39) C 21 rfl rfl hl 2 rfl rfl (by decide) rfl (fun ls hl => ?_)
  refine i_goto (tgt := 2) C 22 rfl rfl ?_
  exact hb2 (sA A 5 s1 s2) (x2 + (1 : Int32)) ls _ _ (lv_sub hl [1, 2, 0] rfl) h hw
set_option maxHeartbeats 4000000 in
set_option maxRecDepth 100000 in
theorem e_Pw_rulesThatAreSo_2 {I : Nat → Int32} {T : Nat → Option Nat} {L : List Nat} {K : Nat → Nat} {F : Nat → Nat → Int32} {a1 : Int32} {P : Int32 → ((Nat → Nat → Int32)) → Prop} {kx2 : (Nat → Nat → Int32) → Prop} (C : CX D cy R_Pw c_Pw_rulesThatAreSo tb_Pw_rulesThatAreSo 4 p s m args c Z) (hret : RetI p l e { frames := 4, cells := 0, slots := 0, locals := 101 } s m args below meth c c_Pw_rulesThatAreSo .int D Z Q (fun (u : (Nat → Nat → Int32)) => wC cy ad I u T L K F) P 0 0)
    (hx2 : ∀ (A : Nat → Nat → Int32) (ls : Array Slot) (H : Heap) (locs : List Loc), lv_has ls 4 [(0, .ref (ad 0)), (1, .int a1)] → HXw D Z s.heap H locs (wC cy ad I A T L K F) → kx2 A → W p l e { frames := 4, cells := 0, slots := 0, locals := 101 } s m args below meth c H locs 0 0 Q (F0 m 42 ls [])) :
    ∀ (n : Nat) (A : Nat → Nat → Int32) (x2 : Int32) (ls : Array Slot) (H : Heap) (locs : List Loc), lv_has ls 4 [(0, .ref (ad 0)), (1, .int a1), (2, .int x2)] → HXw D Z s.heap H locs (wC cy ad I A T L K F) → g_Pw_rulesThatAreSo_2 I T L K F a1 P kx2 n A x2 → W p l e { frames := 4, cells := 0, slots := 0, locals := 101 } s m args below meth c H locs 0 0 Q (F0 m 2 ls []) := by
  intro n
  induction n with
  | zero => intro A x2 ls H locs hl h hw; exact hw.elim
  | succ n ih =>
    intro A x2 ls H locs hl h hw
    refine i_iload_n (n := 3) C 2 rfl rfl rfl hl 2 rfl ?_
    refine i_bipush (v := (12 : Int32)) (n := 5) C 3 rfl rfl rfl ?_
    refine i_icmp_ge (tgt := 42) (n := 8) C 4 rfl rfl rfl (fun c1 => ?_) (fun c1 => ?_)
    · replace hw := hw.1 c1
      exact hx2 A ls _ _ (lv_sub hl [0, 1] rfl) h hw
    · replace hw := hw.2 c1
      refine i_aload_n (n := 9) C 5 rfl rfl rfl hl 0 rfl ?_
      refine fgC_Pw_10 (n := 12) C 6 rfl rfl h ?_
      refine fgC_Pw_168 (n := 15) C 7 rfl rfl h ?_
      refine i_iload_n (n := 16) C 8 rfl rfl rfl hl 2 rfl ?_
      obtain ⟨hb, hw⟩ := hw
      refine i_aldq (n := 17) C 9 rfl rfl h (wC_get (h := 5) (by decide)) hb (fun c3 => ?_) (fun q2 c3 => ?_)
      · replace hw := hw.1 c3
        refine i_astore_nN (lv' := [(3, .null), (0, .ref (ad 0)), (1, .int a1), (2, .int x2)]) (n := 18) C 10 rfl rfl rfl hl (by decide) rfl (fun ls hl => ?_)
        refine i_aload_n (n := 19) C 11 rfl rfl rfl hl 1 rfl ?_
        refine fgC_Pw_57 (n := 22) C 12 rfl rfl h ?_
        refine i_iload_n (n := 23) C 13 rfl rfl rfl hl 3 rfl ?_
        refine i_aload_nN (n := 24) C 14 rfl rfl rfl hl 0 rfl ?_
        refine i_ifnonnullN (n := 27) C 15 rfl rfl ?_
        refine i_iconst (v := (0 : Int32)) (n := 28) C 16 rfl rfl rfl ?_
        refine i_goto (tgt := 35) C 17 rfl rfl ?_
        exact e_Pw_rulesThatAreSo_35 C hret ih A x2 x2 (0 : Int32) ls _ _ (lv_sub hl [1, 2, 3] rfl) h hw
      · replace hw := hw.2 q2 c3
        refine i_astore_n (lv' := [(3, .ref q2), (0, .ref (ad 0)), (1, .int a1), (2, .int x2)]) (n := 18) C 10 rfl rfl rfl hl (by decide) rfl (fun ls hl => ?_)
        refine i_aload_n (n := 19) C 11 rfl rfl rfl hl 1 rfl ?_
        refine fgC_Pw_57 (n := 22) C 12 rfl rfl h ?_
        refine i_iload_n (n := 23) C 13 rfl rfl rfl hl 3 rfl ?_
        refine i_aload_n (n := 24) C 14 rfl rfl rfl hl 0 rfl ?_
        refine i_ifnonnull (tgt := 31) C 15 rfl rfl ?_
        refine i_aload_n (n := 32) C 18 rfl rfl rfl hl 0 rfl ?_
        refine gdc_Pw_194 (rest := [.int x2, .ref (ad 13)]) (n := 35) C 19 rfl rfl hl h hw (by decide) (by decide) (Nat.le_of_ble_eq_true rfl) ⟨by decide, by decide⟩ (fun r4 hw => ?_)
        exact e_Pw_rulesThatAreSo_35 C hret ih A x2 x2 r4 ls _ _ (lv_sub hl [1, 2, 3] rfl) h hw
set_option maxHeartbeats 4000000 in
set_option maxRecDepth 100000 in
theorem m_Pw_rulesThatAreSo {l : Launch} {D : va_G} {cy : Nat → ClassId} {ad : Nat → Nat} {I : Nat → Int32} {A : Nat → Nat → Int32} {T : Nat → Option Nat} {L : List Nat} {K : Nat → Nat} {F : Nat → Nat → Int32} {a1 : Int32} {P : Int32 → ((Nat → Nat → Int32)) → Prop} (hw : g_Pw_rulesThatAreSo I A T L K F a1 P) : ∀ sz, Met l y_Pw_rulesThatAreSo (WL y_Pw_rulesThatAreSo c_Pw_rulesThatAreSo 4 (some .int)) { frames := 4, cells := 0, slots := 0, locals := 101 } (va_Pc [.ref (ad 0), .int a1] (PreW D cy (wC cy ad I A T L K F) sz)) (va_Qi P (fun u t => PostW D (va_A (wC cy ad I A T L K F) sz) ((fun (u : (Nat → Nat → Int32)) => wC cy ad I u T L K F) u) t) (va_A (wC cy ad I A T L K F) sz)) 0 0 (va_A (wC cy ad I A T L K F) sz) := by
  refine met_i (wf := fun (u : (Nat → Nat → Int32)) => wC cy ad I u T L K F) R_Pw .int db_Pw_rulesThatAreSo (by decide) rfl rfl (Nat.le_of_ble_eq_true rfl) ?_
  intro p e s m below meth c Z Q ls C h hl hret
  have hl : lv_has ls 4 [(0, .ref (ad 0)), (1, .int a1)] := hl
  refine i_iconst (v := (0 : Int32)) (n := 1) C 0 rfl rfl rfl ?_
  refine i_istore_n (lv' := [(2, .int (0 : Int32)), (0, .ref (ad 0)), (1, .int a1)]) (n := 2) C 1 rfl rfl rfl hl (by decide) rfl (fun ls hl => ?_)
  obtain ⟨n5, hw⟩ := hw
  refine e_Pw_rulesThatAreSo_2 C hret (fun A_5 ls H locs hl h hw => ?_) n5 A (0 : Int32) ls _ _ (lv_sub hl [1, 2, 0] rfl) h hw
  have hl : lv_has ls 4 [(0, .ref (ad 0)), (1, .int a1)] := hl
  refine i_aload_n (n := 43) C 23 rfl rfl rfl hl 0 rfl ?_
  refine fgC_Pw_24 (n := 46) C 24 rfl rfl h ?_
  refine i_iload_n (n := 47) C 25 rfl rfl rfl hl 1 rfl ?_
  refine i_aload_n (n := 48) C 26 rfl rfl rfl hl 0 rfl ?_
  refine fgC_Pw_54 (n := 51) C 27 rfl rfl h ?_
  refine i_aload_n (n := 52) C 28 rfl rfl rfl hl 0 rfl ?_
  refine fgC_Pw_57 (n := 55) C 29 rfl rfl h ?_
  refine i_aload_n (n := 56) C 30 rfl rfl rfl hl 0 rfl ?_
  refine fgC_Pw_184 (n := 59) C 31 rfl rfl h ?_
  refine i_iconst (v := (4 : Int32)) (n := 60) C 32 rfl rfl rfl ?_
  refine i_idiv (n := 61) C 33 rfl rfl (by decide) ?_
  refine i_sipush (v := (1440 : Int32)) (n := 64) C 34 rfl rfl rfl ?_
  refine i_irem (n := 65) C 35 rfl rfl (by decide) ?_
  refine i_callVp (rest := []) (ci := 6) (qc := (R_Or, T_Or, 6)) (n := 68) C 36 rfl rfl hl h rfl (wC_get (h := 3) (by decide)) (kV_Pw_364 ⟨by decide, by decide⟩) (m_Or_rulesSo ⟨by decide, rfl⟩ ⟨by decide, rfl⟩ hw) rfl rfl (Nat.le_of_ble_eq_true rfl) ⟨by decide, by decide⟩ (fun r6 hw => ?_)
  exact hret _ A_5 _ _ _ _ rfl hw h (C.dg (k := 37) rfl)
end S134
section S135
variable {p : Program} {l : Launch} {e : Env} {R : Room} {s : State} {m : MethodId} {args : Array Value} {below : List Frame} {meth : Method} {c : Code} {H : Heap} {locs : List Loc} {cells slots : Nat} {Q : State → Prop}
variable {cc : ByteArray} {pc n nL : Nat} {ls : Array Slot} {rest : List Value} {D : va_G} {cy : Nat → ClassId} {Z : Nat → Prop} {ad : Nat → Nat} {tb : List (Nat × Instr × Nat)} {lv : List (Nat × Value)}
set_option maxHeartbeats 4000000 in
set_option maxRecDepth 100000 in
theorem e_Or_actOf_54 {I : Nat → Int32} {A : Nat → Nat → Int32} {T : Nat → Option Nat} {L : List Nat} {K : Nat → Nat} {F : Nat → Nat → Int32} {a1 : Int32} {a2 : Int32} {P : Int32 → Prop} {kb16 : Int32 → Int32 → Prop} (C : CX D cy R_Or c_Or_actOf tb_Or_actOf 5 p s m args c Z) (h : HXw D Z s.heap H locs (wC cy ad I A T L K F)) (hret : RetP p l e { frames := 1, cells := 0, slots := 0, locals := 21 } s m args below meth c c_Or_actOf .int H locs Q P)
    (hb16 : ∀ (x3 : Int32) (x4 : Int32) (ls : Array Slot), lv_has ls 5 [(0, .ref (ad 3)), (1, .int a1), (2, .int a2), (3, .int x3), (4, .int x4)] → kb16 x3 x4 → W p l e { frames := 1, cells := 0, slots := 0, locals := 21 } s m args below meth c H locs 0 0 Q (F0 m 16 ls [])) :
    ∀ (x3 : Int32) (x4 : Int32) (ls : Array Slot), lv_has ls 5 [(0, .ref (ad 3)), (1, .int a1), (2, .int a2), (3, .int x3), (4, .int x4)] → g_Or_actOf_54 I A a1 a2 P kb16 x3 x4 → W p l e { frames := 1, cells := 0, slots := 0, locals := 21 } s m args below meth c H locs 0 0 Q (F0 m 54 ls []) := by
  intro x3 x4 ls hl hw
  refine i_iinc (v := x4 + (1 : Int32)) (lv' := [(4, .int (x4 + (1 : Int32))), (0, .ref (ad 3)), (1, .int a1), (2, .int a2), (3, .int x3)]) (n := 57) C 32 rfl rfl hl 4 rfl rfl (by decide) rfl (fun ls hl => ?_)
  refine i_goto (tgt := 16) C 33 rfl rfl ?_
  exact hb16 x3 (x4 + (1 : Int32)) ls (lv_sub hl [1, 2, 3, 4, 0] rfl) hw
set_option maxHeartbeats 4000000 in
set_option maxRecDepth 100000 in
theorem e_Or_actOf_16 {I : Nat → Int32} {A : Nat → Nat → Int32} {T : Nat → Option Nat} {L : List Nat} {K : Nat → Nat} {F : Nat → Nat → Int32} {a1 : Int32} {a2 : Int32} {P : Int32 → Prop} {kx16 : Prop} (C : CX D cy R_Or c_Or_actOf tb_Or_actOf 5 p s m args c Z) (h : HXw D Z s.heap H locs (wC cy ad I A T L K F)) (hret : RetP p l e { frames := 1, cells := 0, slots := 0, locals := 21 } s m args below meth c c_Or_actOf .int H locs Q P)
    (hx16 : ∀ (ls : Array Slot), lv_has ls 5 [] → kx16  → W p l e { frames := 1, cells := 0, slots := 0, locals := 21 } s m args below meth c H locs 0 0 Q (F0 m 60 ls [])) :
    ∀ (n : Nat) (x3 : Int32) (x4 : Int32) (ls : Array Slot), lv_has ls 5 [(0, .ref (ad 3)), (1, .int a1), (2, .int a2), (3, .int x3), (4, .int x4)] → g_Or_actOf_16 I A a1 a2 P kx16 n x3 x4 → W p l e { frames := 1, cells := 0, slots := 0, locals := 21 } s m args below meth c H locs 0 0 Q (F0 m 16 ls []) := by
  intro n
  induction n with
  | zero => intro x3 x4 ls hl hw; exact hw.elim
  | succ n ih =>
    intro x3 x4 ls hl hw
    refine i_iload (n := 18) C 10 rfl rfl hl 4 rfl ?_
    refine i_aload_n (n := 19) C 11 rfl rfl rfl hl 0 rfl ?_
    refine fgC_Or_20 (n := 22) C 12 rfl rfl h ?_
    refine i_iload_n (n := 23) C 13 rfl rfl rfl hl 1 rfl ?_
    obtain ⟨hb, hw⟩ := hw
    refine i_iald (n := 24) C 14 rfl rfl h (wC_arr 23 (by decide) rfl) hb ?_
    refine i_icmp_ge (tgt := 60) (n := 27) C 15 rfl rfl rfl (fun c3 => ?_) (fun c3 => ?_)
    · replace hw := hw.1 c3
      exact hx16  ls (lv_sub hl [] rfl) hw
    · replace hw := hw.2 c3
      refine i_aload_n (n := 28) C 16 rfl rfl rfl hl 0 rfl ?_
      refine fgC_Or_17 (n := 31) C 17 rfl rfl h ?_
      refine i_iload_n (n := 32) C 18 rfl rfl rfl hl 1 rfl ?_
      obtain ⟨hb, hw⟩ := hw
      refine i_aldA (n := 33) C 19 rfl rfl h (wC_get (h := 7) (by decide)) hb (if_pos (vp_in_lt hb)) ?_
      have hr4 := vp_in_lt hb
      refine i_iload (n := 35) C 20 rfl rfl hl 4 rfl ?_
      obtain ⟨hb, hw⟩ := hw
      refine i_iald (n := 36) C 21 rfl rfl h (wC_row6 hr4) hb ?_
      refine i_bipush (v := (58 : Int32)) (n := 38) C 22 rfl rfl rfl ?_
      refine i_icmp_ne (tgt := 54) (n := 41) C 23 rfl rfl rfl (fun c5 => ?_) (fun c5 => ?_)
      · replace hw := hw.1 c5
        exact e_Or_actOf_54 C h hret ih x3 x4 ls hl hw
      · replace hw := hw.2 c5
        refine i_iload_n (n := 42) C 24 rfl rfl rfl hl 3 rfl ?_
        refine i_iload_n (n := 43) C 25 rfl rfl rfl hl 2 rfl ?_
        refine i_icmp_ne (tgt := 51) (n := 46) C 26 rfl rfl rfl (fun c6 => ?_) (fun c6 => ?_)
        · replace hw := hw.1 c6
          refine i_iinc (v := x3 + (1 : Int32)) (lv' := [(3, .int (x3 + (1 : Int32))), (0, .ref (ad 3)), (1, .int a1), (2, .int a2), (4, .int x4)]) (n := 54) C 31 rfl rfl hl 3 rfl rfl (by decide) rfl (fun ls hl => ?_)
          exact e_Or_actOf_54 C h hret ih (x3 + (1 : Int32)) x4 ls (lv_sub hl [1, 2, 3, 0, 4] rfl) hw
        · replace hw := hw.2 c6
          refine i_iload (n := 48) C 27 rfl rfl hl 4 rfl ?_
          refine i_iconst (v := (1 : Int32)) (n := 49) C 28 rfl rfl rfl ?_
          refine i_iadd (n := 50) C 29 rfl rfl ?_
          exact hret _ _ _ rfl hw (C.dg (k := 30) rfl)
set_option maxHeartbeats 4000000 in
set_option maxRecDepth 100000 in
theorem m_Or_actOf {l : Launch} {D : va_G} {cy : Nat → ClassId} {ad : Nat → Nat} {I : Nat → Int32} {A : Nat → Nat → Int32} {T : Nat → Option Nat} {L : List Nat} {K : Nat → Nat} {F : Nat → Nat → Int32} {a1 : Int32} {a2 : Int32} {P : Int32 → Prop} (hw : g_Or_actOf I A a1 a2 P) : ∀ sz, Met l y_Or_actOf (WL y_Or_actOf c_Or_actOf 5 (some .int)) { frames := 1, cells := 0, slots := 0, locals := 21 } (va_Pc [.ref (ad 3), .int a1, .int a2] (PreW D cy (wC cy ad I A T L K F) sz)) (vp_Si P) 0 0 (fun _ => False) := by
  refine met_p R_Or .int db_Or_actOf (by decide) rfl rfl (Nat.le_of_ble_eq_true rfl) ?_
  intro p e s m below meth c Z Q ls C h hl hret
  have hl : lv_has ls 5 [(0, .ref (ad 3)), (1, .int a1), (2, .int a2)] := hl
  refine i_aload_n (n := 1) C 0 rfl rfl rfl hl 0 rfl ?_
  refine i_iload_n (n := 2) C 1 rfl rfl rfl hl 1 rfl ?_
  refine i_callVp (rest := []) (ci := 6) (qc := (R_Or, T_Or, 6)) (n := 5) C 2 rfl rfl hl h rfl (wC_get (h := 3) (by decide)) (kV_Or_61 ⟨by decide, by decide⟩) (m_Or_hasOrder hw) rfl rfl (Nat.le_of_ble_eq_true rfl) ⟨by decide, by decide⟩ (fun r1 hw => ?_)
  refine i_if_ne (tgt := 11) (n := 8) C 3 rfl rfl rfl (fun c2 => ?_) (fun c2 => ?_)
  · replace hw := hw.1 c2
    refine i_iconst (v := (0 : Int32)) (n := 12) C 6 rfl rfl rfl ?_
    refine i_istore_n (lv' := [(3, .int (0 : Int32)), (0, .ref (ad 3)), (1, .int a1), (2, .int a2)]) (n := 13) C 7 rfl rfl rfl hl (by decide) rfl (fun ls hl => ?_)
    refine i_iconst (v := (0 : Int32)) (n := 14) C 8 rfl rfl rfl ?_
    refine i_istore (lv' := [(4, .int (0 : Int32)), (3, .int (0 : Int32)), (0, .ref (ad 3)), (1, .int a1), (2, .int a2)]) (n := 16) C 9 rfl rfl hl (by decide) rfl (fun ls hl => ?_)
    obtain ⟨n7, hw⟩ := hw
    refine e_Or_actOf_16 C h hret (fun  ls hl hw => ?_) n7 (0 : Int32) (0 : Int32) ls (lv_sub hl [2, 3, 4, 1, 0] rfl) hw
    have hl : lv_has ls 5 [] := hl
    refine i_bipush (v := (-6 : Int32)) (n := 62) C 34 rfl rfl rfl ?_
    exact hret _ _ _ rfl hw (C.dg (k := 35) rfl)
  · replace hw := hw.2 c2
    refine i_bipush (v := (-6 : Int32)) (n := 10) C 4 rfl rfl rfl ?_
    exact hret _ _ _ rfl hw (C.dg (k := 5) rfl)
end S135
section S136
variable {p : Program} {l : Launch} {e : Env} {R : Room} {s : State} {m : MethodId} {args : Array Value} {below : List Frame} {meth : Method} {c : Code} {H : Heap} {locs : List Loc} {cells slots : Nat} {Q : State → Prop}
variable {cc : ByteArray} {pc n nL : Nat} {ls : Array Slot} {rest : List Value} {D : va_G} {cy : Nat → ClassId} {Z : Nat → Prop} {ad : Nat → Nat} {tb : List (Nat × Instr × Nat)} {lv : List (Nat × Value)}
set_option maxHeartbeats 4000000 in
set_option maxRecDepth 100000 in
theorem m_Pw_trySetHouse {l : Launch} {D : va_G} {cy : Nat → ClassId} {ad : Nat → Nat} {I : Nat → Int32} {A : Nat → Nat → Int32} {T : Nat → Option Nat} {L : List Nat} {K : Nat → Nat} {F : Nat → Nat → Int32} {a1 : Int32} {a2 : Int32} {P : Int32 → ((Nat → Nat → Int32)) → Prop} (hw : g_Pw_trySetHouse I T L K F a1 a2 P) : ∀ sz, Met l y_Pw_trySetHouse (WL y_Pw_trySetHouse c_Pw_trySetHouse 5 (some .boolean)) { frames := 1, cells := 0, slots := 0, locals := 23 } (va_Pc [.ref (ad 0), .int a1, .int a2] (PreW D cy (wC cy ad I A T L K F) sz)) (va_Qi P (fun u t => PostW D (va_A (wC cy ad I A T L K F) sz) ((fun (u : (Nat → Nat → Int32)) => wC cy ad I A T L K u) u) t) (va_A (wC cy ad I A T L K F) sz)) 0 0 (va_A (wC cy ad I A T L K F) sz) := by
  refine met_i (wf := fun (u : (Nat → Nat → Int32)) => wC cy ad I A T L K u) R_Pw .boolean db_Pw_trySetHouse (by decide) rfl rfl (Nat.le_of_ble_eq_true rfl) ?_
  intro p e s m below meth c Z Q ls C h hl hret
  have hl : lv_has ls 5 [(0, .ref (ad 0)), (1, .int a1), (2, .int a2)] := hl
  refine i_aload_n (n := 1) C 0 rfl rfl rfl hl 0 rfl ?_
  refine fgC_Pw_10 (n := 4) C 1 rfl rfl h ?_
  refine i_iload_n (n := 5) C 2 rfl rfl rfl hl 1 rfl ?_
  refine i_callVp (rest := []) (ci := 5) (qc := (R_Ne, T_Ne, 17)) (n := 8) C 3 rfl rfl hl h rfl (wC_get (h := 1) (by decide)) (kV_Pw_77 ⟨by decide, by decide⟩) (m_Ne_has hw) rfl rfl (Nat.le_of_ble_eq_true rfl) ⟨by decide, by decide⟩ (fun r1 hw => ?_)
  refine i_if_eq (tgt := 55) (n := 11) C 4 rfl rfl rfl (fun c2 => ?_) (fun c2 => ?_)
  · replace hw := hw.1 c2
    refine i_iconst (v := (0 : Int32)) (n := 56) C 28 rfl rfl rfl ?_
    exact hret _ F _ _ _ _ rfl hw h (C.dg (k := 29) rfl)
  · replace hw := hw.2 c2
    refine i_aload_n (n := 12) C 5 rfl rfl rfl hl 0 rfl ?_
    refine fgC_Pw_10 (n := 15) C 6 rfl rfl h ?_
    refine fgC_Pw_168 (n := 18) C 7 rfl rfl h ?_
    refine i_iload_n (n := 19) C 8 rfl rfl rfl hl 1 rfl ?_
    obtain ⟨hb, hw⟩ := hw
    refine i_aldq (n := 20) C 9 rfl rfl h (wC_get (h := 5) (by decide)) hb (fun c4 => ?_) (fun q3 c4 => ?_)
    · replace hw := hw.1 c4
      refine i_astoreN (lv' := [(4, .null), (0, .ref (ad 0)), (1, .int a1), (2, .int a2)]) (n := 22) C 10 rfl rfl hl (by decide) rfl (fun ls hl => ?_)
      refine i_aloadN (n := 24) C 11 rfl rfl hl 0 rfl ?_
      refine i_instN (n := 27) C 12 rfl rfl ?_
      refine i_if_eq (tgt := 55) (n := 30) C 13 rfl rfl rfl (fun _ => ?_) (fun c5 => absurd (by decide) c5)
      refine i_iconst (v := (0 : Int32)) (n := 56) C 28 rfl rfl rfl ?_
      exact hret _ F _ _ _ _ rfl hw h (C.dg (k := 29) rfl)
    · replace hw := hw.2 q3 c4
      refine i_astore (lv' := [(4, .ref q3), (0, .ref (ad 0)), (1, .int a1), (2, .int a2)]) (n := 22) C 10 rfl rfl hl (by decide) rfl (fun ls hl => ?_)
      refine i_aload (n := 24) C 11 rfl rfl hl 0 rfl ?_
      obtain ⟨hq6, ht7, hw⟩ := hw
      refine i_instHo (n := 27) C 12 rfl rfl h w_2_213 hq6 ht7 (fun hk8 => ?_) (fun hk8 => ?_)
      · replace hw := hw.1 hk8
        refine i_if_eq (tgt := 55) (n := 30) C 13 rfl rfl rfl (fun c9 => absurd c9 (by decide)) (fun _ => ?_)
        refine i_aload (n := 32) C 14 rfl rfl hl 0 rfl ?_
        refine i_castHo (n := 35) C 15 rfl rfl h w_2_213 hq6 hk8 ?_
        refine i_astore_n (lv' := [(3, .ref q3), (4, .ref q3), (0, .ref (ad 0)), (1, .int a1), (2, .int a2)]) (n := 36) C 16 rfl rfl rfl hl (by decide) rfl (fun ls hl => ?_)
        refine i_aload_n (n := 37) C 17 rfl rfl rfl hl 0 rfl ?_
        refine i_iload_n (n := 38) C 18 rfl rfl rfl hl 4 rfl ?_
        refine i_aload_n (n := 39) C 19 rfl rfl rfl hl 2 rfl ?_
        refine fgC_Pw_184 (n := 42) C 20 rfl rfl h ?_
        obtain ⟨q010, he11, -⟩ := wC_th (cy := cy) (ad := ad) (I := I) (A := A) (T := T) (F := F) hq6 hk8
        refine i_callVi (rest := []) (ci := 2) (qc := (R_Ho, T_Ho, 7)) (n := 45) C 21 rfl rfl hl h rfl he11 (kV_Pw_201_Ho ⟨by decide, by decide⟩) (m_Ho_setLit_Ho hq6 hk8 hw) rfl rfl (Nat.le_of_ble_eq_true rfl) ⟨by decide, by decide⟩ (fun r12 u13 H locs hw h => ?_)
        refine i_iload_n (n := 46) C 22 rfl rfl rfl hl 4 rfl ?_
        refine i_icmp_eq (tgt := 53) (n := 49) C 23 rfl rfl rfl (fun c14 => ?_) (fun c14 => ?_)
        · replace hw := hw.1 c14
          refine i_iconst (v := (0 : Int32)) (n := 54) C 26 rfl rfl rfl ?_
          exact hret _ u13 _ _ _ _ rfl hw h (C.dg (k := 27) rfl)
        · replace hw := hw.2 c14
          refine i_iconst (v := (1 : Int32)) (n := 50) C 24 rfl rfl rfl ?_
          refine i_goto (tgt := 54) C 25 rfl rfl ?_
          exact hret _ u13 _ _ _ _ rfl hw h (C.dg (k := 27) rfl)
      · replace hw := hw.2 hk8
        refine i_if_eq (tgt := 55) (n := 30) C 13 rfl rfl rfl (fun _ => ?_) (fun c15 => absurd (by decide) c15)
        refine i_iconst (v := (0 : Int32)) (n := 56) C 28 rfl rfl rfl ?_
        exact hret _ F _ _ _ _ rfl hw h (C.dg (k := 29) rfl)
end S136
theorem kV_Pw_375 {R : Room} {s : State} {args : Array Value} (hR : 1 + 1 ≤ R.frames ∧ 8 + (2 + 11) + 23 ≤ R.locals) (ht : ∀ w ∈ GW, w.before args s = true) : CallW R s args R_Pw R_Pi 375 y_Pi_valveTold c_Pi_valveTold 2 (some .int) (WL y_Pi_valveTold c_Pi_valveTold 2 (some .int)) { frames := 1, cells := 0, slots := 0, locals := 23 } 0 0 1 := cwV 1 ht (GW_v w_4_191 w_2_55 w_2_56 w_1_3 (GW_wl w_2_57)) rfl rfl rfl (by decide +kernel) hR
theorem kV_Pw_378 {R : Room} {s : State} {args : Array Value} (hR : 1 + 1 ≤ R.frames ∧ 8 + (2 + 11) + 21 ≤ R.locals) (ht : ∀ w ∈ GW, w.before args s = true) : CallW R s args R_Pw R_Pi 378 y_Pi_isShut c_Pi_isShut 2 (some .boolean) (WL y_Pi_isShut c_Pi_isShut 2 (some .boolean)) { frames := 1, cells := 0, slots := 0, locals := 21 } 0 0 1 := cwV 1 ht (GW_v w_4_192 w_2_71 w_2_72 w_1_3 (GW_wl w_2_73)) rfl rfl rfl (by decide +kernel) hR
section S137
variable {p : Program} {l : Launch} {e : Env} {R : Room} {s : State} {m : MethodId} {args : Array Value} {below : List Frame} {meth : Method} {c : Code} {H : Heap} {locs : List Loc} {cells slots : Nat} {Q : State → Prop}
variable {cc : ByteArray} {pc n nL : Nat} {ls : Array Slot} {rest : List Value} {D : va_G} {cy : Nat → ClassId} {Z : Nat → Prop} {ad : Nat → Nat} {tb : List (Nat × Instr × Nat)} {lv : List (Nat × Value)}
set_option maxHeartbeats 4000000 in
set_option maxRecDepth 100000 in
theorem m_Pw_trySetValve {l : Launch} {D : va_G} {cy : Nat → ClassId} {ad : Nat → Nat} {I : Nat → Int32} {A : Nat → Nat → Int32} {T : Nat → Option Nat} {L : List Nat} {K : Nat → Nat} {F : Nat → Nat → Int32} {a1 : Int32} {a2 : Int32} {P : Int32 → ((Nat → Int32)) → Prop} (hw : g_Pw_trySetValve I A a1 a2 P) : ∀ sz, Met l y_Pw_trySetValve (WL y_Pw_trySetValve c_Pw_trySetValve 4 (some .boolean)) { frames := 3, cells := 0, slots := 0, locals := 63 } (va_Pc [.ref (ad 0), .int a1, .int a2] (PreW D cy (wC cy ad I A T L K F) sz)) (va_Qi P (fun u t => PostW D (va_A (wC cy ad I A T L K F) sz) ((fun (u : (Nat → Int32)) => wC cy ad u A T L K F) u) t) (va_A (wC cy ad I A T L K F) sz)) 0 0 (va_A (wC cy ad I A T L K F) sz) := by
  refine met_i (wf := fun (u : (Nat → Int32)) => wC cy ad u A T L K F) R_Pw .boolean db_Pw_trySetValve (by decide) rfl rfl (Nat.le_of_ble_eq_true rfl) ?_
  intro p e s m below meth c Z Q ls C h hl hret
  have hl : lv_has ls 4 [(0, .ref (ad 0)), (1, .int a1), (2, .int a2)] := hl
  refine i_aload_n (n := 1) C 0 rfl rfl rfl hl 0 rfl ?_
  refine fgC_Pw_20 (n := 4) C 1 rfl rfl h ?_
  refine i_iload_n (n := 5) C 2 rfl rfl rfl hl 1 rfl ?_
  refine i_callVp (rest := []) (ci := 7) (qc := (R_Pi, T_Pi, 8)) (n := 8) C 3 rfl rfl hl h rfl (wC_get (h := 2) (by decide)) (kV_Pw_375 ⟨by decide, by decide⟩) (m_Pi_valveTold hw) rfl rfl (Nat.le_of_ble_eq_true rfl) ⟨by decide, by decide⟩ (fun r1 hw => ?_)
  refine i_istore_n (lv' := [(3, .int r1), (0, .ref (ad 0)), (1, .int a1), (2, .int a2)]) (n := 9) C 4 rfl rfl rfl hl (by decide) rfl (fun ls hl => ?_)
  refine i_iload_n (n := 10) C 5 rfl rfl rfl hl 0 rfl ?_
  refine i_bipush (v := (-6 : Int32)) (n := 12) C 6 rfl rfl rfl ?_
  refine i_icmp_eq (tgt := 27) (n := 15) C 7 rfl rfl rfl (fun c2 => ?_) (fun c2 => ?_)
  · replace hw := hw.1 c2
    refine i_iconst (v := (0 : Int32)) (n := 28) C 14 rfl rfl rfl ?_
    exact hret _ I _ _ _ _ rfl hw h (C.dg (k := 15) rfl)
  · replace hw := hw.2 c2
    refine i_aload_n (n := 16) C 8 rfl rfl rfl hl 1 rfl ?_
    refine fgC_Pw_20 (n := 19) C 9 rfl rfl h ?_
    refine i_iload_n (n := 20) C 10 rfl rfl rfl hl 0 rfl ?_
    refine i_callVp (rest := []) (ci := 7) (qc := (R_Pi, T_Pi, 8)) (n := 23) C 11 rfl rfl hl h rfl (wC_get (h := 2) (by decide)) (kV_Pw_378 ⟨by decide, by decide⟩) (m_Pi_isShut hw) rfl rfl (Nat.le_of_ble_eq_true rfl) ⟨by decide, by decide⟩ (fun r3 hw => ?_)
    refine i_iload_n (n := 24) C 12 rfl rfl rfl hl 3 rfl ?_
    refine i_icmp_ne (tgt := 29) (n := 27) C 13 rfl rfl rfl (fun c4 => ?_) (fun c4 => ?_)
    · replace hw := hw.1 c4
      refine i_aload_n (n := 30) C 16 rfl rfl rfl hl 1 rfl ?_
      refine fgC_Pw_20 (n := 33) C 17 rfl rfl h ?_
      refine i_iload_n (n := 34) C 18 rfl rfl rfl hl 0 rfl ?_
      refine i_callVi (rest := []) (ci := 7) (qc := (R_Pi, T_Pi, 8)) (n := 37) C 19 rfl rfl hl h rfl (wC_get (h := 2) (by decide)) (kV_Pw_96 ⟨by decide, by decide⟩) (m_Pi_turnValve hw) rfl rfl (Nat.le_of_ble_eq_true rfl) ⟨by decide, by decide⟩ (fun r5 u6 H locs hw h => ?_)
      refine i_pop (n := 38) C 20 rfl rfl rfl ?_
      refine i_iconst (v := (1 : Int32)) (n := 39) C 21 rfl rfl rfl ?_
      exact hret _ u6 _ _ _ _ rfl hw h (C.dg (k := 22) rfl)
    · replace hw := hw.2 c4
      refine i_iconst (v := (0 : Int32)) (n := 28) C 14 rfl rfl rfl ?_
      exact hret _ I _ _ _ _ rfl hw h (C.dg (k := 15) rfl)
end S137
theorem kV_Pw_368 {R : Room} {s : State} {args : Array Value} (hR : 1 + 1 ≤ R.frames ∧ 8 + (5 + 11) + 23 ≤ R.locals) (ht : ∀ w ∈ GW, w.before args s = true) : CallW R s args R_Pw R_Pw 368 y_Pw_trySetHouse c_Pw_trySetHouse 5 (some .boolean) (WL y_Pw_trySetHouse c_Pw_trySetHouse 5 (some .boolean)) { frames := 1, cells := 0, slots := 0, locals := 23 } 0 0 2 := cwV 2 ht (GW_v w_4_183 w_4_185 w_0_17 w_1_1 (GW_wl w_4_186)) rfl rfl rfl (by decide +kernel) hR
theorem kV_Pw_372 {R : Room} {s : State} {args : Array Value} (hR : 3 + 1 ≤ R.frames ∧ 8 + (4 + 11) + 63 ≤ R.locals) (ht : ∀ w ∈ GW, w.before args s = true) : CallW R s args R_Pw R_Pw 372 y_Pw_trySetValve c_Pw_trySetValve 4 (some .boolean) (WL y_Pw_trySetValve c_Pw_trySetValve 4 (some .boolean)) { frames := 3, cells := 0, slots := 0, locals := 63 } 0 0 2 := cwV 2 ht (GW_v w_4_187 w_4_189 w_0_18 w_1_1 (GW_wl w_4_190)) rfl rfl rfl (by decide +kernel) hR
section S138
variable {p : Program} {l : Launch} {e : Env} {R : Room} {s : State} {m : MethodId} {args : Array Value} {below : List Frame} {meth : Method} {c : Code} {H : Heap} {locs : List Loc} {cells slots : Nat} {Q : State → Prop}
variable {cc : ByteArray} {pc n nL : Nat} {ls : Array Slot} {rest : List Value} {D : va_G} {cy : Nat → ClassId} {Z : Nat → Prop} {ad : Nat → Nat} {tb : List (Nat × Instr × Nat)} {lv : List (Nat × Value)}
set_option maxHeartbeats 4000000 in
set_option maxRecDepth 100000 in
theorem e_Pw_tryAct_25 {A : Nat → Nat → Int32} {T : Nat → Option Nat} {L : List Nat} {K : Nat → Nat} {a1 : Int32} {a2 : Int32} {P : Int32 → ((Nat → Int32) × (Nat → Nat → Int32)) → Prop}  (C : CX D cy R_Pw c_Pw_tryAct tb_Pw_tryAct 3 p s m args c Z) (hret : RetI p l e { frames := 4, cells := 0, slots := 0, locals := 86 } s m args below meth c c_Pw_tryAct .boolean D Z Q (fun (u : (Nat → Int32) × (Nat → Nat → Int32)) => wC cy ad u.1 A T L K u.2) P 0 0) :
    ∀ (I : Nat → Int32) (F : Nat → Nat → Int32) (s1 : Int32) (s2 : Int32) (ls : Array Slot) (H : Heap) (locs : List Loc), lv_has ls 3 [] → HXw D Z s.heap H locs (wC cy ad I A T L K F) → g_Pw_tryAct_25 A T L K a1 a2 P  I F s1 s2 → W p l e { frames := 4, cells := 0, slots := 0, locals := 86 } s m args below meth c H locs 0 0 Q (F0 m 25 ls [.int s2, .int s1, .ref (ad 0)]) := by
  intro I F s1 s2 ls H locs hl h hw
  refine i_callVi (rest := []) (ci := 10) (qc := (R_Pw, T_Pw, 16)) (n := 28) C 14 rfl rfl hl h rfl (wC_get (h := 0) (by decide)) (kV_Pw_368 ⟨by decide, by decide⟩) (m_Pw_trySetHouse hw) rfl rfl (Nat.le_of_ble_eq_true rfl) ⟨by decide, by decide⟩ (fun r3 u4 H locs hw h => ?_)
  refine i_goto (tgt := 47) C 15 rfl rfl ?_
  obtain ⟨hB, hw⟩ := hw
  exact hret _ (I, u4) _ _ _ _ hB.nar hw h (C.dg (k := 25) rfl)
set_option maxHeartbeats 4000000 in
set_option maxRecDepth 100000 in
theorem e_Pw_tryAct_12 {A : Nat → Nat → Int32} {T : Nat → Option Nat} {L : List Nat} {K : Nat → Nat} {a1 : Int32} {a2 : Int32} {P : Int32 → ((Nat → Int32) × (Nat → Nat → Int32)) → Prop}  (C : CX D cy R_Pw c_Pw_tryAct tb_Pw_tryAct 3 p s m args c Z) (hret : RetI p l e { frames := 4, cells := 0, slots := 0, locals := 86 } s m args below meth c c_Pw_tryAct .boolean D Z Q (fun (u : (Nat → Int32) × (Nat → Nat → Int32)) => wC cy ad u.1 A T L K u.2) P 0 0) :
    ∀ (I : Nat → Int32) (F : Nat → Nat → Int32) (ls : Array Slot) (H : Heap) (locs : List Loc), lv_has ls 3 [(0, .ref (ad 0)), (1, .int a1), (2, .int a2)] → HXw D Z s.heap H locs (wC cy ad I A T L K F) → g_Pw_tryAct_12 A T L K a1 a2 P  I F → W p l e { frames := 4, cells := 0, slots := 0, locals := 86 } s m args below meth c H locs 0 0 Q (F0 m 12 ls []) := by
  intro I F ls H locs hl h hw
  refine i_aload_n (n := 13) C 6 rfl rfl rfl hl 0 rfl ?_
  refine i_iload_n (n := 14) C 7 rfl rfl rfl hl 2 rfl ?_
  refine i_iload_n (n := 15) C 8 rfl rfl rfl hl 1 rfl ?_
  refine i_bipush (v := (76 : Int32)) (n := 17) C 9 rfl rfl rfl ?_
  refine i_icmp_ne (tgt := 24) (n := 20) C 10 rfl rfl rfl (fun c2 => ?_) (fun c2 => ?_)
  · replace hw := hw.1 c2
    refine i_iconst (v := (0 : Int32)) (n := 25) C 13 rfl rfl rfl ?_
    exact e_Pw_tryAct_25 C hret  I F a2 (0 : Int32) ls _ _ (lv_sub hl [] rfl) h hw
  · replace hw := hw.2 c2
    refine i_iconst (v := (1 : Int32)) (n := 21) C 11 rfl rfl rfl ?_
    refine i_goto (tgt := 25) C 12 rfl rfl ?_
    exact e_Pw_tryAct_25 C hret  I F a2 (1 : Int32) ls _ _ (lv_sub hl [] rfl) h hw
set_option maxHeartbeats 4000000 in
set_option maxRecDepth 100000 in
theorem e_Pw_tryAct_44 {A : Nat → Nat → Int32} {T : Nat → Option Nat} {L : List Nat} {K : Nat → Nat} {a1 : Int32} {a2 : Int32} {P : Int32 → ((Nat → Int32) × (Nat → Nat → Int32)) → Prop}  (C : CX D cy R_Pw c_Pw_tryAct tb_Pw_tryAct 3 p s m args c Z) (hret : RetI p l e { frames := 4, cells := 0, slots := 0, locals := 86 } s m args below meth c c_Pw_tryAct .boolean D Z Q (fun (u : (Nat → Int32) × (Nat → Nat → Int32)) => wC cy ad u.1 A T L K u.2) P 0 0) :
    ∀ (I : Nat → Int32) (F : Nat → Nat → Int32) (s1 : Int32) (s2 : Int32) (ls : Array Slot) (H : Heap) (locs : List Loc), lv_has ls 3 [] → HXw D Z s.heap H locs (wC cy ad I A T L K F) → g_Pw_tryAct_44 A T L K a1 a2 P  I F s1 s2 → W p l e { frames := 4, cells := 0, slots := 0, locals := 86 } s m args below meth c H locs 0 0 Q (F0 m 44 ls [.int s2, .int s1, .ref (ad 0)]) := by
  intro I F s1 s2 ls H locs hl h hw
  refine i_callVi (rest := []) (ci := 10) (qc := (R_Pw, T_Pw, 16)) (n := 47) C 24 rfl rfl hl h rfl (wC_get (h := 0) (by decide)) (kV_Pw_372 ⟨by decide, by decide⟩) (m_Pw_trySetValve hw) rfl rfl (Nat.le_of_ble_eq_true rfl) ⟨by decide, by decide⟩ (fun r7 u8 H locs hw h => ?_)
  obtain ⟨hB, hw⟩ := hw
  exact hret _ (u8, F) _ _ _ _ hB.nar hw h (C.dg (k := 25) rfl)
set_option maxHeartbeats 4000000 in
set_option maxRecDepth 100000 in
theorem m_Pw_tryAct {l : Launch} {D : va_G} {cy : Nat → ClassId} {ad : Nat → Nat} {I : Nat → Int32} {A : Nat → Nat → Int32} {T : Nat → Option Nat} {L : List Nat} {K : Nat → Nat} {F : Nat → Nat → Int32} {a1 : Int32} {a2 : Int32} {P : Int32 → ((Nat → Int32) × (Nat → Nat → Int32)) → Prop} (hw : g_Pw_tryAct I A T L K F a1 a2 P) : ∀ sz, Met l y_Pw_tryAct (WL y_Pw_tryAct c_Pw_tryAct 3 (some .boolean)) { frames := 4, cells := 0, slots := 0, locals := 86 } (va_Pc [.ref (ad 0), .int a1, .int a2] (PreW D cy (wC cy ad I A T L K F) sz)) (va_Qi P (fun u t => PostW D (va_A (wC cy ad I A T L K F) sz) ((fun (u : (Nat → Int32) × (Nat → Nat → Int32)) => wC cy ad u.1 A T L K u.2) u) t) (va_A (wC cy ad I A T L K F) sz)) 0 0 (va_A (wC cy ad I A T L K F) sz) := by
  refine met_i (wf := fun (u : (Nat → Int32) × (Nat → Nat → Int32)) => wC cy ad u.1 A T L K u.2) R_Pw .boolean db_Pw_tryAct (by decide) rfl rfl (Nat.le_of_ble_eq_true rfl) ?_
  intro p e s m below meth c Z Q ls C h hl hret
  have hl : lv_has ls 3 [(0, .ref (ad 0)), (1, .int a1), (2, .int a2)] := hl
  refine i_iload_n (n := 1) C 0 rfl rfl rfl hl 1 rfl ?_
  refine i_bipush (v := (76 : Int32)) (n := 3) C 1 rfl rfl rfl ?_
  refine i_icmp_eq (tgt := 12) (n := 6) C 2 rfl rfl rfl (fun c1 => ?_) (fun c1 => ?_)
  · replace hw := hw.1 c1
    exact e_Pw_tryAct_12 C hret  I F ls _ _ hl h hw
  · replace hw := hw.2 c1
    refine i_iload_n (n := 7) C 3 rfl rfl rfl hl 1 rfl ?_
    refine i_bipush (v := (68 : Int32)) (n := 9) C 4 rfl rfl rfl ?_
    refine i_icmp_ne (tgt := 31) (n := 12) C 5 rfl rfl rfl (fun c5 => ?_) (fun c5 => ?_)
    · replace hw := hw.1 c5
      refine i_aload_n (n := 32) C 16 rfl rfl rfl hl 0 rfl ?_
      refine i_iload_n (n := 33) C 17 rfl rfl rfl hl 2 rfl ?_
      refine i_iload_n (n := 34) C 18 rfl rfl rfl hl 1 rfl ?_
      refine i_bipush (v := (83 : Int32)) (n := 36) C 19 rfl rfl rfl ?_
      refine i_icmp_ne (tgt := 43) (n := 39) C 20 rfl rfl rfl (fun c6 => ?_) (fun c6 => ?_)
      · replace hw := hw.1 c6
        refine i_iconst (v := (0 : Int32)) (n := 44) C 23 rfl rfl rfl ?_
        exact e_Pw_tryAct_44 C hret  I F a2 (0 : Int32) ls _ _ (lv_sub hl [] rfl) h hw
      · replace hw := hw.2 c6
        refine i_iconst (v := (1 : Int32)) (n := 40) C 21 rfl rfl rfl ?_
        refine i_goto (tgt := 44) C 22 rfl rfl ?_
        exact e_Pw_tryAct_44 C hret  I F a2 (1 : Int32) ls _ _ (lv_sub hl [] rfl) h hw
    · replace hw := hw.2 c5
      exact e_Pw_tryAct_12 C hret  I F ls _ _ hl h hw
end S138
theorem kV_Pw_289 {R : Room} {s : State} {args : Array Value} (hR : 0 + 1 ≤ R.frames ∧ 8 + (4 + 11) + 0 ≤ R.locals) (ht : ∀ w ∈ GW, w.before args s = true) : CallW R s args R_Pw R_Or 289 y_Or_inForce c_Or_inForce 4 (some .int) (WL y_Or_inForce c_Or_inForce 4 (some .int)) { frames := 0, cells := 0, slots := 0, locals := 0 } 0 0 1 := cwV 1 ht (GW_v w_4_145 w_4_146 w_4_147 w_1_4 (GW_wl w_4_148)) rfl rfl rfl (by decide +kernel) hR
theorem kV_Pw_292 {R : Room} {s : State} {args : Array Value} (hR : 4 + 1 ≤ R.frames ∧ 8 + (4 + 11) + 101 ≤ R.locals) (ht : ∀ w ∈ GW, w.before args s = true) : CallW R s args R_Pw R_Pw 292 y_Pw_rulesThatAreSo c_Pw_rulesThatAreSo 4 (some .int) (WL y_Pw_rulesThatAreSo c_Pw_rulesThatAreSo 4 (some .int)) { frames := 4, cells := 0, slots := 0, locals := 101 } 0 0 1 := cwV 1 ht (GW_v w_4_149 w_4_151 w_0_13 w_1_1 (GW_wl w_4_152)) rfl rfl rfl (by decide +kernel) hR
theorem kV_Pw_295 {R : Room} {s : State} {args : Array Value} (hR : 1 + 1 ≤ R.frames ∧ 8 + (5 + 11) + 21 ≤ R.locals) (ht : ∀ w ∈ GW, w.before args s = true) : CallW R s args R_Pw R_Or 295 y_Or_actOf c_Or_actOf 5 (some .int) (WL y_Or_actOf c_Or_actOf 5 (some .int)) { frames := 1, cells := 0, slots := 0, locals := 21 } 0 0 2 := cwV 2 ht (GW_v w_4_173 w_4_174 w_4_175 w_1_4 (GW_wl w_4_176)) rfl rfl rfl (by decide +kernel) hR
theorem kS_Pw_298 {R : Room} {s : State} {args : Array Value} (hR : 0 + 1 ≤ R.frames ∧ 8 + (2 + 11) + 0 ≤ R.locals) (ht : ∀ w ∈ GW, w.before args s = true) : CallB R s args R_Pw 298 y_Pw_hasBit c_Pw_hasBit 2 (some .boolean) (WL y_Pw_hasBit c_Pw_hasBit 2 (some .boolean)) { frames := 0, cells := 0, slots := 0, locals := 0 } 0 0 2 ∧ (Cond.static y_Pw_hasBit).before args s = true := cwS 2 ht (GW_s w_4_177 w_2_75 w_1_1 (GW_wl w_2_76)) rfl rfl rfl (by decide +kernel) hR
theorem kV_Pw_301 {R : Room} {s : State} {args : Array Value} (hR : 1 + 1 ≤ R.frames ∧ 8 + (3 + 11) + 21 ≤ R.locals) (ht : ∀ w ∈ GW, w.before args s = true) : CallW R s args R_Pw R_Or 301 y_Or_signOf c_Or_signOf 3 (some .int) (WL y_Or_signOf c_Or_signOf 3 (some .int)) { frames := 1, cells := 0, slots := 0, locals := 21 } 0 0 2 := cwV 2 ht (GW_v w_4_178 w_4_166 w_4_167 w_1_4 (GW_wl w_4_168)) rfl rfl rfl (by decide +kernel) hR
theorem kV_Pw_304 {R : Room} {s : State} {args : Array Value} (hR : 4 + 1 ≤ R.frames ∧ 8 + (3 + 11) + 86 ≤ R.locals) (ht : ∀ w ∈ GW, w.before args s = true) : CallW R s args R_Pw R_Pw 304 y_Pw_tryAct c_Pw_tryAct 3 (some .boolean) (WL y_Pw_tryAct c_Pw_tryAct 3 (some .boolean)) { frames := 4, cells := 0, slots := 0, locals := 86 } 0 0 2 := cwV 2 ht (GW_v w_4_179 w_4_181 w_0_16 w_1_1 (GW_wl w_4_182)) rfl rfl rfl (by decide +kernel) hR
section S139
variable {p : Program} {l : Launch} {e : Env} {R : Room} {s : State} {m : MethodId} {args : Array Value} {below : List Frame} {meth : Method} {c : Code} {H : Heap} {locs : List Loc} {cells slots : Nat} {Q : State → Prop}
variable {cc : ByteArray} {pc n nL : Nat} {ls : Array Slot} {rest : List Value} {D : va_G} {cy : Nat → ClassId} {Z : Nat → Prop} {ad : Nat → Nat} {tb : List (Nat × Instr × Nat)} {lv : List (Nat × Value)}
set_option maxHeartbeats 4000000 in
set_option maxRecDepth 100000 in
theorem e_Pw_does_111 {T : Nat → Option Nat} {L : List Nat} {K : Nat → Nat}  {P : Int32 → ((Nat → Int32) × (Nat → Nat → Int32) × (Nat → Nat → Int32)) → Prop} {kb38 : (Nat → Int32) → (Nat → Nat → Int32) → (Nat → Nat → Int32) → Int32 → Int32 → Int32 → Int32 → Prop} (C : CX D cy R_Pw c_Pw_does tb_Pw_does 6 p s m args c Z) (hret : RetI p l e { frames := 5, cells := 0, slots := 0, locals := 124 } s m args below meth c c_Pw_does .int D Z Q (fun (u : (Nat → Int32) × (Nat → Nat → Int32) × (Nat → Nat → Int32)) => wC cy ad u.1 u.2.1 T L K u.2.2) P 0 0)
    (hb38 : ∀ (I : Nat → Int32) (A : Nat → Nat → Int32) (F : Nat → Nat → Int32) (x1 : Int32) (x2 : Int32) (x3 : Int32) (x4 : Int32) (ls : Array Slot) (H : Heap) (locs : List Loc), lv_has ls 6 [(0, .ref (ad 0)), (1, .int x1), (2, .int x2), (3, .int x3), (4, .int x4)] → HXw D Z s.heap H locs (wC cy ad I A T L K F) → kb38 I A F x1 x2 x3 x4 → W p l e { frames := 5, cells := 0, slots := 0, locals := 124 } s m args below meth c H locs 0 0 Q (F0 m 38 ls [])) :
    ∀ (I : Nat → Int32) (A : Nat → Nat → Int32) (F : Nat → Nat → Int32) (x1 : Int32) (x2 : Int32) (x3 : Int32) (x4 : Int32) (ls : Array Slot) (H : Heap) (locs : List Loc), lv_has ls 6 [(0, .ref (ad 0)), (1, .int x1), (2, .int x2), (3, .int x3), (4, .int x4)] → HXw D Z s.heap H locs (wC cy ad I A T L K F) → g_Pw_does_111 T L K P kb38 I A F x1 x2 x3 x4 → W p l e { frames := 5, cells := 0, slots := 0, locals := 124 } s m args below meth c H locs 0 0 Q (F0 m 111 ls []) := by
  intro I A F x1 x2 x3 x4 ls H locs hl h hw
  refine i_iinc (v := x4 + (1 : Int32)) (lv' := [(4, .int (x4 + (1 : Int32))), (0, .ref (ad 0)), (1, .int x1), (2, .int x2), (3, .int x3)]) (n := 114) C 58 rfl rfl hl 4 rfl rfl (by decide) rfl (fun ls hl => ?_)
  refine i_goto (tgt := 38) C 59 rfl rfl ?_
  exact hb38 I A F x1 x2 x3 (x4 + (1 : Int32)) ls _ _ (lv_sub hl [1, 2, 3, 4, 0] rfl) h hw
set_option maxHeartbeats 4000000 in
set_option maxRecDepth 100000 in
theorem e_Pw_does_38 {T : Nat → Option Nat} {L : List Nat} {K : Nat → Nat}  {P : Int32 → ((Nat → Int32) × (Nat → Nat → Int32) × (Nat → Nat → Int32)) → Prop} {kx38 : (Nat → Int32) → (Nat → Nat → Int32) → (Nat → Nat → Int32) → Int32 → Prop} (C : CX D cy R_Pw c_Pw_does tb_Pw_does 6 p s m args c Z) (hret : RetI p l e { frames := 5, cells := 0, slots := 0, locals := 124 } s m args below meth c c_Pw_does .int D Z Q (fun (u : (Nat → Int32) × (Nat → Nat → Int32) × (Nat → Nat → Int32)) => wC cy ad u.1 u.2.1 T L K u.2.2) P 0 0)
    (hx38 : ∀ (I : Nat → Int32) (A : Nat → Nat → Int32) (F : Nat → Nat → Int32) (x3 : Int32) (ls : Array Slot) (H : Heap) (locs : List Loc), lv_has ls 6 [(3, .int x3)] → HXw D Z s.heap H locs (wC cy ad I A T L K F) → kx38 I A F x3 → W p l e { frames := 5, cells := 0, slots := 0, locals := 124 } s m args below meth c H locs 0 0 Q (F0 m 117 ls [])) :
    ∀ (n : Nat) (I : Nat → Int32) (A : Nat → Nat → Int32) (F : Nat → Nat → Int32) (x1 : Int32) (x2 : Int32) (x3 : Int32) (x4 : Int32) (ls : Array Slot) (H : Heap) (locs : List Loc), lv_has ls 6 [(0, .ref (ad 0)), (1, .int x1), (2, .int x2), (3, .int x3), (4, .int x4)] → HXw D Z s.heap H locs (wC cy ad I A T L K F) → g_Pw_does_38 T L K P kx38 n I A F x1 x2 x3 x4 → W p l e { frames := 5, cells := 0, slots := 0, locals := 124 } s m args below meth c H locs 0 0 Q (F0 m 38 ls []) := by
  intro n
  induction n with
  | zero => intro I A F x1 x2 x3 x4 ls H locs hl h hw; exact hw.elim
  | succ n ih =>
    intro I A F x1 x2 x3 x4 ls H locs hl h hw
    refine i_iload (n := 40) C 23 rfl rfl hl 4 rfl ?_
    refine i_bipush (v := (40 : Int32)) (n := 42) C 24 rfl rfl rfl ?_
    refine i_icmp_ge (tgt := 117) (n := 45) C 25 rfl rfl rfl (fun c5 => ?_) (fun c5 => ?_)
    · replace hw := hw.1 c5
      exact hx38 I A F x3 ls _ _ (lv_sub hl [3] rfl) h hw
    · replace hw := hw.2 c5
      refine i_aload_n (n := 46) C 26 rfl rfl rfl hl 0 rfl ?_
      refine fgC_Pw_24 (n := 49) C 27 rfl rfl h ?_
      refine i_iload_n (n := 50) C 28 rfl rfl rfl hl 1 rfl ?_
      refine i_iload (n := 52) C 29 rfl rfl hl 4 rfl ?_
      refine i_callVp (rest := []) (ci := 6) (qc := (R_Or, T_Or, 6)) (n := 55) C 30 rfl rfl hl h rfl (wC_get (h := 3) (by decide)) (kV_Pw_295 ⟨by decide, by decide⟩) (m_Or_actOf hw) rfl rfl (Nat.le_of_ble_eq_true rfl) ⟨by decide, by decide⟩ (fun r6 hw => ?_)
      refine i_istore (lv' := [(5, .int r6), (0, .ref (ad 0)), (1, .int x1), (2, .int x2), (3, .int x3), (4, .int x4)]) (n := 57) C 31 rfl rfl hl (by decide) rfl (fun ls hl => ?_)
      refine i_iload (n := 59) C 32 rfl rfl hl 0 rfl ?_
      refine i_bipush (v := (-6 : Int32)) (n := 61) C 33 rfl rfl rfl ?_
      refine i_icmp_ne (tgt := 67) (n := 64) C 34 rfl rfl rfl (fun c7 => ?_) (fun c7 => ?_)
      · replace hw := hw.1 c7
        refine i_iload_n (n := 68) C 36 rfl rfl rfl hl 3 rfl ?_
        refine i_iload (n := 70) C 37 rfl rfl hl 5 rfl ?_
        refine i_callSp (rest := []) (n := 73) C 38 rfl rfl hl h (kS_Pw_298 ⟨by decide, by decide⟩) (m_Pw_hasBit hw) rfl rfl (Nat.le_of_ble_eq_true rfl) ⟨by decide, by decide⟩ (fun r8 hw => ?_)
        refine i_if_eq (tgt := 111) (n := 76) C 39 rfl rfl rfl (fun c9 => ?_) (fun c9 => ?_)
        · replace hw := hw.1 c9
          exact e_Pw_does_111 C hret ih I A F x1 x2 x3 x4 ls _ _ (lv_sub hl [1, 2, 3, 4, 5] rfl) h hw
        · replace hw := hw.2 c9
          refine i_aload_n (n := 77) C 40 rfl rfl rfl hl 1 rfl ?_
          refine i_aload_n (n := 78) C 41 rfl rfl rfl hl 1 rfl ?_
          refine fgC_Pw_24 (n := 81) C 42 rfl rfl h ?_
          refine i_iload_n (n := 82) C 43 rfl rfl rfl hl 2 rfl ?_
          refine i_iload (n := 84) C 44 rfl rfl hl 0 rfl ?_
          refine i_callVp (rest := [.ref (ad 0)]) (ci := 6) (qc := (R_Or, T_Or, 6)) (n := 87) C 45 rfl rfl hl h rfl (wC_get (h := 3) (by decide)) (kV_Pw_301 ⟨by decide, by decide⟩) (m_Or_signOf hw) rfl rfl (Nat.le_of_ble_eq_true rfl) ⟨by decide, by decide⟩ (fun r10 hw => ?_)
          refine i_aload_n (n := 88) C 46 rfl rfl rfl hl 1 rfl ?_
          refine fgC_Pw_24 (n := 91) C 47 rfl rfl h ?_
          refine i_iload_n (n := 92) C 48 rfl rfl rfl hl 2 rfl ?_
          refine i_iload (n := 94) C 49 rfl rfl hl 0 rfl ?_
          refine i_iconst (v := (1 : Int32)) (n := 95) C 50 rfl rfl rfl ?_
          refine i_iadd (n := 96) C 51 rfl rfl ?_
          refine i_callVp (rest := [.int r10, .ref (ad 0)]) (ci := 6) (qc := (R_Or, T_Or, 6)) (n := 99) C 52 rfl rfl hl h rfl (wC_get (h := 3) (by decide)) (kV_Pw_301 ⟨by decide, by decide⟩) (m_Or_signOf hw) rfl rfl (Nat.le_of_ble_eq_true rfl) ⟨by decide, by decide⟩ (fun r11 hw => ?_)
          refine i_bipush (v := (97 : Int32)) (n := 101) C 53 rfl rfl rfl ?_
          refine i_isub (n := 102) C 54 rfl rfl ?_
          refine i_callVi (rest := []) (ci := 10) (qc := (R_Pw, T_Pw, 16)) (n := 105) C 55 rfl rfl hl h rfl (wC_get (h := 0) (by decide)) (kV_Pw_304 ⟨by decide, by decide⟩) (m_Pw_tryAct hw) rfl rfl (Nat.le_of_ble_eq_true rfl) ⟨by decide, by decide⟩ (fun r12 u13 H locs hw h => ?_)
          refine i_if_eq (tgt := 111) (n := 108) C 56 rfl rfl rfl (fun c14 => ?_) (fun c14 => ?_)
          · replace hw := hw.1 c14
            exact e_Pw_does_111 C hret ih u13.1 A u13.2 x1 x2 x3 x4 ls _ _ (lv_sub hl [1, 2, 3, 4, 5] rfl) h hw
          · replace hw := hw.2 c14
            refine i_iinc (v := x3 + (1 : Int32)) (lv' := [(3, .int (x3 + (1 : Int32))), (5, .int r6), (0, .ref (ad 0)), (1, .int x1), (2, .int x2), (4, .int x4)]) (n := 111) C 57 rfl rfl hl 4 rfl rfl (by decide) rfl (fun ls hl => ?_)
            exact e_Pw_does_111 C hret ih u13.1 A u13.2 x1 x2 (x3 + (1 : Int32)) x4 ls _ _ (lv_sub hl [2, 3, 4, 0, 5] rfl) h hw
      · replace hw := hw.2 c7
        refine i_goto (tgt := 117) C 35 rfl rfl ?_
        exact hx38 I A F x3 ls _ _ (lv_sub hl [4] rfl) h hw
set_option maxHeartbeats 4000000 in
set_option maxRecDepth 100000 in
theorem m_Pw_does {l : Launch} {D : va_G} {cy : Nat → ClassId} {ad : Nat → Nat} {I : Nat → Int32} {A : Nat → Nat → Int32} {T : Nat → Option Nat} {L : List Nat} {K : Nat → Nat} {F : Nat → Nat → Int32}  {P : Int32 → ((Nat → Int32) × (Nat → Nat → Int32) × (Nat → Nat → Int32)) → Prop} (hw : g_Pw_does I A T L K F P) : ∀ sz, Met l y_Pw_does (WL y_Pw_does c_Pw_does 6 (some .int)) { frames := 5, cells := 0, slots := 0, locals := 124 } (va_Pc [.ref (ad 0)] (PreW D cy (wC cy ad I A T L K F) sz)) (va_Qi P (fun u t => PostW D (va_A (wC cy ad I A T L K F) sz) ((fun (u : (Nat → Int32) × (Nat → Nat → Int32) × (Nat → Nat → Int32)) => wC cy ad u.1 u.2.1 T L K u.2.2) u) t) (va_A (wC cy ad I A T L K F) sz)) 0 0 (va_A (wC cy ad I A T L K F) sz) := by
  refine met_i (wf := fun (u : (Nat → Int32) × (Nat → Nat → Int32) × (Nat → Nat → Int32)) => wC cy ad u.1 u.2.1 T L K u.2.2) R_Pw .int db_Pw_does (by decide) rfl rfl (Nat.le_of_ble_eq_true rfl) ?_
  intro p e s m below meth c Z Q ls C h hl hret
  have hl : lv_has ls 6 [(0, .ref (ad 0))] := hl
  refine i_aload_n (n := 1) C 0 rfl rfl rfl hl 0 rfl ?_
  refine fgC_Pw_24 (n := 4) C 1 rfl rfl h ?_
  refine i_aload_n (n := 5) C 2 rfl rfl rfl hl 0 rfl ?_
  refine fgC_Pw_184 (n := 8) C 3 rfl rfl h ?_
  refine i_iconst (v := (4 : Int32)) (n := 9) C 4 rfl rfl rfl ?_
  refine i_idiv (n := 10) C 5 rfl rfl (by decide) ?_
  refine i_sipush (v := (1440 : Int32)) (n := 13) C 6 rfl rfl rfl ?_
  refine i_idiv (n := 14) C 7 rfl rfl (by decide) ?_
  refine i_callVp (rest := []) (ci := 6) (qc := (R_Or, T_Or, 6)) (n := 17) C 8 rfl rfl hl h rfl (wC_get (h := 3) (by decide)) (kV_Pw_289 ⟨by decide, by decide⟩) (m_Or_inForce hw) rfl rfl (Nat.le_of_ble_eq_true rfl) ⟨by decide, by decide⟩ (fun r1 hw => ?_)
  refine i_istore_n (lv' := [(1, .int r1), (0, .ref (ad 0))]) (n := 18) C 9 rfl rfl rfl hl (by decide) rfl (fun ls hl => ?_)
  refine i_iload_n (n := 19) C 10 rfl rfl rfl hl 0 rfl ?_
  refine i_bipush (v := (-6 : Int32)) (n := 21) C 11 rfl rfl rfl ?_
  refine i_icmp_ne (tgt := 27) (n := 24) C 12 rfl rfl rfl (fun c2 => ?_) (fun c2 => ?_)
  · replace hw := hw.1 c2
    refine i_aload_n (n := 28) C 15 rfl rfl rfl hl 1 rfl ?_
    refine i_iload_n (n := 29) C 16 rfl rfl rfl hl 0 rfl ?_
    refine i_callVi (rest := []) (ci := 10) (qc := (R_Pw, T_Pw, 16)) (n := 32) C 17 rfl rfl hl h rfl (wC_get (h := 0) (by decide)) (kV_Pw_292 ⟨by decide, by decide⟩) (m_Pw_rulesThatAreSo hw) rfl rfl (Nat.le_of_ble_eq_true rfl) ⟨by decide, by decide⟩ (fun r3 u4 H locs hw h => ?_)
    refine i_istore_n (lv' := [(2, .int r3), (1, .int r1), (0, .ref (ad 0))]) (n := 33) C 18 rfl rfl rfl hl (by decide) rfl (fun ls hl => ?_)
    refine i_iconst (v := (0 : Int32)) (n := 34) C 19 rfl rfl rfl ?_
    refine i_istore_n (lv' := [(3, .int (0 : Int32)), (2, .int r3), (1, .int r1), (0, .ref (ad 0))]) (n := 35) C 20 rfl rfl rfl hl (by decide) rfl (fun ls hl => ?_)
    refine i_iconst (v := (0 : Int32)) (n := 36) C 21 rfl rfl rfl ?_
    refine i_istore (lv' := [(4, .int (0 : Int32)), (3, .int (0 : Int32)), (2, .int r3), (1, .int r1), (0, .ref (ad 0))]) (n := 38) C 22 rfl rfl hl (by decide) rfl (fun ls hl => ?_)
    obtain ⟨n15, hw⟩ := hw
    refine e_Pw_does_38 C hret (fun I_15 A_15 F_15 x3_15 ls H locs hl h hw => ?_) n15 I u4 F r1 r3 (0 : Int32) (0 : Int32) ls _ _ (lv_sub hl [4, 3, 2, 1, 0] rfl) h hw
    have hl : lv_has ls 6 [(3, .int x3_15)] := hl
    refine i_iload_n (n := 118) C 60 rfl rfl rfl hl 0 rfl ?_
    exact hret _ (I_15, A_15, F_15) _ _ _ _ rfl hw h (C.dg (k := 61) rfl)
  · replace hw := hw.2 c2
    refine i_bipush (v := (-3 : Int32)) (n := 26) C 13 rfl rfl rfl ?_
    exact hret _ (I, A, F) _ _ _ _ rfl hw h (C.dg (k := 14) rfl)
end S139
theorem kV_Pw_307 {R : Room} {s : State} {args : Array Value} (hR : 0 + 1 ≤ R.frames ∧ 8 + (2 + 11) + 0 ≤ R.locals) (ht : ∀ w ∈ GW, w.before args s = true) : CallW R s args R_Pw R_Or 307 y_Or_hasOrder c_Or_hasOrder 2 (some .boolean) (WL y_Or_hasOrder c_Or_hasOrder 2 (some .boolean)) { frames := 0, cells := 0, slots := 0, locals := 0 } 0 0 1 := cwV 1 ht (GW_v w_4_197 w_4_158 w_4_159 w_1_4 (GW_wl w_4_160)) rfl rfl rfl (by decide +kernel) hR
section S140
variable {p : Program} {l : Launch} {e : Env} {R : Room} {s : State} {m : MethodId} {args : Array Value} {below : List Frame} {meth : Method} {c : Code} {H : Heap} {locs : List Loc} {cells slots : Nat} {Q : State → Prop}
variable {cc : ByteArray} {pc n nL : Nat} {ls : Array Slot} {rest : List Value} {D : va_G} {cy : Nat → ClassId} {Z : Nat → Prop} {ad : Nat → Nat} {tb : List (Nat × Instr × Nat)} {lv : List (Nat × Value)}
set_option maxHeartbeats 4000000 in
set_option maxRecDepth 100000 in
theorem m_Pw_why {l : Launch} {D : va_G} {cy : Nat → ClassId} {ad : Nat → Nat} {I : Nat → Int32} {A : Nat → Nat → Int32} {T : Nat → Option Nat} {L : List Nat} {K : Nat → Nat} {F : Nat → Nat → Int32} {a1 : Int32} {P : Int32 → ((Nat → Nat → Int32)) → Prop} (hw : g_Pw_why I A T L K F a1 P) : ∀ sz, Met l y_Pw_why (WL y_Pw_why c_Pw_why 2 (some .int)) { frames := 5, cells := 0, slots := 0, locals := 124 } (va_Pc [.ref (ad 0), .int a1] (PreW D cy (wC cy ad I A T L K F) sz)) (va_Qi P (fun u t => PostW D (va_A (wC cy ad I A T L K F) sz) ((fun (u : (Nat → Nat → Int32)) => wC cy ad I u T L K F) u) t) (va_A (wC cy ad I A T L K F) sz)) 0 0 (va_A (wC cy ad I A T L K F) sz) := by
  refine met_i (wf := fun (u : (Nat → Nat → Int32)) => wC cy ad I u T L K F) R_Pw .int db_Pw_why (by decide) rfl rfl (Nat.le_of_ble_eq_true rfl) ?_
  intro p e s m below meth c Z Q ls C h hl hret
  have hl : lv_has ls 2 [(0, .ref (ad 0)), (1, .int a1)] := hl
  refine i_aload_n (n := 1) C 0 rfl rfl rfl hl 0 rfl ?_
  refine fgC_Pw_24 (n := 4) C 1 rfl rfl h ?_
  refine i_iload_n (n := 5) C 2 rfl rfl rfl hl 1 rfl ?_
  refine i_callVp (rest := []) (ci := 6) (qc := (R_Or, T_Or, 6)) (n := 8) C 3 rfl rfl hl h rfl (wC_get (h := 3) (by decide)) (kV_Pw_307 ⟨by decide, by decide⟩) (m_Or_hasOrder hw) rfl rfl (Nat.le_of_ble_eq_true rfl) ⟨by decide, by decide⟩ (fun r1 hw => ?_)
  refine i_if_eq (tgt := 19) (n := 11) C 4 rfl rfl rfl (fun c2 => ?_) (fun c2 => ?_)
  · replace hw := hw.1 c2
    refine i_iconst (v := (-1 : Int32)) (n := 20) C 9 rfl rfl rfl ?_
    exact hret _ A _ _ _ _ rfl hw h (C.dg (k := 10) rfl)
  · replace hw := hw.2 c2
    refine i_aload_n (n := 12) C 5 rfl rfl rfl hl 0 rfl ?_
    refine i_iload_n (n := 13) C 6 rfl rfl rfl hl 1 rfl ?_
    refine i_callVi (rest := []) (ci := 10) (qc := (R_Pw, T_Pw, 16)) (n := 16) C 7 rfl rfl hl h rfl (wC_get (h := 0) (by decide)) (kV_Pw_292 ⟨by decide, by decide⟩) (m_Pw_rulesThatAreSo hw) rfl rfl (Nat.le_of_ble_eq_true rfl) ⟨by decide, by decide⟩ (fun r3 u4 H locs hw h => ?_)
    refine i_goto (tgt := 20) C 8 rfl rfl ?_
    exact hret _ u4 _ _ _ _ rfl hw h (C.dg (k := 10) rfl)
end S140
section S141
variable {p : Program} {l : Launch} {e : Env} {R : Room} {s : State} {m : MethodId} {args : Array Value} {below : List Frame} {meth : Method} {c : Code} {H : Heap} {locs : List Loc} {cells slots : Nat} {Q : State → Prop}
variable {cc : ByteArray} {pc n nL : Nat} {ls : Array Slot} {rest : List Value} {D : va_G} {cy : Nat → ClassId} {Z : Nat → Prop} {ad : Nat → Nat} {tb : List (Nat × Instr × Nat)} {lv : List (Nat × Value)}
set_option maxHeartbeats 4000000 in
set_option maxRecDepth 100000 in
theorem e_Ne_sources_27 {I : Nat → Int32} {A : Nat → Nat → Int32} {T : Nat → Option Nat} {L : List Nat} {K : Nat → Nat} {F : Nat → Nat → Int32} {a1 : Int32} {P : Int32 → Prop} {kb4 : Int32 → Int32 → Prop} (C : CX D cy R_Ne c_Ne_sources tb_Ne_sources 4 p s m args c Z) (h : HXw D Z s.heap H locs (wC cy ad I A T L K F)) (hret : RetP p l e { frames := 2, cells := 0, slots := 0, locals := 44 } s m args below meth c c_Ne_sources .int H locs Q P)
    (hb4 : ∀ (x2 : Int32) (x3 : Int32) (ls : Array Slot), lv_has ls 4 [(0, .ref (ad 1)), (1, .int a1), (2, .int x2), (3, .int x3)] → kb4 x2 x3 → W p l e { frames := 2, cells := 0, slots := 0, locals := 44 } s m args below meth c H locs 0 0 Q (F0 m 4 ls [])) :
    ∀ (x2 : Int32) (x3 : Int32) (ls : Array Slot), lv_has ls 4 [(0, .ref (ad 1)), (1, .int a1), (2, .int x2), (3, .int x3)] → g_Ne_sources_27 I T L K F a1 P kb4 x2 x3 → W p l e { frames := 2, cells := 0, slots := 0, locals := 44 } s m args below meth c H locs 0 0 Q (F0 m 27 ls []) := by
  intro x2 x3 ls hl hw
  refine i_iinc (v := x3 + (1 : Int32)) (lv' := [(3, .int (x3 + (1 : Int32))), (0, .ref (ad 1)), (1, .int a1), (2, .int x2)]) (n := 30) C 19 rfl rfl hl 3 rfl rfl (by decide) rfl (fun ls hl => ?_)
  refine i_goto (tgt := 4) C 20 rfl rfl ?_
  exact hb4 x2 (x3 + (1 : Int32)) ls (lv_sub hl [1, 2, 3, 0] rfl) hw
set_option maxHeartbeats 4000000 in
set_option maxRecDepth 100000 in
theorem e_Ne_sources_4 {I : Nat → Int32} {A : Nat → Nat → Int32} {T : Nat → Option Nat} {L : List Nat} {K : Nat → Nat} {F : Nat → Nat → Int32} {a1 : Int32} {P : Int32 → Prop} {kx4 : Int32 → Prop} (C : CX D cy R_Ne c_Ne_sources tb_Ne_sources 4 p s m args c Z) (h : HXw D Z s.heap H locs (wC cy ad I A T L K F)) (hret : RetP p l e { frames := 2, cells := 0, slots := 0, locals := 44 } s m args below meth c c_Ne_sources .int H locs Q P)
    (hx4 : ∀ (x2 : Int32) (ls : Array Slot), lv_has ls 4 [(2, .int x2)] → kx4 x2 → W p l e { frames := 2, cells := 0, slots := 0, locals := 44 } s m args below meth c H locs 0 0 Q (F0 m 33 ls [])) :
    ∀ (n : Nat) (x2 : Int32) (x3 : Int32) (ls : Array Slot), lv_has ls 4 [(0, .ref (ad 1)), (1, .int a1), (2, .int x2), (3, .int x3)] → g_Ne_sources_4 I T L K F a1 P kx4 n x2 x3 → W p l e { frames := 2, cells := 0, slots := 0, locals := 44 } s m args below meth c H locs 0 0 Q (F0 m 4 ls []) := by
  intro n
  induction n with
  | zero => intro x2 x3 ls hl hw; exact hw.elim
  | succ n ih =>
    intro x2 x3 ls hl hw
    refine i_iload_n (n := 5) C 4 rfl rfl rfl hl 3 rfl ?_
    refine i_aload_n (n := 6) C 5 rfl rfl rfl hl 0 rfl ?_
    refine fgC_Ne_56 (n := 9) C 6 rfl rfl h ?_
    refine i_icmp_ge (tgt := 33) (n := 12) C 7 rfl rfl rfl (fun c1 => ?_) (fun c1 => ?_)
    · replace hw := hw.1 c1
      exact hx4 x2 ls (lv_sub hl [2] rfl) hw
    · replace hw := hw.2 c1
      refine i_aload_n (n := 13) C 8 rfl rfl rfl hl 0 rfl ?_
      refine i_iload_n (n := 14) C 9 rfl rfl rfl hl 3 rfl ?_
      refine i_iload_n (n := 15) C 10 rfl rfl rfl hl 1 rfl ?_
      refine i_callVp (rest := []) (ci := 5) (qc := (R_Ne, T_Ne, 17)) (n := 18) C 11 rfl rfl hl h rfl (wC_get (h := 1) (by decide)) (kV_Ne_76 ⟨by decide, by decide⟩) (m_Ne_isSource hw) rfl rfl (Nat.le_of_ble_eq_true rfl) ⟨by decide, by decide⟩ (fun r2 hw => ?_)
      refine i_if_eq (tgt := 27) (n := 21) C 12 rfl rfl rfl (fun c3 => ?_) (fun c3 => ?_)
      · replace hw := hw.1 c3
        exact e_Ne_sources_27 C h hret ih x2 x3 ls hl hw
      · replace hw := hw.2 c3
        refine i_iload_n (n := 22) C 13 rfl rfl rfl hl 2 rfl ?_
        refine i_iconst (v := (1 : Int32)) (n := 23) C 14 rfl rfl rfl ?_
        refine i_iload_n (n := 24) C 15 rfl rfl rfl hl 3 rfl ?_
        refine i_ishl (n := 25) C 16 rfl rfl ?_
        refine i_ior (n := 26) C 17 rfl rfl ?_
        refine lv_topi (fun y4 ey4 => ?_)
        replace hw := hw y4 ey4
        refine i_istore_n (lv' := [(2, .int y4), (0, .ref (ad 1)), (1, .int a1), (3, .int x3)]) (n := 27) C 18 rfl rfl rfl hl (by decide) rfl (fun ls hl => ?_)
        exact e_Ne_sources_27 C h hret ih y4 x3 ls (lv_sub hl [1, 2, 0, 3] rfl) hw
set_option maxHeartbeats 4000000 in
set_option maxRecDepth 100000 in
theorem m_Ne_sources {l : Launch} {D : va_G} {cy : Nat → ClassId} {ad : Nat → Nat} {I : Nat → Int32} {A : Nat → Nat → Int32} {T : Nat → Option Nat} {L : List Nat} {K : Nat → Nat} {F : Nat → Nat → Int32} {a1 : Int32} {P : Int32 → Prop} (hw : g_Ne_sources I T L K F a1 P) : ∀ sz, Met l y_Ne_sources (WL y_Ne_sources c_Ne_sources 4 (some .int)) { frames := 2, cells := 0, slots := 0, locals := 44 } (va_Pc [.ref (ad 1), .int a1] (PreW D cy (wC cy ad I A T L K F) sz)) (vp_Si P) 0 0 (fun _ => False) := by
  refine met_p R_Ne .int db_Ne_sources (by decide) rfl rfl (Nat.le_of_ble_eq_true rfl) ?_
  intro p e s m below meth c Z Q ls C h hl hret
  have hl : lv_has ls 4 [(0, .ref (ad 1)), (1, .int a1)] := hl
  refine i_iconst (v := (0 : Int32)) (n := 1) C 0 rfl rfl rfl ?_
  refine i_istore_n (lv' := [(2, .int (0 : Int32)), (0, .ref (ad 1)), (1, .int a1)]) (n := 2) C 1 rfl rfl rfl hl (by decide) rfl (fun ls hl => ?_)
  refine i_iconst (v := (0 : Int32)) (n := 3) C 2 rfl rfl rfl ?_
  refine i_istore_n (lv' := [(3, .int (0 : Int32)), (2, .int (0 : Int32)), (0, .ref (ad 1)), (1, .int a1)]) (n := 4) C 3 rfl rfl rfl hl (by decide) rfl (fun ls hl => ?_)
  obtain ⟨n5, hw⟩ := hw
  refine e_Ne_sources_4 C h hret (fun x2_5 ls hl hw => ?_) n5 (0 : Int32) (0 : Int32) ls (lv_sub hl [2, 3, 1, 0] rfl) hw
  have hl : lv_has ls 4 [(2, .int x2_5)] := hl
  refine i_iload_n (n := 34) C 21 rfl rfl rfl hl 0 rfl ?_
  exact hret _ _ _ rfl hw (C.dg (k := 22) rfl)
end S141
theorem kV_Pi_60 {R : Room} {s : State} {args : Array Value} (hR : 1 + 1 ≤ R.frames ∧ 8 + (4 + 11) + 21 ≤ R.locals) (ht : ∀ w ∈ GW, w.before args s = true) : CallW R s args R_Pi R_Pi 60 y_Pi_openMains c_Pi_openMains 4 (some .int) (WL y_Pi_openMains c_Pi_openMains 4 (some .int)) { frames := 1, cells := 0, slots := 0, locals := 21 } 0 0 1 := cwV 1 ht (GW_v w_4_214 w_3_161 w_3_162 w_1_3 (GW_wl w_3_163)) rfl rfl rfl (by decide +kernel) hR
section S142
variable {p : Program} {l : Launch} {e : Env} {R : Room} {s : State} {m : MethodId} {args : Array Value} {below : List Frame} {meth : Method} {c : Code} {H : Heap} {locs : List Loc} {cells slots : Nat} {Q : State → Prop}
variable {cc : ByteArray} {pc n nL : Nat} {ls : Array Slot} {rest : List Value} {D : va_G} {cy : Nat → ClassId} {Z : Nat → Prop} {ad : Nat → Nat} {tb : List (Nat × Instr × Nat)} {lv : List (Nat × Value)}
set_option maxHeartbeats 4000000 in
set_option maxRecDepth 100000 in
theorem e_Pi_joined_80 {I : Nat → Int32} {A : Nat → Nat → Int32} {T : Nat → Option Nat} {L : List Nat} {K : Nat → Nat} {F : Nat → Nat → Int32} {a1 : Int32} {a2 : Int32} {P : Int32 → Prop} {kb26 : Int32 → Int32 → Int32 → Int32 → Int32 → Prop} (C : CX D cy R_Pi c_Pi_joined tb_Pi_joined 9 p s m args c Z) (h : HXw D Z s.heap H locs (wC cy ad I A T L K F)) (hret : RetP p l e { frames := 2, cells := 0, slots := 0, locals := 44 } s m args below meth c c_Pi_joined .int H locs Q P)
    (hb26 : ∀ (x3 : Int32) (x4 : Int32) (x5 : Int32) (x6 : Int32) (x7 : Int32) (ls : Array Slot), lv_has ls 9 [(0, .ref (ad 2)), (3, .int x3), (4, .int x4), (5, .int x5), (6, .int x6), (7, .int x7)] → kb26 x3 x4 x5 x6 x7 → W p l e { frames := 2, cells := 0, slots := 0, locals := 44 } s m args below meth c H locs 0 0 Q (F0 m 26 ls [])) :
    ∀ (x3 : Int32) (x4 : Int32) (x5 : Int32) (x6 : Int32) (x7 : Int32) (ls : Array Slot), lv_has ls 9 [(0, .ref (ad 2)), (3, .int x3), (4, .int x4), (5, .int x5), (6, .int x6), (7, .int x7)] → g_Pi_joined_80 I A a1 a2 P kb26 x3 x4 x5 x6 x7 → W p l e { frames := 2, cells := 0, slots := 0, locals := 44 } s m args below meth c H locs 0 0 Q (F0 m 80 ls []) := by
  intro x3 x4 x5 x6 x7 ls hl hw
  refine i_iinc (v := x7 + (1 : Int32)) (lv' := [(7, .int (x7 + (1 : Int32))), (0, .ref (ad 2)), (3, .int x3), (4, .int x4), (5, .int x5), (6, .int x6)]) (n := 83) C 45 rfl rfl hl 5 rfl rfl (by decide) rfl (fun ls hl => ?_)
  refine i_goto (tgt := 26) C 46 rfl rfl ?_
  exact hb26 x3 x4 x5 x6 (x7 + (1 : Int32)) ls (lv_sub hl [1, 2, 3, 4, 5, 0] rfl) hw
set_option maxHeartbeats 4000000 in
set_option maxRecDepth 100000 in
theorem e_Pi_joined_26 {I : Nat → Int32} {A : Nat → Nat → Int32} {T : Nat → Option Nat} {L : List Nat} {K : Nat → Nat} {F : Nat → Nat → Int32} {a1 : Int32} {a2 : Int32} {P : Int32 → Prop} {kx26 : Int32 → Int32 → Int32 → Int32 → Prop} (C : CX D cy R_Pi c_Pi_joined tb_Pi_joined 9 p s m args c Z) (h : HXw D Z s.heap H locs (wC cy ad I A T L K F)) (hret : RetP p l e { frames := 2, cells := 0, slots := 0, locals := 44 } s m args below meth c c_Pi_joined .int H locs Q P)
    (hx26 : ∀ (x3 : Int32) (x4 : Int32) (x5 : Int32) (x6 : Int32) (ls : Array Slot), lv_has ls 9 [(0, .ref (ad 2)), (3, .int x3), (4, .int x4), (5, .int x5), (6, .int x6)] → kx26 x3 x4 x5 x6 → W p l e { frames := 2, cells := 0, slots := 0, locals := 44 } s m args below meth c H locs 0 0 Q (F0 m 86 ls [])) :
    ∀ (n : Nat) (x3 : Int32) (x4 : Int32) (x5 : Int32) (x6 : Int32) (x7 : Int32) (ls : Array Slot), lv_has ls 9 [(0, .ref (ad 2)), (3, .int x3), (4, .int x4), (5, .int x5), (6, .int x6), (7, .int x7)] → g_Pi_joined_26 I A a1 a2 P kx26 n x3 x4 x5 x6 x7 → W p l e { frames := 2, cells := 0, slots := 0, locals := 44 } s m args below meth c H locs 0 0 Q (F0 m 26 ls []) := by
  intro n
  induction n with
  | zero => intro x3 x4 x5 x6 x7 ls hl hw; exact hw.elim
  | succ n ih =>
    intro x3 x4 x5 x6 x7 ls hl hw
    refine i_iload (n := 28) C 15 rfl rfl hl 5 rfl ?_
    refine i_aload_n (n := 29) C 16 rfl rfl rfl hl 0 rfl ?_
    refine fgC_Pi_27 (n := 32) C 17 rfl rfl h ?_
    refine i_icmp_ge (tgt := 86) (n := 35) C 18 rfl rfl rfl (fun c3 => ?_) (fun c3 => ?_)
    · replace hw := hw.1 c3
      exact hx26 x3 x4 x5 x6 ls (lv_sub hl [0, 1, 2, 3, 4] rfl) hw
    · replace hw := hw.2 c3
      refine i_iconst (v := (1 : Int32)) (n := 36) C 19 rfl rfl rfl ?_
      refine i_aload_n (n := 37) C 20 rfl rfl rfl hl 0 rfl ?_
      refine fgC_Pi_9 (n := 40) C 21 rfl rfl h ?_
      refine i_iload (n := 42) C 22 rfl rfl hl 5 rfl ?_
      obtain ⟨hb, hw⟩ := hw
      refine i_iald (n := 43) C 23 rfl rfl h (wC_arr 17 (by decide) rfl) hb ?_
      refine i_ishl (n := 44) C 24 rfl rfl ?_
      refine i_iconst (v := (1 : Int32)) (n := 45) C 25 rfl rfl rfl ?_
      refine i_aload_n (n := 46) C 26 rfl rfl rfl hl 0 rfl ?_
      refine fgC_Pi_15 (n := 49) C 27 rfl rfl h ?_
      refine i_iload (n := 51) C 28 rfl rfl hl 5 rfl ?_
      obtain ⟨hb, hw⟩ := hw
      refine i_iald (n := 52) C 29 rfl rfl h (wC_arr 18 (by decide) rfl) hb ?_
      refine i_ishl (n := 53) C 30 rfl rfl ?_
      refine i_ior (n := 54) C 31 rfl rfl ?_
      refine lv_topi (fun y4 ey4 => ?_)
      replace hw := hw y4 ey4
      refine i_istore (lv' := [(8, .int y4), (0, .ref (ad 2)), (3, .int x3), (4, .int x4), (5, .int x5), (6, .int x6), (7, .int x7)]) (n := 56) C 32 rfl rfl hl (by decide) rfl (fun ls hl => ?_)
      refine i_iload_n (n := 57) C 33 rfl rfl rfl hl 2 rfl ?_
      refine i_iload (n := 59) C 34 rfl rfl hl 6 rfl ?_
      refine i_callSNp (rest := []) (n := 62) C 35 rfl rfl hl h (kSN_Pi_48 ⟨by decide, by decide⟩) (m_Pw_hasBit hw) rfl rfl (Nat.le_of_ble_eq_true rfl) ⟨by decide, by decide⟩ (fun r5 hw => ?_)
      refine i_if_eq (tgt := 80) (n := 65) C 36 rfl rfl rfl (fun c6 => ?_) (fun c6 => ?_)
      · replace hw := hw.1 c6
        exact e_Pi_joined_80 C h hret ih x3 x4 x5 x6 x7 ls (lv_sub hl [1, 2, 3, 4, 5, 6] rfl) hw
      · replace hw := hw.2 c6
        refine i_iload (n := 67) C 37 rfl rfl hl 3 rfl ?_
        refine i_iload (n := 69) C 38 rfl rfl hl 0 rfl ?_
        refine i_iand (n := 70) C 39 rfl rfl ?_
        refine i_if_eq (tgt := 80) (n := 73) C 40 rfl rfl rfl (fun c7 => ?_) (fun c7 => ?_)
        · replace hw := hw.1 c7
          exact e_Pi_joined_80 C h hret ih x3 x4 x5 x6 x7 ls (lv_sub hl [1, 2, 3, 4, 5, 6] rfl) hw
        · replace hw := hw.2 c7
          refine i_iload (n := 75) C 41 rfl rfl hl 3 rfl ?_
          refine i_iload (n := 77) C 42 rfl rfl hl 0 rfl ?_
          refine i_ior (n := 78) C 43 rfl rfl ?_
          refine lv_topi (fun y8 ey8 => ?_)
          replace hw := hw y8 ey8
          refine i_istore (lv' := [(4, .int y8), (8, .int y4), (0, .ref (ad 2)), (3, .int x3), (5, .int x5), (6, .int x6), (7, .int x7)]) (n := 80) C 44 rfl rfl hl (by decide) rfl (fun ls hl => ?_)
          exact e_Pi_joined_80 C h hret ih x3 y8 x5 x6 x7 ls (lv_sub hl [2, 3, 0, 4, 5, 6] rfl) hw
set_option maxHeartbeats 4000000 in
set_option maxRecDepth 100000 in
theorem e_Pi_joined_12 {I : Nat → Int32} {A : Nat → Nat → Int32} {T : Nat → Option Nat} {L : List Nat} {K : Nat → Nat} {F : Nat → Nat → Int32} {a1 : Int32} {a2 : Int32} {P : Int32 → Prop} {kx12 : Int32 → Prop} (C : CX D cy R_Pi c_Pi_joined tb_Pi_joined 9 p s m args c Z) (h : HXw D Z s.heap H locs (wC cy ad I A T L K F)) (hret : RetP p l e { frames := 2, cells := 0, slots := 0, locals := 44 } s m args below meth c c_Pi_joined .int H locs Q P)
    (hx12 : ∀ (x4 : Int32) (ls : Array Slot), lv_has ls 9 [(4, .int x4)] → kx12 x4 → W p l e { frames := 2, cells := 0, slots := 0, locals := 44 } s m args below meth c H locs 0 0 Q (F0 m 102 ls [])) :
    ∀ (n : Nat) (x3 : Int32) (x4 : Int32) (x5 : Int32) (ls : Array Slot), lv_has ls 9 [(0, .ref (ad 2)), (3, .int x3), (4, .int x4), (5, .int x5)] → g_Pi_joined_12 I A a1 a2 P kx12 n x3 x4 x5 → W p l e { frames := 2, cells := 0, slots := 0, locals := 44 } s m args below meth c H locs 0 0 Q (F0 m 12 ls []) := by
  intro n
  induction n with
  | zero => intro x3 x4 x5 ls hl hw; exact hw.elim
  | succ n ih =>
    intro x3 x4 x5 ls hl hw
    refine i_iload (n := 14) C 8 rfl rfl hl 3 rfl ?_
    refine i_bipush (v := (12 : Int32)) (n := 16) C 9 rfl rfl rfl ?_
    refine i_icmp_ge (tgt := 102) (n := 19) C 10 rfl rfl rfl (fun c2 => ?_) (fun c2 => ?_)
    · replace hw := hw.1 c2
      exact hx12 x4 ls (lv_sub hl [2] rfl) hw
    · replace hw := hw.2 c2
      refine i_iload (n := 21) C 11 rfl rfl hl 2 rfl ?_
      refine i_istore (lv' := [(6, .int x4), (0, .ref (ad 2)), (3, .int x3), (4, .int x4), (5, .int x5)]) (n := 23) C 12 rfl rfl hl (by decide) rfl (fun ls hl => ?_)
      refine i_iconst (v := (0 : Int32)) (n := 24) C 13 rfl rfl rfl ?_
      refine i_istore (lv' := [(7, .int (0 : Int32)), (6, .int x4), (0, .ref (ad 2)), (3, .int x3), (4, .int x4), (5, .int x5)]) (n := 26) C 14 rfl rfl hl (by decide) rfl (fun ls hl => ?_)
      obtain ⟨n9, hw⟩ := hw
      refine e_Pi_joined_26 C h hret (fun x3_9 x4_9 x5_9 x6_9 ls hl hw => ?_) n9 x3 x4 x5 x4 (0 : Int32) ls (lv_sub hl [2, 3, 4, 5, 1, 0] rfl) hw
      have hl : lv_has ls 9 [(0, .ref (ad 2)), (3, .int x3_9), (4, .int x4_9), (5, .int x5_9), (6, .int x6_9)] := hl
      refine i_iload (n := 88) C 47 rfl rfl hl 2 rfl ?_
      refine i_iload (n := 90) C 48 rfl rfl hl 4 rfl ?_
      refine i_icmp_ne (tgt := 96) (n := 93) C 49 rfl rfl rfl (fun c10 => ?_) (fun c10 => ?_)
      · replace hw := hw.1 c10
        refine i_iinc (v := x5_9 + (1 : Int32)) (lv' := [(5, .int (x5_9 + (1 : Int32))), (0, .ref (ad 2)), (3, .int x3_9), (4, .int x4_9), (6, .int x6_9)]) (n := 99) C 51 rfl rfl hl 3 rfl rfl (by decide) rfl (fun ls hl => ?_)
        refine i_goto (tgt := 12) C 52 rfl rfl ?_
        exact ih x3_9 x4_9 (x5_9 + (1 : Int32)) ls (lv_sub hl [1, 2, 3, 0] rfl) hw
      · replace hw := hw.2 c10
        refine i_goto (tgt := 102) C 50 rfl rfl ?_
        exact hx12 x4_9 ls (lv_sub hl [2] rfl) hw
set_option maxHeartbeats 4000000 in
set_option maxRecDepth 100000 in
theorem m_Pi_joined {l : Launch} {D : va_G} {cy : Nat → ClassId} {ad : Nat → Nat} {I : Nat → Int32} {A : Nat → Nat → Int32} {T : Nat → Option Nat} {L : List Nat} {K : Nat → Nat} {F : Nat → Nat → Int32} {a1 : Int32} {a2 : Int32} {P : Int32 → Prop} (hw : g_Pi_joined I A a1 a2 P) : ∀ sz, Met l y_Pi_joined (WL y_Pi_joined c_Pi_joined 9 (some .int)) { frames := 2, cells := 0, slots := 0, locals := 44 } (va_Pc [.ref (ad 2), .int a1, .int a2] (PreW D cy (wC cy ad I A T L K F) sz)) (vp_Si P) 0 0 (fun _ => False) := by
  refine met_p R_Pi .int db_Pi_joined (by decide) rfl rfl (Nat.le_of_ble_eq_true rfl) ?_
  intro p e s m below meth c Z Q ls C h hl hret
  have hl : lv_has ls 9 [(0, .ref (ad 2)), (1, .int a1), (2, .int a2)] := hl
  refine i_aload_n (n := 1) C 0 rfl rfl rfl hl 0 rfl ?_
  refine i_iload_n (n := 2) C 1 rfl rfl rfl hl 2 rfl ?_
  refine i_callVp (rest := []) (ci := 7) (qc := (R_Pi, T_Pi, 8)) (n := 5) C 2 rfl rfl hl h rfl (wC_get (h := 2) (by decide)) (kV_Pi_60 ⟨by decide, by decide⟩) (m_Pi_openMains hw) rfl rfl (Nat.le_of_ble_eq_true rfl) ⟨by decide, by decide⟩ (fun r1 hw => ?_)
  refine i_istore_n (lv' := [(3, .int r1), (0, .ref (ad 2)), (1, .int a1), (2, .int a2)]) (n := 6) C 3 rfl rfl rfl hl (by decide) rfl (fun ls hl => ?_)
  refine i_iload_n (n := 7) C 4 rfl rfl rfl hl 2 rfl ?_
  refine i_istore (lv' := [(4, .int a1), (3, .int r1), (0, .ref (ad 2)), (1, .int a1), (2, .int a2)]) (n := 9) C 5 rfl rfl hl (by decide) rfl (fun ls hl => ?_)
  refine i_iconst (v := (0 : Int32)) (n := 10) C 6 rfl rfl rfl ?_
  refine i_istore (lv' := [(5, .int (0 : Int32)), (4, .int a1), (3, .int r1), (0, .ref (ad 2)), (1, .int a1), (2, .int a2)]) (n := 12) C 7 rfl rfl hl (by decide) rfl (fun ls hl => ?_)
  obtain ⟨n11, hw⟩ := hw
  refine e_Pi_joined_12 C h hret (fun x4_11 ls hl hw => ?_) n11 r1 a1 (0 : Int32) ls (lv_sub hl [3, 2, 1, 0] rfl) hw
  have hl : lv_has ls 9 [(4, .int x4_11)] := hl
  refine i_iload (n := 104) C 53 rfl rfl hl 0 rfl ?_
  exact hret _ _ _ rfl hw (C.dg (k := 54) rfl)
end S142
