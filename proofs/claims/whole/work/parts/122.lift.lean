section S243
variable {p : Program} {l : Launch} {e : Env} {R : Room} {s : State} {m : MethodId} {args : Array Value} {below : List Frame} {meth : Method} {c : Code} {H : Heap} {locs : List Loc} {cells slots : Nat} {Q : State → Prop}
variable {cc : ByteArray} {pc n nL : Nat} {ls : Array Slot} {rest : List Value} {D : va_G} {cy : Nat → ClassId} {Z : Nat → Prop} {ad : Nat → Nat} {tb : List (Nat × Instr × Nat)} {lv : List (Nat × Value)}
set_option maxHeartbeats 4000000 in
set_option maxRecDepth 100000 in
theorem e_Mo_fails_70  {a1 : Int32} {P : Int32 → ((Nat → Int32) × (Nat → Nat → Int32)) → Prop} {kb25 : (Nat → Int32) → (Nat → Nat → Int32) → Int32 → Int32 → Int32 → Prop} (C : CX D cy R_Mo c_Mo_fails tb_Mo_fails 5 p s m args c Z) (hret : RetI p l e { frames := 2, cells := 0, slots := 0, locals := 52 } s m args below meth c c_Mo_fails .int D Z Q (fun (u : (Nat → Int32) × (Nat → Nat → Int32)) => wM cy ad u.1 u.2) P 0 0)
    (hb25 : ∀ (I : Nat → Int32) (A : Nat → Nat → Int32) (x2 : Int32) (x3 : Int32) (x4 : Int32) (ls : Array Slot) (H : Heap) (locs : List Loc), lv_has ls 5 [(0, .ref (ad 0)), (1, .int a1), (2, .int x2), (3, .int x3), (4, .int x4)] → HXw D Z s.heap H locs (wM cy ad I A) → kb25 I A x2 x3 x4 → W p l e { frames := 2, cells := 0, slots := 0, locals := 52 } s m args below meth c H locs 0 0 Q (F0 m 25 ls [])) :
    ∀ (I : Nat → Int32) (A : Nat → Nat → Int32) (x2 : Int32) (x4 : Int32) (s0 : Int32) (ls : Array Slot) (H : Heap) (locs : List Loc), lv_has ls 5 [(0, .ref (ad 0)), (1, .int a1), (2, .int x2), (4, .int x4)] → HXw D Z s.heap H locs (wM cy ad I A) → g_Mo_fails_70 a1 P kb25 I A x2 x4 s0 → W p l e { frames := 2, cells := 0, slots := 0, locals := 52 } s m args below meth c H locs 0 0 Q (F0 m 70 ls [.int s0]) := by
  intro I A x2 x4 s0 ls H locs hl h hw
  refine i_istore_n (lv' := [(3, .int s0), (0, .ref (ad 0)), (1, .int a1), (2, .int x2), (4, .int x4)]) (n := 71) C 38 rfl rfl rfl hl (by decide) rfl (fun ls hl => ?_)
  refine i_iinc (v := x4 + (1 : Int32)) (lv' := [(4, .int (x4 + (1 : Int32))), (3, .int s0), (0, .ref (ad 0)), (1, .int a1), (2, .int x2)]) (n := 74) C 39 rfl rfl hl 4 rfl rfl (by decide) rfl (fun ls hl => ?_)
  refine i_goto (tgt := 25) C 40 rfl rfl ?_
  exact hb25 I A x2 s0 (x4 + (1 : Int32)) ls _ _ (lv_sub hl [2, 3, 4, 1, 0] rfl) h hw
set_option maxHeartbeats 4000000 in
set_option maxRecDepth 100000 in
theorem e_Mo_fails_25  {a1 : Int32} {P : Int32 → ((Nat → Int32) × (Nat → Nat → Int32)) → Prop} {kx25 : (Nat → Int32) → (Nat → Nat → Int32) → Int32 → Int32 → Prop} (C : CX D cy R_Mo c_Mo_fails tb_Mo_fails 5 p s m args c Z) (hret : RetI p l e { frames := 2, cells := 0, slots := 0, locals := 52 } s m args below meth c c_Mo_fails .int D Z Q (fun (u : (Nat → Int32) × (Nat → Nat → Int32)) => wM cy ad u.1 u.2) P 0 0)
    (hx25 : ∀ (I : Nat → Int32) (A : Nat → Nat → Int32) (x2 : Int32) (x3 : Int32) (ls : Array Slot) (H : Heap) (locs : List Loc), lv_has ls 5 [(0, .ref (ad 0)), (2, .int x2), (3, .int x3)] → HXw D Z s.heap H locs (wM cy ad I A) → kx25 I A x2 x3 → W p l e { frames := 2, cells := 0, slots := 0, locals := 52 } s m args below meth c H locs 0 0 Q (F0 m 77 ls [])) :
    ∀ (n : Nat) (I : Nat → Int32) (A : Nat → Nat → Int32) (x2 : Int32) (x3 : Int32) (x4 : Int32) (ls : Array Slot) (H : Heap) (locs : List Loc), lv_has ls 5 [(0, .ref (ad 0)), (1, .int a1), (2, .int x2), (3, .int x3), (4, .int x4)] → HXw D Z s.heap H locs (wM cy ad I A) → g_Mo_fails_25 a1 P kx25 n I A x2 x3 x4 → W p l e { frames := 2, cells := 0, slots := 0, locals := 52 } s m args below meth c H locs 0 0 Q (F0 m 25 ls []) := by
  intro n
  induction n with
  | zero => intro I A x2 x3 x4 ls H locs hl h hw; exact hw.elim
  | succ n ih =>
    intro I A x2 x3 x4 ls H locs hl h hw
    refine i_iload (n := 27) C 14 rfl rfl hl 4 rfl ?_
    refine i_iload_n (n := 28) C 15 rfl rfl rfl hl 2 rfl ?_
    refine i_icmp_ge (tgt := 77) (n := 31) C 16 rfl rfl rfl (fun c4 => ?_) (fun c4 => ?_)
    · replace hw := hw.1 c4
      exact hx25 I A x2 x3 ls _ _ (lv_sub hl [0, 2, 3] rfl) h hw
    · replace hw := hw.2 c4
      refine i_iload_n (n := 32) C 17 rfl rfl rfl hl 3 rfl ?_
      refine i_if_ge (tgt := 77) (n := 35) C 18 rfl rfl rfl (fun c5 => ?_) (fun c5 => ?_)
      · replace hw := hw.1 c5
        exact hx25 I A x2 x3 ls _ _ (lv_sub hl [0, 2, 3] rfl) h hw
      · replace hw := hw.2 c5
        refine i_aload_n (n := 36) C 19 rfl rfl rfl hl 0 rfl ?_
        refine i_iload (n := 38) C 20 rfl rfl hl 4 rfl ?_
        refine i_iconst (v := (1 : Int32)) (n := 39) C 21 rfl rfl rfl ?_
        refine i_iadd (n := 40) C 22 rfl rfl ?_
        refine fpM_Mo_218 (n := 43) C 23 rfl rfl h (fun H locs h => ?_)
        refine i_aload_n (n := 44) C 24 rfl rfl rfl hl 0 rfl ?_
        refine i_callVv (rest := []) (ci := 11) (qc := (R_Mo, T_Mo, 50)) (n := 47) C 25 rfl rfl hl h rfl (wM_get (h := 0) (by decide)) (kV_Mo_265 ⟨by decide, by decide⟩) (m_Mo_layLeast hw) rfl rfl (Nat.le_of_ble_eq_true rfl) ⟨by decide, by decide⟩ (fun u6 H locs hw h => ?_)
        refine i_aload_n (n := 48) C 26 rfl rfl rfl hl 0 rfl ?_
        refine fgM_Mo_119 (n := 51) C 27 rfl rfl h ?_
        refine i_iconst (v := (0 : Int32)) (n := 52) C 28 rfl rfl rfl ?_
        refine i_iload_n (n := 53) C 29 rfl rfl rfl hl 1 rfl ?_
        refine i_iconst (v := (0 : Int32)) (n := 54) C 30 rfl rfl rfl ?_
        refine i_callSp (rest := [.ref (ad 37)]) (n := 57) C 31 rfl rfl hl h (kS_Mo_261 ⟨by decide, by decide⟩) (m_Mo_at hw) rfl rfl (Nat.le_of_ble_eq_true rfl) ⟨by decide, by decide⟩ (fun r7 hw => ?_)
        obtain ⟨hb, hw⟩ := hw
        refine i_iald (n := 58) C 32 rfl rfl h (wM_arr 36 (by decide) rfl) hb ?_
        refine i_ldc (n := 60) C 33 rfl rfl w_6_193 ?_
        refine i_icmp_lt (tgt := 68) (n := 63) C 34 rfl rfl rfl (fun c8 => ?_) (fun c8 => ?_)
        · replace hw := hw.1 c8
          refine i_bipush (v := (-6 : Int32)) (n := 70) C 37 rfl rfl rfl ?_
          exact e_Mo_fails_70 C hret ih (va_up I 11 (x4 + (1 : Int32))) u6 x2 x4 (-6 : Int32) ls _ _ (lv_sub hl [0, 1, 2, 4] rfl) h hw
        · replace hw := hw.2 c8
          refine i_iload (n := 65) C 35 rfl rfl hl 4 rfl ?_
          refine i_goto (tgt := 70) C 36 rfl rfl ?_
          exact e_Mo_fails_70 C hret ih (va_up I 11 (x4 + (1 : Int32))) u6 x2 x4 x4 ls _ _ (lv_sub hl [0, 1, 2, 4] rfl) h hw
set_option maxHeartbeats 4000000 in
set_option maxRecDepth 100000 in
theorem e_Mo_fails_77  {a1 : Int32} {P : Int32 → ((Nat → Int32) × (Nat → Nat → Int32)) → Prop}  (C : CX D cy R_Mo c_Mo_fails tb_Mo_fails 5 p s m args c Z) (hret : RetI p l e { frames := 2, cells := 0, slots := 0, locals := 52 } s m args below meth c c_Mo_fails .int D Z Q (fun (u : (Nat → Int32) × (Nat → Nat → Int32)) => wM cy ad u.1 u.2) P 0 0) :
    ∀ (I : Nat → Int32) (A : Nat → Nat → Int32) (x2 : Int32) (x3 : Int32) (ls : Array Slot) (H : Heap) (locs : List Loc), lv_has ls 5 [(0, .ref (ad 0)), (2, .int x2), (3, .int x3)] → HXw D Z s.heap H locs (wM cy ad I A) → g_Mo_fails_77 a1 P  I A x2 x3 → W p l e { frames := 2, cells := 0, slots := 0, locals := 52 } s m args below meth c H locs 0 0 Q (F0 m 77 ls []) := by
  intro I A x2 x3 ls H locs hl h hw
  refine i_aload_n (n := 78) C 41 rfl rfl rfl hl 0 rfl ?_
  refine i_iload_n (n := 79) C 42 rfl rfl rfl hl 1 rfl ?_
  refine fpM_Mo_218 (n := 82) C 43 rfl rfl h (fun H locs h => ?_)
  refine i_iload_n (n := 83) C 44 rfl rfl rfl hl 2 rfl ?_
  exact hret _ (va_up I 11 x2, A) _ _ _ _ rfl hw h (C.dg (k := 45) rfl)
set_option maxHeartbeats 4000000 in
set_option maxRecDepth 100000 in
theorem m_Mo_fails {l : Launch} {D : va_G} {cy : Nat → ClassId} {ad : Nat → Nat} {I : Nat → Int32} {A : Nat → Nat → Int32} {a1 : Int32} {P : Int32 → ((Nat → Int32) × (Nat → Nat → Int32)) → Prop} (hw : g_Mo_fails I A a1 P) : ∀ sz, Met l y_Mo_fails (WL y_Mo_fails c_Mo_fails 5 (some .int)) { frames := 2, cells := 0, slots := 0, locals := 52 } (va_Pc [.ref (ad 0), .int a1] (PreW D cy (wM cy ad I A) sz)) (va_Qi P (fun u t => PostW D (va_A (wM cy ad I A) sz) ((fun (u : (Nat → Int32) × (Nat → Nat → Int32)) => wM cy ad u.1 u.2) u) t) (va_A (wM cy ad I A) sz)) 0 0 (va_A (wM cy ad I A) sz) := by
  refine met_i (wf := fun (u : (Nat → Int32) × (Nat → Nat → Int32)) => wM cy ad u.1 u.2) R_Mo .int db_Mo_fails (by decide) rfl rfl (Nat.le_of_ble_eq_true rfl) ?_
  intro p e s m below meth c Z Q ls C h hl hret
  have hl : lv_has ls 5 [(0, .ref (ad 0)), (1, .int a1)] := hl
  refine i_iload_n (n := 1) C 0 rfl rfl rfl hl 1 rfl ?_
  refine i_iconst (v := (0 : Int32)) (n := 2) C 1 rfl rfl rfl ?_
  refine i_sipush (v := (200 : Int32)) (n := 5) C 2 rfl rfl rfl ?_
  refine i_callSp (rest := []) (n := 8) C 3 rfl rfl hl h (kS_Mo_126 ⟨by decide, by decide⟩) (m_Mo_in hw) rfl rfl (Nat.le_of_ble_eq_true rfl) ⟨by decide, by decide⟩ (fun r1 hw => ?_)
  refine i_if_ne (tgt := 14) (n := 11) C 4 rfl rfl rfl (fun c2 => ?_) (fun c2 => ?_)
  · replace hw := hw.1 c2
    refine i_aload_n (n := 15) C 7 rfl rfl rfl hl 0 rfl ?_
    refine fgM_Mo_218 (n := 18) C 8 rfl rfl h ?_
    refine lv_topi (fun y3 ey3 => ?_)
    replace hw := hw y3 ey3
    refine i_istore_n (lv' := [(2, .int y3), (0, .ref (ad 0)), (1, .int a1)]) (n := 19) C 9 rfl rfl rfl hl (by decide) rfl (fun ls hl => ?_)
    refine i_bipush (v := (-6 : Int32)) (n := 21) C 10 rfl rfl rfl ?_
    refine i_istore_n (lv' := [(3, .int (-6 : Int32)), (2, .int y3), (0, .ref (ad 0)), (1, .int a1)]) (n := 22) C 11 rfl rfl rfl hl (by decide) rfl (fun ls hl => ?_)
    refine i_iconst (v := (0 : Int32)) (n := 23) C 12 rfl rfl rfl ?_
    refine i_istore (lv' := [(4, .int (0 : Int32)), (3, .int (-6 : Int32)), (2, .int y3), (0, .ref (ad 0)), (1, .int a1)]) (n := 25) C 13 rfl rfl hl (by decide) rfl (fun ls hl => ?_)
    obtain ⟨n9, hw⟩ := hw
    refine e_Mo_fails_25 C hret (fun I_9 A_9 x2_9 x3_9 ls H locs hl h hw => ?_) n9 I A y3 (-6 : Int32) (0 : Int32) ls _ _ (lv_sub hl [3, 4, 2, 1, 0] rfl) h hw
    have hl : lv_has ls 5 [(0, .ref (ad 0)), (2, .int x2_9), (3, .int x3_9)] := hl
    exact e_Mo_fails_77 C hret  I_9 A_9 x2_9 x3_9 ls _ _ hl h hw
  · replace hw := hw.2 c2
    refine i_bipush (v := (-2 : Int32)) (n := 13) C 5 rfl rfl rfl ?_
    exact hret _ (I, A) _ _ _ _ rfl hw h (C.dg (k := 6) rfl)
end S243
section S244
variable {p : Program} {l : Launch} {e : Env} {R : Room} {s : State} {m : MethodId} {args : Array Value} {below : List Frame} {meth : Method} {c : Code} {H : Heap} {locs : List Loc} {cells slots : Nat} {Q : State → Prop}
variable {cc : ByteArray} {pc n nL : Nat} {ls : Array Slot} {rest : List Value} {D : va_G} {cy : Nat → ClassId} {Z : Nat → Prop} {ad : Nat → Nat} {tb : List (Nat × Instr × Nat)} {lv : List (Nat × Value)}
set_option maxHeartbeats 4000000 in
set_option maxRecDepth 100000 in
theorem m_Mo_term {l : Launch} {D : va_G} {cy : Nat → ClassId} {ad : Nat → Nat} {I : Nat → Int32} {A : Nat → Nat → Int32} {a1 : Int32} {a2 : Int32} {P : Int32 → ((Nat → Nat → Int32)) → Prop} (hw : g_Mo_term A a1 a2 P) : ∀ sz, Met l y_Mo_term (WL y_Mo_term c_Mo_term 4 (some .int)) { frames := 1, cells := 0, slots := 0, locals := 22 } (va_Pc [.ref (ad 0), .int a1, .int a2] (PreW D cy (wM cy ad I A) sz)) (va_Qi P (fun u t => PostW D (va_A (wM cy ad I A) sz) ((fun (u : (Nat → Nat → Int32)) => wM cy ad I u) u) t) (va_A (wM cy ad I A) sz)) 0 0 (va_A (wM cy ad I A) sz) := by
  refine met_i (wf := fun (u : (Nat → Nat → Int32)) => wM cy ad I u) R_Mo .int db_Mo_term (by decide) rfl rfl (Nat.le_of_ble_eq_true rfl) ?_
  intro p e s m below meth c Z Q ls C h hl hret
  have hl : lv_has ls 4 [(0, .ref (ad 0)), (1, .int a1), (2, .int a2)] := hl
  refine i_iload_n (n := 1) C 0 rfl rfl rfl hl 1 rfl ?_
  refine i_iconst (v := (0 : Int32)) (n := 2) C 1 rfl rfl rfl ?_
  refine i_iconst (v := (3 : Int32)) (n := 3) C 2 rfl rfl rfl ?_
  refine i_callSp (rest := []) (n := 6) C 3 rfl rfl hl h (kS_Mo_126 ⟨by decide, by decide⟩) (m_Mo_in hw) rfl rfl (Nat.le_of_ble_eq_true rfl) ⟨by decide, by decide⟩ (fun r1 hw => ?_)
  refine i_if_ne (tgt := 11) (n := 9) C 4 rfl rfl rfl (fun c2 => ?_) (fun c2 => ?_)
  · replace hw := hw.1 c2
    refine i_iload_n (n := 12) C 7 rfl rfl rfl hl 2 rfl ?_
    refine i_iconst (v := (0 : Int32)) (n := 13) C 8 rfl rfl rfl ?_
    refine i_bipush (v := (100 : Int32)) (n := 15) C 9 rfl rfl rfl ?_
    refine i_callSp (rest := []) (n := 18) C 10 rfl rfl hl h (kS_Mo_126 ⟨by decide, by decide⟩) (m_Mo_in hw) rfl rfl (Nat.le_of_ble_eq_true rfl) ⟨by decide, by decide⟩ (fun r3 hw => ?_)
    refine i_if_ne (tgt := 24) (n := 21) C 11 rfl rfl rfl (fun c4 => ?_) (fun c4 => ?_)
    · replace hw := hw.1 c4
      refine i_aload_n (n := 25) C 14 rfl rfl rfl hl 0 rfl ?_
      refine fgM_Mo_101 (n := 28) C 15 rfl rfl h ?_
      refine i_iload_n (n := 29) C 16 rfl rfl rfl hl 1 rfl ?_
      obtain ⟨hb, hw⟩ := hw
      refine i_iald (n := 30) C 17 rfl rfl h (wM_arr 30 (by decide) rfl) hb ?_
      refine lv_topi (fun y5 ey5 => ?_)
      replace hw := hw y5 ey5
      refine i_istore_n (lv' := [(3, .int y5), (0, .ref (ad 0)), (1, .int a1), (2, .int a2)]) (n := 31) C 18 rfl rfl rfl hl (by decide) rfl (fun ls hl => ?_)
      refine i_aload_n (n := 32) C 19 rfl rfl rfl hl 1 rfl ?_
      refine fgM_Mo_101 (n := 35) C 20 rfl rfl h ?_
      refine i_iload_n (n := 36) C 21 rfl rfl rfl hl 2 rfl ?_
      refine i_iload_n (n := 37) C 22 rfl rfl rfl hl 3 rfl ?_
      obtain ⟨hb, hw⟩ := hw
      refine i_iast (n := 38) C 23 rfl rfl h (wM_arr 30 (by decide) rfl) hb (wM_sA 30 (by decide) rfl _ _) (fun H locs h => ?_)
      refine i_iload_n (n := 39) C 24 rfl rfl rfl hl 0 rfl ?_
      exact hret _ (sA A 30 a1 a2) _ _ _ _ rfl hw h (C.dg (k := 25) rfl)
    · replace hw := hw.2 c4
      refine i_bipush (v := (-2 : Int32)) (n := 23) C 12 rfl rfl rfl ?_
      exact hret _ A _ _ _ _ rfl hw h (C.dg (k := 13) rfl)
  · replace hw := hw.2 c2
    refine i_iconst (v := (-1 : Int32)) (n := 10) C 5 rfl rfl rfl ?_
    exact hret _ A _ _ _ _ rfl hw h (C.dg (k := 6) rfl)
end S244
section S245
variable {p : Program} {l : Launch} {e : Env} {R : Room} {s : State} {m : MethodId} {args : Array Value} {below : List Frame} {meth : Method} {c : Code} {H : Heap} {locs : List Loc} {cells slots : Nat} {Q : State → Prop}
variable {cc : ByteArray} {pc n nL : Nat} {ls : Array Slot} {rest : List Value} {D : va_G} {cy : Nat → ClassId} {Z : Nat → Prop} {ad : Nat → Nat} {tb : List (Nat × Instr × Nat)} {lv : List (Nat × Value)}
set_option maxHeartbeats 4000000 in
set_option maxRecDepth 100000 in
theorem e_Mo_meter_24 {I : Nat → Int32} {a1 : Int32} {a2 : Int32} {P : Int32 → ((Nat → Nat → Int32)) → Prop}  (C : CX D cy R_Mo c_Mo_meter tb_Mo_meter 4 p s m args c Z) (hret : RetI p l e { frames := 2, cells := 0, slots := 0, locals := 43 } s m args below meth c c_Mo_meter .int D Z Q (fun (u : (Nat → Nat → Int32)) => wM cy ad I u) P 0 0) :
    ∀ (A : Nat → Nat → Int32) (s0 : Int32) (ls : Array Slot) (H : Heap) (locs : List Loc), lv_has ls 4 [(0, .ref (ad 0)), (1, .int a1), (2, .int a2)] → HXw D Z s.heap H locs (wM cy ad I A) → g_Mo_meter_24 I a1 a2 P  A s0 → W p l e { frames := 2, cells := 0, slots := 0, locals := 43 } s m args below meth c H locs 0 0 Q (F0 m 24 ls [.int s0]) := by
  intro A s0 ls H locs hl h hw
  refine i_istore_n (lv' := [(3, .int s0), (0, .ref (ad 0)), (1, .int a1), (2, .int a2)]) (n := 25) C 14 rfl rfl rfl hl (by decide) rfl (fun ls hl => ?_)
  refine i_aload_n (n := 26) C 15 rfl rfl rfl hl 1 rfl ?_
  refine fgM_Mo_44 (n := 29) C 16 rfl rfl h ?_
  refine i_iload_n (n := 30) C 17 rfl rfl rfl hl 2 rfl ?_
  refine i_iload_n (n := 31) C 18 rfl rfl rfl hl 3 rfl ?_
  obtain ⟨hb, hw⟩ := hw
  refine i_zast (n := 32) C 19 rfl rfl h (wM_arr 11 (by decide) rfl) hb (wM_sA 11 (by decide) rfl _ _) (fun H locs h => ?_)
  refine i_iload_n (n := 33) C 20 rfl rfl rfl hl 0 rfl ?_
  exact hret _ (sA A 11 a1 (vp_nar .boolean a2)) _ _ _ _ rfl hw h (C.dg (k := 21) rfl)
set_option maxHeartbeats 4000000 in
set_option maxRecDepth 100000 in
theorem m_Mo_meter {l : Launch} {D : va_G} {cy : Nat → ClassId} {ad : Nat → Nat} {I : Nat → Int32} {A : Nat → Nat → Int32} {a1 : Int32} {a2 : Int32} {P : Int32 → ((Nat → Nat → Int32)) → Prop} (hw : g_Mo_meter I A a1 a2 P) : ∀ sz, Met l y_Mo_meter (WL y_Mo_meter c_Mo_meter 4 (some .int)) { frames := 2, cells := 0, slots := 0, locals := 43 } (va_Pc [.ref (ad 0), .int a1, .int a2] (PreW D cy (wM cy ad I A) sz)) (va_Qi P (fun u t => PostW D (va_A (wM cy ad I A) sz) ((fun (u : (Nat → Nat → Int32)) => wM cy ad I u) u) t) (va_A (wM cy ad I A) sz)) 0 0 (va_A (wM cy ad I A) sz) := by
  refine met_i (wf := fun (u : (Nat → Nat → Int32)) => wM cy ad I u) R_Mo .int db_Mo_meter (by decide) rfl rfl (Nat.le_of_ble_eq_true rfl) ?_
  intro p e s m below meth c Z Q ls C h hl hret
  have hl : lv_has ls 4 [(0, .ref (ad 0)), (1, .int a1), (2, .int a2)] := hl
  refine i_aload_n (n := 1) C 0 rfl rfl rfl hl 0 rfl ?_
  refine i_iload_n (n := 2) C 1 rfl rfl rfl hl 1 rfl ?_
  refine i_callVp (rest := []) (ci := 11) (qc := (R_Mo, T_Mo, 50)) (n := 5) C 2 rfl rfl hl h rfl (wM_get (h := 0) (by decide)) (kV_Mo_136 ⟨by decide, by decide⟩) (m_Mo_isNode hw) rfl rfl (Nat.le_of_ble_eq_true rfl) ⟨by decide, by decide⟩ (fun r1 hw => ?_)
  refine i_if_ne (tgt := 10) (n := 8) C 3 rfl rfl rfl (fun c2 => ?_) (fun c2 => ?_)
  · replace hw := hw.1 c2
    refine i_aload_n (n := 11) C 6 rfl rfl rfl hl 0 rfl ?_
    refine fgM_Mo_44 (n := 14) C 7 rfl rfl h ?_
    refine i_iload_n (n := 15) C 8 rfl rfl rfl hl 1 rfl ?_
    obtain ⟨hb, hw⟩ := hw
    refine i_zald (n := 16) C 9 rfl rfl h (wM_arr 11 (by decide) rfl) hb ?_
    refine i_if_eq (tgt := 23) (n := 19) C 10 rfl rfl rfl (fun c3 => ?_) (fun c3 => ?_)
    · replace hw := hw.1 c3
      refine i_iconst (v := (0 : Int32)) (n := 24) C 13 rfl rfl rfl ?_
      exact e_Mo_meter_24 C hret  A (0 : Int32) ls _ _ hl h hw
    · replace hw := hw.2 c3
      refine i_iconst (v := (1 : Int32)) (n := 20) C 11 rfl rfl rfl ?_
      refine i_goto (tgt := 24) C 12 rfl rfl ?_
      exact e_Mo_meter_24 C hret  A (1 : Int32) ls _ _ hl h hw
  · replace hw := hw.2 c2
    refine i_iconst (v := (-1 : Int32)) (n := 9) C 4 rfl rfl rfl ?_
    exact hret _ A _ _ _ _ rfl hw h (C.dg (k := 5) rfl)
end S245
section S246
variable {p : Program} {l : Launch} {e : Env} {R : Room} {s : State} {m : MethodId} {args : Array Value} {below : List Frame} {meth : Method} {c : Code} {H : Heap} {locs : List Loc} {cells slots : Nat} {Q : State → Prop}
variable {cc : ByteArray} {pc n nL : Nat} {ls : Array Slot} {rest : List Value} {D : va_G} {cy : Nat → ClassId} {Z : Nat → Prop} {ad : Nat → Nat} {tb : List (Nat × Instr × Nat)} {lv : List (Nat × Value)}
set_option maxHeartbeats 4000000 in
set_option maxRecDepth 100000 in
theorem m_Mo_pay {l : Launch} {D : va_G} {cy : Nat → ClassId} {ad : Nat → Nat} {I : Nat → Int32} {A : Nat → Nat → Int32} {a1 : Int32} {P : Int32 → Prop} (hw : g_Mo_pay I A a1 P) : ∀ sz, Met l y_Mo_pay (WL y_Mo_pay c_Mo_pay 2 (some .int)) { frames := 2, cells := 0, slots := 0, locals := 43 } (va_Pc [.ref (ad 0), .int a1] (PreW D cy (wM cy ad I A) sz)) (vp_Si P) 0 0 (fun _ => False) := by
  refine met_p R_Mo .int db_Mo_pay (by decide) rfl rfl (Nat.le_of_ble_eq_true rfl) ?_
  intro p e s m below meth c Z Q ls C h hl hret
  have hl : lv_has ls 2 [(0, .ref (ad 0)), (1, .int a1)] := hl
  refine i_aload_n (n := 1) C 0 rfl rfl rfl hl 0 rfl ?_
  refine i_iload_n (n := 2) C 1 rfl rfl rfl hl 1 rfl ?_
  refine i_callVp (rest := []) (ci := 11) (qc := (R_Mo, T_Mo, 50)) (n := 5) C 2 rfl rfl hl h rfl (wM_get (h := 0) (by decide)) (kV_Mo_136 ⟨by decide, by decide⟩) (m_Mo_isNode hw) rfl rfl (Nat.le_of_ble_eq_true rfl) ⟨by decide, by decide⟩ (fun r1 hw => ?_)
  refine i_if_eq (tgt := 32) (n := 8) C 3 rfl rfl rfl (fun c2 => ?_) (fun c2 => ?_)
  · replace hw := hw.1 c2
    refine i_iconst (v := (-1 : Int32)) (n := 33) C 19 rfl rfl rfl ?_
    exact hret _ _ _ rfl hw (C.dg (k := 20) rfl)
  · replace hw := hw.2 c2
    refine i_aload_n (n := 9) C 4 rfl rfl rfl hl 0 rfl ?_
    refine fgM_Mo_41 (n := 12) C 5 rfl rfl h ?_
    refine i_iload_n (n := 13) C 6 rfl rfl rfl hl 1 rfl ?_
    obtain ⟨hb, hw⟩ := hw
    refine i_iald (n := 14) C 7 rfl rfl h (wM_arr 10 (by decide) rfl) hb ?_
    refine i_bipush (v := (100 : Int32)) (n := 16) C 8 rfl rfl rfl ?_
    refine i_idiv (n := 17) C 9 rfl rfl (by decide) ?_
    refine i_aload_n (n := 18) C 10 rfl rfl rfl hl 0 rfl ?_
    refine fgM_Mo_101 (n := 21) C 11 rfl rfl h ?_
    refine i_aload_n (n := 22) C 12 rfl rfl rfl hl 0 rfl ?_
    refine fgM_Mo_13 (n := 25) C 13 rfl rfl h ?_
    refine i_iload_n (n := 26) C 14 rfl rfl rfl hl 1 rfl ?_
    obtain ⟨hb, hw⟩ := hw
    refine i_iald (n := 27) C 15 rfl rfl h (wM_arr 1 (by decide) rfl) hb ?_
    obtain ⟨hb, hw⟩ := hw
    refine i_iald (n := 28) C 16 rfl rfl h (wM_arr 30 (by decide) rfl) hb ?_
    refine i_imul (n := 29) C 17 rfl rfl ?_
    refine i_goto (tgt := 33) C 18 rfl rfl ?_
    exact hret _ _ _ rfl hw (C.dg (k := 20) rfl)
end S246
