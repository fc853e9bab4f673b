theorem kV_Mo_251 {R : Room} {s : State} {args : Array Value} (hR : 3 + 1 ≤ R.frames ∧ 8 + (6 + 11) + 72 ≤ R.locals) (ht : ∀ w ∈ GW, w.before args s = true) : CallW R s args R_Mo R_Mo 251 y_Mo_cutOff c_Mo_cutOff 6 (some .int) (WL y_Mo_cutOff c_Mo_cutOff 6 (some .int)) { frames := 3, cells := 0, slots := 0, locals := 72 } 0 0 1 := cwV 1 ht (GW_v w_7_5 w_7_7 w_0_47 w_1_7 (GW_wl w_7_8)) rfl rfl rfl (by decide +kernel) hR
section S232
variable {p : Program} {l : Launch} {e : Env} {R : Room} {s : State} {m : MethodId} {args : Array Value} {below : List Frame} {meth : Method} {c : Code} {H : Heap} {locs : List Loc} {cells slots : Nat} {Q : State → Prop}
variable {cc : ByteArray} {pc n nL : Nat} {ls : Array Slot} {rest : List Value} {D : va_G} {cy : Nat → ClassId} {Z : Nat → Prop} {ad : Nat → Nat} {tb : List (Nat × Instr × Nat)} {lv : List (Nat × Value)}
def g_Mo_cut (I : Nat → Int32) (A : Nat → Nat → Int32) (a1 : Int32) (P : Int32 → Prop) : Prop := g_Mo_isNode I a1 (fun r1 => ((r1 = 0 → (P (-1 : Int32))) ∧ (¬ r1 = 0 → (g_Mo_cutOff I A a1 (fun r3 => (P r3))))))
set_option maxHeartbeats 4000000 in
set_option maxRecDepth 100000 in
theorem m_Mo_cut {l : Launch} {D : va_G} {cy : Nat → ClassId} {ad : Nat → Nat} {I : Nat → Int32} {A : Nat → Nat → Int32} {a1 : Int32} {P : Int32 → Prop} (hw : g_Mo_cut I A a1 P) : ∀ sz, Met l y_Mo_cut (WL y_Mo_cut c_Mo_cut 2 (some .int)) { frames := 4, cells := 0, slots := 0, locals := 97 } (va_Pc [.ref (ad 0), .int a1] (PreW D cy (wM cy ad I A) sz)) (vp_Si P) 0 0 (fun _ => False) := by
  refine met_p R_Mo .int db_Mo_cut (by decide) rfl rfl (Nat.le_of_ble_eq_true rfl) ?_
  intro p e s m below meth c Z Q ls C h hl hret
  have hl : lv_has ls 2 [(0, .ref (ad 0)), (1, .int a1)] := hl
  refine i_aload_n (n := 1) C 0 rfl rfl rfl hl 0 rfl ?_
  refine i_iload_n (n := 2) C 1 rfl rfl rfl hl 1 rfl ?_
  refine i_callVp (rest := []) (ci := 11) (qc := (R_Mo, T_Mo, 50)) (n := 5) C 2 rfl rfl hl h rfl (wM_get (h := 0) (by decide)) (kV_Mo_136 ⟨by decide, by decide⟩) (m_Mo_isNode hw) rfl rfl (Nat.le_of_ble_eq_true rfl) ⟨by decide, by decide⟩ (fun r1 hw => ?_)
  refine i_if_eq (tgt := 16) (n := 8) C 3 rfl rfl rfl (fun c2 => ?_) (fun c2 => ?_)
  · replace hw := hw.1 c2
    refine i_iconst (v := (-1 : Int32)) (n := 17) C 8 rfl rfl rfl ?_
    exact hret _ _ _ rfl hw (C.dg (k := 9) rfl)
  · replace hw := hw.2 c2
    refine i_aload_n (n := 9) C 4 rfl rfl rfl hl 0 rfl ?_
    refine i_iload_n (n := 10) C 5 rfl rfl rfl hl 1 rfl ?_
    refine i_callVp (rest := []) (ci := 11) (qc := (R_Mo, T_Mo, 50)) (n := 13) C 6 rfl rfl hl h rfl (wM_get (h := 0) (by decide)) (kV_Mo_251 ⟨by decide, by decide⟩) (m_Mo_cutOff hw) rfl rfl (Nat.le_of_ble_eq_true rfl) ⟨by decide, by decide⟩ (fun r3 hw => ?_)
    refine i_goto (tgt := 17) C 7 rfl rfl ?_
    exact hret _ _ _ rfl hw (C.dg (k := 9) rfl)
end S232
section S233
variable {p : Program} {l : Launch} {e : Env} {R : Room} {s : State} {m : MethodId} {args : Array Value} {below : List Frame} {meth : Method} {c : Code} {H : Heap} {locs : List Loc} {cells slots : Nat} {Q : State → Prop}
variable {cc : ByteArray} {pc n nL : Nat} {ls : Array Slot} {rest : List Value} {D : va_G} {cy : Nat → ClassId} {Z : Nat → Prop} {ad : Nat → Nat} {tb : List (Nat × Instr × Nat)} {lv : List (Nat × Value)}
def g_Mo_dry (I : Nat → Int32) (A : Nat → Nat → Int32) (a1 : Int32) (P : Int32 → Prop) : Prop := g_Mo_isNode I a1 (fun r1 => ((¬ r1 = 0 → (g_Mo_cutOff I A a1 (fun r3 => ((0 ≤ r3 → (g_Mo_joined I A (0 : Int32) (fun r5 => (g_Mo_joined I A r3 (fun r6 => (P (r5 &&& (r6 ^^^ (-1 : Int32))))))))) ∧ (¬ 0 ≤ r3 → (P (-6 : Int32))))))) ∧ (r1 = 0 → (P (-1 : Int32)))))
set_option maxHeartbeats 4000000 in
set_option maxRecDepth 100000 in
theorem m_Mo_dry {l : Launch} {D : va_G} {cy : Nat → ClassId} {ad : Nat → Nat} {I : Nat → Int32} {A : Nat → Nat → Int32} {a1 : Int32} {P : Int32 → Prop} (hw : g_Mo_dry I A a1 P) : ∀ sz, Met l y_Mo_dry (WL y_Mo_dry c_Mo_dry 3 (some .int)) { frames := 4, cells := 0, slots := 0, locals := 97 } (va_Pc [.ref (ad 0), .int a1] (PreW D cy (wM cy ad I A) sz)) (vp_Si P) 0 0 (fun _ => False) := by
  refine met_p R_Mo .int db_Mo_dry (by decide) rfl rfl (Nat.le_of_ble_eq_true rfl) ?_
  intro p e s m below meth c Z Q ls C h hl hret
  have hl : lv_has ls 3 [(0, .ref (ad 0)), (1, .int a1)] := hl
  refine i_aload_n (n := 1) C 0 rfl rfl rfl hl 0 rfl ?_
  refine i_iload_n (n := 2) C 1 rfl rfl rfl hl 1 rfl ?_
  refine i_callVp (rest := []) (ci := 11) (qc := (R_Mo, T_Mo, 50)) (n := 5) C 2 rfl rfl hl h rfl (wM_get (h := 0) (by decide)) (kV_Mo_136 ⟨by decide, by decide⟩) (m_Mo_isNode hw) rfl rfl (Nat.le_of_ble_eq_true rfl) ⟨by decide, by decide⟩ (fun r1 hw => ?_)
  refine i_if_ne (tgt := 10) (n := 8) C 3 rfl rfl rfl (fun c2 => ?_) (fun c2 => ?_)
  · replace hw := hw.1 c2
    refine i_aload_n (n := 11) C 6 rfl rfl rfl hl 0 rfl ?_
    refine i_iload_n (n := 12) C 7 rfl rfl rfl hl 1 rfl ?_
    refine i_callVp (rest := []) (ci := 11) (qc := (R_Mo, T_Mo, 50)) (n := 15) C 8 rfl rfl hl h rfl (wM_get (h := 0) (by decide)) (kV_Mo_251 ⟨by decide, by decide⟩) (m_Mo_cutOff hw) rfl rfl (Nat.le_of_ble_eq_true rfl) ⟨by decide, by decide⟩ (fun r3 hw => ?_)
    refine i_istore_n (lv' := [(2, .int r3), (0, .ref (ad 0)), (1, .int a1)]) (n := 16) C 9 rfl rfl rfl hl (by decide) rfl (fun ls hl => ?_)
    refine i_iload_n (n := 17) C 10 rfl rfl rfl hl 0 rfl ?_
    refine i_if_ge (tgt := 25) (n := 20) C 11 rfl rfl rfl (fun c4 => ?_) (fun c4 => ?_)
    · replace hw := hw.1 c4
      refine i_aload_n (n := 26) C 14 rfl rfl rfl hl 1 rfl ?_
      refine i_iconst (v := (0 : Int32)) (n := 27) C 15 rfl rfl rfl ?_
      refine i_callVp (rest := []) (ci := 11) (qc := (R_Mo, T_Mo, 50)) (n := 30) C 16 rfl rfl hl h rfl (wM_get (h := 0) (by decide)) (kV_Mo_248 ⟨by decide, by decide⟩) (m_Mo_joined hw) rfl rfl (Nat.le_of_ble_eq_true rfl) ⟨by decide, by decide⟩ (fun r5 hw => ?_)
      refine i_aload_n (n := 31) C 17 rfl rfl rfl hl 1 rfl ?_
      refine i_iload_n (n := 32) C 18 rfl rfl rfl hl 0 rfl ?_
      refine i_callVp (rest := [.int r5]) (ci := 11) (qc := (R_Mo, T_Mo, 50)) (n := 35) C 19 rfl rfl hl h rfl (wM_get (h := 0) (by decide)) (kV_Mo_248 ⟨by decide, by decide⟩) (m_Mo_joined hw) rfl rfl (Nat.le_of_ble_eq_true rfl) ⟨by decide, by decide⟩ (fun r6 hw => ?_)
      refine i_iconst (v := (-1 : Int32)) (n := 36) C 20 rfl rfl rfl ?_
      refine i_ixor (n := 37) C 21 rfl rfl ?_
      refine i_iand (n := 38) C 22 rfl rfl ?_
      exact hret _ _ _ rfl hw (C.dg (k := 23) rfl)
    · replace hw := hw.2 c4
      refine i_bipush (v := (-6 : Int32)) (n := 22) C 12 rfl rfl rfl ?_
      refine i_goto (tgt := 38) C 13 rfl rfl ?_
      exact hret _ _ _ rfl hw (C.dg (k := 23) rfl)
  · replace hw := hw.2 c2
    refine i_iconst (v := (-1 : Int32)) (n := 9) C 4 rfl rfl rfl ?_
    exact hret _ _ _ rfl hw (C.dg (k := 5) rfl)
end S233
section S234
variable {p : Program} {l : Launch} {e : Env} {R : Room} {s : State} {m : MethodId} {args : Array Value} {below : List Frame} {meth : Method} {c : Code} {H : Heap} {locs : List Loc} {cells slots : Nat} {Q : State → Prop}
variable {cc : ByteArray} {pc n nL : Nat} {ls : Array Slot} {rest : List Value} {D : va_G} {cy : Nat → ClassId} {Z : Nat → Prop} {ad : Nat → Nat} {tb : List (Nat × Instr × Nat)} {lv : List (Nat × Value)}
def g_Mo_seek_32 (a1 : Int32) (a2 : Int32) (a3 : Int32) (P : Int32 → ((Nat → Int32) × (Nat → Nat → Int32)) → Prop) (kx32 : (Nat → Int32) → (Nat → Nat → Int32) → Int32 → Prop) : Nat → (Nat → Int32) → (Nat → Nat → Int32) → Int32 → Int32 → Prop
  | 0, _, _, _, _ => False
  | n32 + 1, I, A, x4, x5 => ((I 0) ≤ x5 → (kx32 I A x4)) ∧ (¬ (I 0) ≤ x5 → (vp_in x5 12 ∧ (vp_in x5 12 ∧ (g_Mo_seek_32 a1 a2 a3 P kx32 n32 I (sA A 35 x5 (A 13 x5.toNatClampNeg)) x4 (x5 + (1 : Int32))))))
set_option maxHeartbeats 4000000 in
set_option maxRecDepth 100000 in
theorem e_Mo_seek_32  {a1 : Int32} {a2 : Int32} {a3 : Int32} {P : Int32 → ((Nat → Int32) × (Nat → Nat → Int32)) → Prop} {kx32 : (Nat → Int32) → (Nat → Nat → Int32) → Int32 → Prop} (C : CX D cy R_Mo c_Mo_seek tb_Mo_seek 10 p s m args c Z) (hret : RetI p l e { frames := 4, cells := 0, slots := 0, locals := 95 } s m args below meth c c_Mo_seek .int D Z Q (fun (u : (Nat → Int32) × (Nat → Nat → Int32)) => wM cy ad u.1 u.2) P 0 0)
    (hx32 : ∀ (I : Nat → Int32) (A : Nat → Nat → Int32) (x4 : Int32) (ls : Array Slot) (H : Heap) (locs : List Loc), lv_has ls 10 [(0, .ref (ad 0)), (1, .int a1), (2, .int a2), (3, .int a3), (4, .int x4)] → HXw D Z s.heap H locs (wM cy ad I A) → kx32 I A x4 → W p l e { frames := 4, cells := 0, slots := 0, locals := 95 } s m args below meth c H locs 0 0 Q (F0 m 61 ls [])) :
    ∀ (n : Nat) (I : Nat → Int32) (A : Nat → Nat → Int32) (x4 : Int32) (x5 : Int32) (ls : Array Slot) (H : Heap) (locs : List Loc), lv_has ls 10 [(0, .ref (ad 0)), (1, .int a1), (2, .int a2), (3, .int a3), (4, .int x4), (5, .int x5)] → HXw D Z s.heap H locs (wM cy ad I A) → g_Mo_seek_32 a1 a2 a3 P kx32 n I A x4 x5 → W p l e { frames := 4, cells := 0, slots := 0, locals := 95 } s m args below meth c H locs 0 0 Q (F0 m 32 ls []) := by
  intro n
  induction n with
  | zero => intro I A x4 x5 ls H locs hl h hw; exact hw.elim
  | succ n ih =>
    intro I A x4 x5 ls H locs hl h hw
    refine i_iload (n := 34) C 17 rfl rfl hl 5 rfl ?_
    refine i_aload_n (n := 35) C 18 rfl rfl rfl hl 0 rfl ?_
    refine fgM_Mo_122 (n := 38) C 19 rfl rfl h ?_
    refine i_icmp_ge (tgt := 61) (n := 41) C 20 rfl rfl rfl (fun c6 => ?_) (fun c6 => ?_)
    · replace hw := hw.1 c6
      exact hx32 I A x4 ls _ _ (lv_sub hl [0, 1, 2, 3, 4] rfl) h hw
    · replace hw := hw.2 c6
      refine i_aload_n (n := 42) C 21 rfl rfl rfl hl 0 rfl ?_
      refine fgM_Mo_116 (n := 45) C 22 rfl rfl h ?_
      refine i_iload (n := 47) C 23 rfl rfl hl 5 rfl ?_
      refine i_aload_n (n := 48) C 24 rfl rfl rfl hl 0 rfl ?_
      refine fgM_Mo_50 (n := 51) C 25 rfl rfl h ?_
      refine i_iload (n := 53) C 26 rfl rfl hl 5 rfl ?_
      obtain ⟨hb, hw⟩ := hw
      refine i_iald (n := 54) C 27 rfl rfl h (wM_arr 13 (by decide) rfl) hb ?_
      obtain ⟨hb, hw⟩ := hw
      refine i_iast (n := 55) C 28 rfl rfl h (wM_arr 35 (by decide) rfl) hb (wM_sA 35 (by decide) rfl _ _) (fun H locs h => ?_)
      refine i_iinc (v := x5 + (1 : Int32)) (lv' := [(5, .int (x5 + (1 : Int32))), (0, .ref (ad 0)), (1, .int a1), (2, .int a2), (3, .int a3), (4, .int x4)]) (n := 58) C 29 rfl rfl hl 5 rfl rfl (by decide) rfl (fun ls hl => ?_)
      refine i_goto (tgt := 32) C 30 rfl rfl ?_
      exact ih I (sA A 35 x5 (A 13 x5.toNatClampNeg)) x4 (x5 + (1 : Int32)) ls _ _ (lv_sub hl [1, 2, 3, 4, 5, 0] rfl) h hw
def g_Mo_seek_253 (a1 : Int32) (a2 : Int32) (a3 : Int32) (P : Int32 → ((Nat → Int32) × (Nat → Nat → Int32)) → Prop) (kb67 : (Nat → Int32) → (Nat → Nat → Int32) → Int32 → Int32 → Int32 → Prop) (I : Nat → Int32) (A : Nat → Nat → Int32) (x4 : Int32) (x5 : Int32) (x6 : Int32) : Prop := kb67 I A x4 x5 (x6 + (1 : Int32))
set_option maxHeartbeats 4000000 in
set_option maxRecDepth 100000 in
theorem e_Mo_seek_253  {a1 : Int32} {a2 : Int32} {a3 : Int32} {P : Int32 → ((Nat → Int32) × (Nat → Nat → Int32)) → Prop} {kb67 : (Nat → Int32) → (Nat → Nat → Int32) → Int32 → Int32 → Int32 → Prop} (C : CX D cy R_Mo c_Mo_seek tb_Mo_seek 10 p s m args c Z) (hret : RetI p l e { frames := 4, cells := 0, slots := 0, locals := 95 } s m args below meth c c_Mo_seek .int D Z Q (fun (u : (Nat → Int32) × (Nat → Nat → Int32)) => wM cy ad u.1 u.2) P 0 0)
    (hb67 : ∀ (I : Nat → Int32) (A : Nat → Nat → Int32) (x4 : Int32) (x5 : Int32) (x6 : Int32) (ls : Array Slot) (H : Heap) (locs : List Loc), lv_has ls 10 [(0, .ref (ad 0)), (1, .int a1), (2, .int a2), (3, .int a3), (4, .int x4), (5, .int x5), (6, .int x6)] → HXw D Z s.heap H locs (wM cy ad I A) → kb67 I A x4 x5 x6 → W p l e { frames := 4, cells := 0, slots := 0, locals := 95 } s m args below meth c H locs 0 0 Q (F0 m 67 ls [])) :
    ∀ (I : Nat → Int32) (A : Nat → Nat → Int32) (x4 : Int32) (x5 : Int32) (x6 : Int32) (ls : Array Slot) (H : Heap) (locs : List Loc), lv_has ls 10 [(0, .ref (ad 0)), (1, .int a1), (2, .int a2), (3, .int a3), (4, .int x4), (5, .int x5), (6, .int x6)] → HXw D Z s.heap H locs (wM cy ad I A) → g_Mo_seek_253 a1 a2 a3 P kb67 I A x4 x5 x6 → W p l e { frames := 4, cells := 0, slots := 0, locals := 95 } s m args below meth c H locs 0 0 Q (F0 m 253 ls []) := by
  intro I A x4 x5 x6 ls H locs hl h hw
  refine i_iinc (v := x6 + (1 : Int32)) (lv' := [(6, .int (x6 + (1 : Int32))), (0, .ref (ad 0)), (1, .int a1), (2, .int a2), (3, .int a3), (4, .int x4), (5, .int x5)]) (n := 256) C 135 rfl rfl hl 6 rfl rfl (by decide) rfl (fun ls hl => ?_)
  refine i_goto (tgt := 67) C 136 rfl rfl ?_
  exact hb67 I A x4 x5 (x6 + (1 : Int32)) ls _ _ (lv_sub hl [1, 2, 3, 4, 5, 6, 0] rfl) h hw
def g_Mo_seek_162 (a1 : Int32) (a2 : Int32) (a3 : Int32) (P : Int32 → ((Nat → Int32) × (Nat → Nat → Int32)) → Prop) (kb122 : (Nat → Int32) → (Nat → Nat → Int32) → Int32 → Int32 → Int32 → Int32 → Int32 → Prop) (I : Nat → Int32) (A : Nat → Nat → Int32) (x4 : Int32) (x5 : Int32) (x6 : Int32) (x8 : Int32) (s0 : Int32) (s1 : Int32) : Prop := ∀ y16 : Int32, y16 = (s0 + s1) → (kb122 I A x4 x5 x6 y16 (x8 + (1 : Int32)))
set_option maxHeartbeats 4000000 in
set_option maxRecDepth 100000 in
theorem e_Mo_seek_162  {a1 : Int32} {a2 : Int32} {a3 : Int32} {P : Int32 → ((Nat → Int32) × (Nat → Nat → Int32)) → Prop} {kb122 : (Nat → Int32) → (Nat → Nat → Int32) → Int32 → Int32 → Int32 → Int32 → Int32 → Prop} (C : CX D cy R_Mo c_Mo_seek tb_Mo_seek 10 p s m args c Z) (hret : RetI p l e { frames := 4, cells := 0, slots := 0, locals := 95 } s m args below meth c c_Mo_seek .int D Z Q (fun (u : (Nat → Int32) × (Nat → Nat → Int32)) => wM cy ad u.1 u.2) P 0 0)
    (hb122 : ∀ (I : Nat → Int32) (A : Nat → Nat → Int32) (x4 : Int32) (x5 : Int32) (x6 : Int32) (x7 : Int32) (x8 : Int32) (ls : Array Slot) (H : Heap) (locs : List Loc), lv_has ls 10 [(0, .ref (ad 0)), (1, .int a1), (2, .int a2), (3, .int a3), (4, .int x4), (5, .int x5), (6, .int x6), (7, .int x7), (8, .int x8)] → HXw D Z s.heap H locs (wM cy ad I A) → kb122 I A x4 x5 x6 x7 x8 → W p l e { frames := 4, cells := 0, slots := 0, locals := 95 } s m args below meth c H locs 0 0 Q (F0 m 122 ls [])) :
    ∀ (I : Nat → Int32) (A : Nat → Nat → Int32) (x4 : Int32) (x5 : Int32) (x6 : Int32) (x8 : Int32) (s0 : Int32) (s1 : Int32) (ls : Array Slot) (H : Heap) (locs : List Loc), lv_has ls 10 [(0, .ref (ad 0)), (1, .int a1), (2, .int a2), (3, .int a3), (4, .int x4), (5, .int x5), (6, .int x6), (8, .int x8)] → HXw D Z s.heap H locs (wM cy ad I A) → g_Mo_seek_162 a1 a2 a3 P kb122 I A x4 x5 x6 x8 s0 s1 → W p l e { frames := 4, cells := 0, slots := 0, locals := 95 } s m args below meth c H locs 0 0 Q (F0 m 162 ls [.int s1, .int s0]) := by
  intro I A x4 x5 x6 x8 s0 s1 ls H locs hl h hw
  refine i_iadd (n := 163) C 86 rfl rfl ?_
  refine lv_topi (fun y16 ey16 => ?_)
  replace hw := hw y16 ey16
  refine i_istore (lv' := [(7, .int y16), (0, .ref (ad 0)), (1, .int a1), (2, .int a2), (3, .int a3), (4, .int x4), (5, .int x5), (6, .int x6), (8, .int x8)]) (n := 165) C 87 rfl rfl hl (by decide) rfl (fun ls hl => ?_)
  refine i_iinc (v := x8 + (1 : Int32)) (lv' := [(8, .int (x8 + (1 : Int32))), (7, .int y16), (0, .ref (ad 0)), (1, .int a1), (2, .int a2), (3, .int a3), (4, .int x4), (5, .int x5), (6, .int x6)]) (n := 168) C 88 rfl rfl hl 8 rfl rfl (by decide) rfl (fun ls hl => ?_)
  refine i_goto (tgt := 122) C 89 rfl rfl ?_
  exact hb122 I A x4 x5 x6 y16 (x8 + (1 : Int32)) ls _ _ (lv_sub hl [2, 3, 4, 5, 6, 7, 8, 1, 0] rfl) h hw
def g_Mo_seek_122 (a1 : Int32) (a2 : Int32) (a3 : Int32) (P : Int32 → ((Nat → Int32) × (Nat → Nat → Int32)) → Prop) (kx122 : (Nat → Int32) → (Nat → Nat → Int32) → Int32 → Int32 → Int32 → Int32 → Prop) : Nat → (Nat → Int32) → (Nat → Nat → Int32) → Int32 → Int32 → Int32 → Int32 → Int32 → Prop
  | 0, _, _, _, _, _, _, _ => False
  | n122 + 1, I, A, x4, x5, x6, x7, x8 => ((I 0) ≤ x8 → (kx122 I A x4 x5 x6 x7)) ∧ (¬ (I 0) ≤ x8 → (g_Mo_pressOf A x8 (fun r13 => (vp_in x8 12 ∧ (∀ y14 : Int32, y14 = (r13 - (A 12 x8.toNatClampNeg)) → ((0 ≤ y14 → (g_Mo_seek_162 a1 a2 a3 P (g_Mo_seek_122 a1 a2 a3 P kx122 n122) I A x4 x5 x6 x8 x7 y14)) ∧ (¬ 0 ≤ y14 → (g_Mo_seek_162 a1 a2 a3 P (g_Mo_seek_122 a1 a2 a3 P kx122 n122) I A x4 x5 x6 x8 x7 (-y14)))))))))
set_option maxHeartbeats 4000000 in
set_option maxRecDepth 100000 in
theorem e_Mo_seek_122  {a1 : Int32} {a2 : Int32} {a3 : Int32} {P : Int32 → ((Nat → Int32) × (Nat → Nat → Int32)) → Prop} {kx122 : (Nat → Int32) → (Nat → Nat → Int32) → Int32 → Int32 → Int32 → Int32 → Prop} (C : CX D cy R_Mo c_Mo_seek tb_Mo_seek 10 p s m args c Z) (hret : RetI p l e { frames := 4, cells := 0, slots := 0, locals := 95 } s m args below meth c c_Mo_seek .int D Z Q (fun (u : (Nat → Int32) × (Nat → Nat → Int32)) => wM cy ad u.1 u.2) P 0 0)
    (hx122 : ∀ (I : Nat → Int32) (A : Nat → Nat → Int32) (x4 : Int32) (x5 : Int32) (x6 : Int32) (x7 : Int32) (ls : Array Slot) (H : Heap) (locs : List Loc), lv_has ls 10 [(0, .ref (ad 0)), (1, .int a1), (2, .int a2), (3, .int a3), (4, .int x4), (5, .int x5), (6, .int x6), (7, .int x7)] → HXw D Z s.heap H locs (wM cy ad I A) → kx122 I A x4 x5 x6 x7 → W p l e { frames := 4, cells := 0, slots := 0, locals := 95 } s m args below meth c H locs 0 0 Q (F0 m 171 ls [])) :
    ∀ (n : Nat) (I : Nat → Int32) (A : Nat → Nat → Int32) (x4 : Int32) (x5 : Int32) (x6 : Int32) (x7 : Int32) (x8 : Int32) (ls : Array Slot) (H : Heap) (locs : List Loc), lv_has ls 10 [(0, .ref (ad 0)), (1, .int a1), (2, .int a2), (3, .int a3), (4, .int x4), (5, .int x5), (6, .int x6), (7, .int x7), (8, .int x8)] → HXw D Z s.heap H locs (wM cy ad I A) → g_Mo_seek_122 a1 a2 a3 P kx122 n I A x4 x5 x6 x7 x8 → W p l e { frames := 4, cells := 0, slots := 0, locals := 95 } s m args below meth c H locs 0 0 Q (F0 m 122 ls []) := by
  intro n
  induction n with
  | zero => intro I A x4 x5 x6 x7 x8 ls H locs hl h hw; exact hw.elim
  | succ n ih =>
    intro I A x4 x5 x6 x7 x8 ls H locs hl h hw
    refine i_iload (n := 124) C 66 rfl rfl hl 8 rfl ?_
    refine i_aload_n (n := 125) C 67 rfl rfl rfl hl 0 rfl ?_
    refine fgM_Mo_122 (n := 128) C 68 rfl rfl h ?_
    refine i_icmp_ge (tgt := 171) (n := 131) C 69 rfl rfl rfl (fun c12 => ?_) (fun c12 => ?_)
    · replace hw := hw.1 c12
      exact hx122 I A x4 x5 x6 x7 ls _ _ (lv_sub hl [0, 1, 2, 3, 4, 5, 6, 7] rfl) h hw
    · replace hw := hw.2 c12
      refine i_aload_n (n := 132) C 70 rfl rfl rfl hl 0 rfl ?_
      refine i_iload (n := 134) C 71 rfl rfl hl 8 rfl ?_
      refine i_callVp (rest := []) (ci := 11) (qc := (R_Mo, T_Mo, 50)) (n := 137) C 72 rfl rfl hl h rfl (wM_get (h := 0) (by decide)) (kV_Mo_168 ⟨by decide, by decide⟩) (m_Mo_pressOf hw) rfl rfl (Nat.le_of_ble_eq_true rfl) ⟨by decide, by decide⟩ (fun r13 hw => ?_)
      refine i_aload_n (n := 138) C 73 rfl rfl rfl hl 0 rfl ?_
      refine fgM_Mo_47 (n := 141) C 74 rfl rfl h ?_
      refine i_iload (n := 143) C 75 rfl rfl hl 8 rfl ?_
      obtain ⟨hb, hw⟩ := hw
      refine i_iald (n := 144) C 76 rfl rfl h (wM_arr 12 (by decide) rfl) hb ?_
      refine i_isub (n := 145) C 77 rfl rfl ?_
      refine lv_topi (fun y14 ey14 => ?_)
      replace hw := hw y14 ey14
      refine i_istore (lv' := [(9, .int y14), (0, .ref (ad 0)), (1, .int a1), (2, .int a2), (3, .int a3), (4, .int x4), (5, .int x5), (6, .int x6), (7, .int x7), (8, .int x8)]) (n := 147) C 78 rfl rfl hl (by decide) rfl (fun ls hl => ?_)
      refine i_iload (n := 149) C 79 rfl rfl hl 8 rfl ?_
      refine i_iload (n := 151) C 80 rfl rfl hl 0 rfl ?_
      refine i_if_ge (tgt := 160) (n := 154) C 81 rfl rfl rfl (fun c15 => ?_) (fun c15 => ?_)
      · replace hw := hw.1 c15
        refine i_iload (n := 162) C 85 rfl rfl hl 0 rfl ?_
        exact e_Mo_seek_162 C hret ih I A x4 x5 x6 x8 x7 y14 ls _ _ (lv_sub hl [1, 2, 3, 4, 5, 6, 7, 9] rfl) h hw
      · replace hw := hw.2 c15
        refine i_iload (n := 156) C 82 rfl rfl hl 0 rfl ?_
        refine i_ineg (n := 157) C 83 rfl rfl ?_
        refine i_goto (tgt := 162) C 84 rfl rfl ?_
        exact e_Mo_seek_162 C hret ih I A x4 x5 x6 x8 x7 (-y14) ls _ _ (lv_sub hl [1, 2, 3, 4, 5, 6, 7, 9] rfl) h hw
def g_Mo_seek_175 (a1 : Int32) (a2 : Int32) (a3 : Int32) (P : Int32 → ((Nat → Int32) × (Nat → Nat → Int32)) → Prop) (kx175 : (Nat → Int32) → (Nat → Nat → Int32) → Int32 → Int32 → Int32 → Int32 → Int32 → Prop) : Nat → (Nat → Int32) → (Nat → Nat → Int32) → Int32 → Int32 → Int32 → Int32 → Int32 → Prop
  | 0, _, _, _, _, _, _, _ => False
  | n175 + 1, I, A, x4, x5, x6, x7, x8 => (x8 ≤ 0 → (kx175 I A x4 x5 x6 x7 x8)) ∧ (¬ x8 ≤ 0 → (vp_in (x8 - (1 : Int32)) 12 ∧ (((A 34 (x8 - (1 : Int32)).toNatClampNeg) ≤ x7 → (kx175 I A x4 x5 x6 x7 x8)) ∧ (¬ (A 34 (x8 - (1 : Int32)).toNatClampNeg) ≤ x7 → (vp_in (x8 - (1 : Int32)) 12 ∧ (vp_in x8 12 ∧ (vp_in (x8 - (1 : Int32)) 12 ∧ (vp_in x8 12 ∧ (g_Mo_seek_175 a1 a2 a3 P kx175 n175 I (sA (sA A 34 x8 (A 34 (x8 - (1 : Int32)).toNatClampNeg)) 33 x8 ((sA A 34 x8 (A 34 (x8 - (1 : Int32)).toNatClampNeg)) 33 (x8 - (1 : Int32)).toNatClampNeg)) x4 x5 x6 x7 (x8 + (-1 : Int32)))))))))))
set_option maxHeartbeats 4000000 in
set_option maxRecDepth 100000 in
theorem e_Mo_seek_175  {a1 : Int32} {a2 : Int32} {a3 : Int32} {P : Int32 → ((Nat → Int32) × (Nat → Nat → Int32)) → Prop} {kx175 : (Nat → Int32) → (Nat → Nat → Int32) → Int32 → Int32 → Int32 → Int32 → Int32 → Prop} (C : CX D cy R_Mo c_Mo_seek tb_Mo_seek 10 p s m args c Z) (hret : RetI p l e { frames := 4, cells := 0, slots := 0, locals := 95 } s m args below meth c c_Mo_seek .int D Z Q (fun (u : (Nat → Int32) × (Nat → Nat → Int32)) => wM cy ad u.1 u.2) P 0 0)
    (hx175 : ∀ (I : Nat → Int32) (A : Nat → Nat → Int32) (x4 : Int32) (x5 : Int32) (x6 : Int32) (x7 : Int32) (x8 : Int32) (ls : Array Slot) (H : Heap) (locs : List Loc), lv_has ls 10 [(0, .ref (ad 0)), (1, .int a1), (2, .int a2), (3, .int a3), (4, .int x4), (5, .int x5), (6, .int x6), (7, .int x7), (8, .int x8)] → HXw D Z s.heap H locs (wM cy ad I A) → kx175 I A x4 x5 x6 x7 x8 → W p l e { frames := 4, cells := 0, slots := 0, locals := 95 } s m args below meth c H locs 0 0 Q (F0 m 232 ls [])) :
    ∀ (n : Nat) (I : Nat → Int32) (A : Nat → Nat → Int32) (x4 : Int32) (x5 : Int32) (x6 : Int32) (x7 : Int32) (x8 : Int32) (ls : Array Slot) (H : Heap) (locs : List Loc), lv_has ls 10 [(0, .ref (ad 0)), (1, .int a1), (2, .int a2), (3, .int a3), (4, .int x4), (5, .int x5), (6, .int x6), (7, .int x7), (8, .int x8)] → HXw D Z s.heap H locs (wM cy ad I A) → g_Mo_seek_175 a1 a2 a3 P kx175 n I A x4 x5 x6 x7 x8 → W p l e { frames := 4, cells := 0, slots := 0, locals := 95 } s m args below meth c H locs 0 0 Q (F0 m 175 ls []) := by
  intro n
  induction n with
  | zero => intro I A x4 x5 x6 x7 x8 ls H locs hl h hw; exact hw.elim
  | succ n ih =>
    intro I A x4 x5 x6 x7 x8 ls H locs hl h hw
    refine i_iload (n := 177) C 92 rfl rfl hl 8 rfl ?_
    refine i_if_le (tgt := 232) (n := 180) C 93 rfl rfl rfl (fun c18 => ?_) (fun c18 => ?_)
    · replace hw := hw.1 c18
      exact hx175 I A x4 x5 x6 x7 x8 ls _ _ hl h hw
    · replace hw := hw.2 c18
      refine i_aload_n (n := 181) C 94 rfl rfl rfl hl 0 rfl ?_
      refine fgM_Mo_113 (n := 184) C 95 rfl rfl h ?_
      refine i_iload (n := 186) C 96 rfl rfl hl 8 rfl ?_
      refine i_iconst (v := (1 : Int32)) (n := 187) C 97 rfl rfl rfl ?_
      refine i_isub (n := 188) C 98 rfl rfl ?_
      obtain ⟨hb, hw⟩ := hw
      refine i_iald (n := 189) C 99 rfl rfl h (wM_arr 34 (by decide) rfl) hb ?_
      refine i_iload (n := 191) C 100 rfl rfl hl 7 rfl ?_
      refine i_icmp_le (tgt := 232) (n := 194) C 101 rfl rfl rfl (fun c19 => ?_) (fun c19 => ?_)
      · replace hw := hw.1 c19
        exact hx175 I A x4 x5 x6 x7 x8 ls _ _ hl h hw
      · replace hw := hw.2 c19
        refine i_aload_n (n := 195) C 102 rfl rfl rfl hl 0 rfl ?_
        refine fgM_Mo_113 (n := 198) C 103 rfl rfl h ?_
        refine i_iload (n := 200) C 104 rfl rfl hl 8 rfl ?_
        refine i_aload_n (n := 201) C 105 rfl rfl rfl hl 0 rfl ?_
        refine fgM_Mo_113 (n := 204) C 106 rfl rfl h ?_
        refine i_iload (n := 206) C 107 rfl rfl hl 8 rfl ?_
        refine i_iconst (v := (1 : Int32)) (n := 207) C 108 rfl rfl rfl ?_
        refine i_isub (n := 208) C 109 rfl rfl ?_
        obtain ⟨hb, hw⟩ := hw
        refine i_iald (n := 209) C 110 rfl rfl h (wM_arr 34 (by decide) rfl) hb ?_
        obtain ⟨hb, hw⟩ := hw
        refine i_iast (n := 210) C 111 rfl rfl h (wM_arr 34 (by decide) rfl) hb (wM_sA 34 (by decide) rfl _ _) (fun H locs h => ?_)
        refine i_aload_n (n := 211) C 112 rfl rfl rfl hl 0 rfl ?_
        refine fgM_Mo_110 (n := 214) C 113 rfl rfl h ?_
        refine i_iload (n := 216) C 114 rfl rfl hl 8 rfl ?_
        refine i_aload_n (n := 217) C 115 rfl rfl rfl hl 0 rfl ?_
        refine fgM_Mo_110 (n := 220) C 116 rfl rfl h ?_
        refine i_iload (n := 222) C 117 rfl rfl hl 8 rfl ?_
        refine i_iconst (v := (1 : Int32)) (n := 223) C 118 rfl rfl rfl ?_
        refine i_isub (n := 224) C 119 rfl rfl ?_
        obtain ⟨hb, hw⟩ := hw
        refine i_iald (n := 225) C 120 rfl rfl h (wM_arr 33 (by decide) rfl) hb ?_
        obtain ⟨hb, hw⟩ := hw
        refine i_iast (n := 226) C 121 rfl rfl h (wM_arr 33 (by decide) rfl) hb (wM_sA 33 (by decide) rfl _ _) (fun H locs h => ?_)
        refine i_iinc (v := x8 + (-1 : Int32)) (lv' := [(8, .int (x8 + (-1 : Int32))), (0, .ref (ad 0)), (1, .int a1), (2, .int a2), (3, .int a3), (4, .int x4), (5, .int x5), (6, .int x6), (7, .int x7)]) (n := 229) C 122 rfl rfl hl 8 rfl rfl (by decide) rfl (fun ls hl => ?_)
        refine i_goto (tgt := 175) C 123 rfl rfl ?_
        exact ih I (sA (sA A 34 x8 (A 34 (x8 - (1 : Int32)).toNatClampNeg)) 33 x8 ((sA A 34 x8 (A 34 (x8 - (1 : Int32)).toNatClampNeg)) 33 (x8 - (1 : Int32)).toNatClampNeg)) x4 x5 x6 x7 (x8 + (-1 : Int32)) ls _ _ (lv_sub hl [1, 2, 3, 4, 5, 6, 7, 8, 0] rfl) h hw
def g_Mo_seek_232 (a1 : Int32) (a2 : Int32) (a3 : Int32) (P : Int32 → ((Nat → Int32) × (Nat → Nat → Int32)) → Prop) (kb67 : (Nat → Int32) → (Nat → Nat → Int32) → Int32 → Int32 → Int32 → Prop) (I : Nat → Int32) (A : Nat → Nat → Int32) (x4 : Int32) (x5 : Int32) (x6 : Int32) (x7 : Int32) (x8 : Int32) : Prop := vp_in x8 12 ∧ (vp_in x8 12 ∧ (g_Mo_seek_253 a1 a2 a3 P kb67 I (sA (sA A 34 x8 x7) 33 x8 x6) x4 (x5 + (1 : Int32)) x6))
set_option maxHeartbeats 4000000 in
set_option maxRecDepth 100000 in
theorem e_Mo_seek_232  {a1 : Int32} {a2 : Int32} {a3 : Int32} {P : Int32 → ((Nat → Int32) × (Nat → Nat → Int32)) → Prop} {kb67 : (Nat → Int32) → (Nat → Nat → Int32) → Int32 → Int32 → Int32 → Prop} (C : CX D cy R_Mo c_Mo_seek tb_Mo_seek 10 p s m args c Z) (hret : RetI p l e { frames := 4, cells := 0, slots := 0, locals := 95 } s m args below meth c c_Mo_seek .int D Z Q (fun (u : (Nat → Int32) × (Nat → Nat → Int32)) => wM cy ad u.1 u.2) P 0 0)
    (hb67 : ∀ (I : Nat → Int32) (A : Nat → Nat → Int32) (x4 : Int32) (x5 : Int32) (x6 : Int32) (ls : Array Slot) (H : Heap) (locs : List Loc), lv_has ls 10 [(0, .ref (ad 0)), (1, .int a1), (2, .int a2), (3, .int a3), (4, .int x4), (5, .int x5), (6, .int x6)] → HXw D Z s.heap H locs (wM cy ad I A) → kb67 I A x4 x5 x6 → W p l e { frames := 4, cells := 0, slots := 0, locals := 95 } s m args below meth c H locs 0 0 Q (F0 m 67 ls [])) :
    ∀ (I : Nat → Int32) (A : Nat → Nat → Int32) (x4 : Int32) (x5 : Int32) (x6 : Int32) (x7 : Int32) (x8 : Int32) (ls : Array Slot) (H : Heap) (locs : List Loc), lv_has ls 10 [(0, .ref (ad 0)), (1, .int a1), (2, .int a2), (3, .int a3), (4, .int x4), (5, .int x5), (6, .int x6), (7, .int x7), (8, .int x8)] → HXw D Z s.heap H locs (wM cy ad I A) → g_Mo_seek_232 a1 a2 a3 P kb67 I A x4 x5 x6 x7 x8 → W p l e { frames := 4, cells := 0, slots := 0, locals := 95 } s m args below meth c H locs 0 0 Q (F0 m 232 ls []) := by
  intro I A x4 x5 x6 x7 x8 ls H locs hl h hw
  refine i_aload_n (n := 233) C 124 rfl rfl rfl hl 0 rfl ?_
  refine fgM_Mo_113 (n := 236) C 125 rfl rfl h ?_
  refine i_iload (n := 238) C 126 rfl rfl hl 8 rfl ?_
  refine i_iload (n := 240) C 127 rfl rfl hl 7 rfl ?_
  obtain ⟨hb, hw⟩ := hw
  refine i_iast (n := 241) C 128 rfl rfl h (wM_arr 34 (by decide) rfl) hb (wM_sA 34 (by decide) rfl _ _) (fun H locs h => ?_)
  refine i_aload_n (n := 242) C 129 rfl rfl rfl hl 0 rfl ?_
  refine fgM_Mo_110 (n := 245) C 130 rfl rfl h ?_
  refine i_iload (n := 247) C 131 rfl rfl hl 8 rfl ?_
  refine i_iload (n := 249) C 132 rfl rfl hl 6 rfl ?_
  obtain ⟨hb, hw⟩ := hw
  refine i_iast (n := 250) C 133 rfl rfl h (wM_arr 33 (by decide) rfl) hb (wM_sA 33 (by decide) rfl _ _) (fun H locs h => ?_)
  refine i_iinc (v := x5 + (1 : Int32)) (lv' := [(5, .int (x5 + (1 : Int32))), (0, .ref (ad 0)), (1, .int a1), (2, .int a2), (3, .int a3), (4, .int x4), (6, .int x6), (7, .int x7), (8, .int x8)]) (n := 253) C 134 rfl rfl hl 5 rfl rfl (by decide) rfl (fun ls hl => ?_)
  exact e_Mo_seek_253 C hret hb67 I (sA (sA A 34 x8 x7) 33 x8 x6) x4 (x5 + (1 : Int32)) x6 ls _ _ (lv_sub hl [1, 2, 3, 4, 5, 0, 6] rfl) h hw
def g_Mo_seek_67 (a1 : Int32) (a2 : Int32) (a3 : Int32) (P : Int32 → ((Nat → Int32) × (Nat → Nat → Int32)) → Prop) (kx67 : (Nat → Int32) → (Nat → Nat → Int32) → Int32 → Int32 → Prop) : Nat → (Nat → Int32) → (Nat → Nat → Int32) → Int32 → Int32 → Int32 → Prop
  | 0, _, _, _, _, _ => False
  | n67 + 1, I, A, x4, x5, x6 => ((I 0) ≤ x6 → (kx67 I A x4 x5)) ∧ (¬ (I 0) ≤ x6 → (vp_in x6 12 ∧ ((¬ (A 2 x6.toNatClampNeg) = 0 → (g_Mo_seek_253 a1 a2 a3 P (g_Mo_seek_67 a1 a2 a3 P kx67 n67) I A x4 x5 x6)) ∧ ((A 2 x6.toNatClampNeg) = 0 → (vp_in x6 12 ∧ (vp_in x6 12 ∧ (g_Mo_workNet I (sA (sA A 2 x6 (7 : Int32)) 3 x6 a1) (fun r10 u11 => (vp_in x6 12 ∧ (∃ N : Nat, g_Mo_seek_122 a1 a2 a3 P (fun (I_17 : Nat → Int32) (A_17 : Nat → Nat → Int32) (x4_17 : Int32) (x5_17 : Int32) (x6_17 : Int32) (x7_17 : Int32) => ∃ N : Nat, g_Mo_seek_175 a1 a2 a3 P (fun (I_20 : Nat → Int32) (A_20 : Nat → Nat → Int32) (x4_20 : Int32) (x5_20 : Int32) (x6_20 : Int32) (x7_20 : Int32) (x8_20 : Int32) => g_Mo_seek_232 a1 a2 a3 P (g_Mo_seek_67 a1 a2 a3 P kx67 n67) I_20 A_20 x4_20 x5_20 x6_20 x7_20 x8_20) N I_17 A_17 x4_17 x5_17 x6_17 x7_17 x5_17) N u11.1 (sA u11.2 2 x6 (0 : Int32)) x4 x5 x6 (0 : Int32) (0 : Int32)))))))))))
set_option maxHeartbeats 4000000 in
set_option maxRecDepth 100000 in
theorem e_Mo_seek_67  {a1 : Int32} {a2 : Int32} {a3 : Int32} {P : Int32 → ((Nat → Int32) × (Nat → Nat → Int32)) → Prop} {kx67 : (Nat → Int32) → (Nat → Nat → Int32) → Int32 → Int32 → Prop} (C : CX D cy R_Mo c_Mo_seek tb_Mo_seek 10 p s m args c Z) (hret : RetI p l e { frames := 4, cells := 0, slots := 0, locals := 95 } s m args below meth c c_Mo_seek .int D Z Q (fun (u : (Nat → Int32) × (Nat → Nat → Int32)) => wM cy ad u.1 u.2) P 0 0)
    (hx67 : ∀ (I : Nat → Int32) (A : Nat → Nat → Int32) (x4 : Int32) (x5 : Int32) (ls : Array Slot) (H : Heap) (locs : List Loc), lv_has ls 10 [(0, .ref (ad 0)), (2, .int a2), (3, .int a3), (4, .int x4), (5, .int x5)] → HXw D Z s.heap H locs (wM cy ad I A) → kx67 I A x4 x5 → W p l e { frames := 4, cells := 0, slots := 0, locals := 95 } s m args below meth c H locs 0 0 Q (F0 m 259 ls [])) :
    ∀ (n : Nat) (I : Nat → Int32) (A : Nat → Nat → Int32) (x4 : Int32) (x5 : Int32) (x6 : Int32) (ls : Array Slot) (H : Heap) (locs : List Loc), lv_has ls 10 [(0, .ref (ad 0)), (1, .int a1), (2, .int a2), (3, .int a3), (4, .int x4), (5, .int x5), (6, .int x6)] → HXw D Z s.heap H locs (wM cy ad I A) → g_Mo_seek_67 a1 a2 a3 P kx67 n I A x4 x5 x6 → W p l e { frames := 4, cells := 0, slots := 0, locals := 95 } s m args below meth c H locs 0 0 Q (F0 m 67 ls []) := by
  intro n
  induction n with
  | zero => intro I A x4 x5 x6 ls H locs hl h hw; exact hw.elim
  | succ n ih =>
    intro I A x4 x5 x6 ls H locs hl h hw
    refine i_iload (n := 69) C 35 rfl rfl hl 6 rfl ?_
    refine i_aload_n (n := 70) C 36 rfl rfl rfl hl 0 rfl ?_
    refine fgM_Mo_122 (n := 73) C 37 rfl rfl h ?_
    refine i_icmp_ge (tgt := 259) (n := 76) C 38 rfl rfl rfl (fun c8 => ?_) (fun c8 => ?_)
    · replace hw := hw.1 c8
      exact hx67 I A x4 x5 ls _ _ (lv_sub hl [0, 2, 3, 4, 5] rfl) h hw
    · replace hw := hw.2 c8
      refine i_aload_n (n := 77) C 39 rfl rfl rfl hl 0 rfl ?_
      refine fgM_Mo_16 (n := 80) C 40 rfl rfl h ?_
      refine i_iload (n := 82) C 41 rfl rfl hl 6 rfl ?_
      obtain ⟨hb, hw⟩ := hw
      refine i_iald (n := 83) C 42 rfl rfl h (wM_arr 2 (by decide) rfl) hb ?_
      refine i_if_ne (tgt := 253) (n := 86) C 43 rfl rfl rfl (fun c9 => ?_) (fun c9 => ?_)
      · replace hw := hw.1 c9
        exact e_Mo_seek_253 C hret ih I A x4 x5 x6 ls _ _ hl h hw
      · replace hw := hw.2 c9
        refine i_aload_n (n := 87) C 44 rfl rfl rfl hl 0 rfl ?_
        refine fgM_Mo_16 (n := 90) C 45 rfl rfl h ?_
        refine i_iload (n := 92) C 46 rfl rfl hl 6 rfl ?_
        refine i_bipush (v := (7 : Int32)) (n := 94) C 47 rfl rfl rfl ?_
        obtain ⟨hb, hw⟩ := hw
        refine i_iast (n := 95) C 48 rfl rfl h (wM_arr 2 (by decide) rfl) hb (wM_sA 2 (by decide) rfl _ _) (fun H locs h => ?_)
        refine i_aload_n (n := 96) C 49 rfl rfl rfl hl 0 rfl ?_
        refine fgM_Mo_19 (n := 99) C 50 rfl rfl h ?_
        refine i_iload (n := 101) C 51 rfl rfl hl 6 rfl ?_
        refine i_iload_n (n := 102) C 52 rfl rfl rfl hl 1 rfl ?_
        obtain ⟨hb, hw⟩ := hw
        refine i_iast (n := 103) C 53 rfl rfl h (wM_arr 3 (by decide) rfl) hb (wM_sA 3 (by decide) rfl _ _) (fun H locs h => ?_)
        refine i_aload_n (n := 104) C 54 rfl rfl rfl hl 0 rfl ?_
        refine i_callVi (rest := []) (ci := 11) (qc := (R_Mo, T_Mo, 50)) (n := 107) C 55 rfl rfl hl h rfl (wM_get (h := 0) (by decide)) (kV_Mo_190 ⟨by decide, by decide⟩) (m_Mo_workNet hw) rfl rfl (Nat.le_of_ble_eq_true rfl) ⟨by decide, by decide⟩ (fun r10 u11 H locs hw h => ?_)
        refine i_pop (n := 108) C 56 rfl rfl rfl ?_
        refine i_aload_n (n := 109) C 57 rfl rfl rfl hl 0 rfl ?_
        refine fgM_Mo_16 (n := 112) C 58 rfl rfl h ?_
        refine i_iload (n := 114) C 59 rfl rfl hl 6 rfl ?_
        refine i_iconst (v := (0 : Int32)) (n := 115) C 60 rfl rfl rfl ?_
        obtain ⟨hb, hw⟩ := hw
        refine i_iast (n := 116) C 61 rfl rfl h (wM_arr 2 (by decide) rfl) hb (wM_sA 2 (by decide) rfl _ _) (fun H locs h => ?_)
        refine i_iconst (v := (0 : Int32)) (n := 117) C 62 rfl rfl rfl ?_
        refine i_istore (lv' := [(7, .int (0 : Int32)), (0, .ref (ad 0)), (1, .int a1), (2, .int a2), (3, .int a3), (4, .int x4), (5, .int x5), (6, .int x6)]) (n := 119) C 63 rfl rfl hl (by decide) rfl (fun ls hl => ?_)
        refine i_iconst (v := (0 : Int32)) (n := 120) C 64 rfl rfl rfl ?_
        refine i_istore (lv' := [(8, .int (0 : Int32)), (7, .int (0 : Int32)), (0, .ref (ad 0)), (1, .int a1), (2, .int a2), (3, .int a3), (4, .int x4), (5, .int x5), (6, .int x6)]) (n := 122) C 65 rfl rfl hl (by decide) rfl (fun ls hl => ?_)
        obtain ⟨n17, hw⟩ := hw
        refine e_Mo_seek_122 C hret (fun I_17 A_17 x4_17 x5_17 x6_17 x7_17 ls H locs hl h hw => ?_) n17 u11.1 (sA u11.2 2 x6 (0 : Int32)) x4 x5 x6 (0 : Int32) (0 : Int32) ls _ _ (lv_sub hl [2, 3, 4, 5, 6, 7, 8, 1, 0] rfl) h hw
        have hl : lv_has ls 10 [(0, .ref (ad 0)), (1, .int a1), (2, .int a2), (3, .int a3), (4, .int x4_17), (5, .int x5_17), (6, .int x6_17), (7, .int x7_17)] := hl
        refine i_iload (n := 173) C 90 rfl rfl hl 5 rfl ?_
        refine i_istore (lv' := [(8, .int x5_17), (0, .ref (ad 0)), (1, .int a1), (2, .int a2), (3, .int a3), (4, .int x4_17), (5, .int x5_17), (6, .int x6_17), (7, .int x7_17)]) (n := 175) C 91 rfl rfl hl (by decide) rfl (fun ls hl => ?_)
        obtain ⟨n20, hw⟩ := hw
        refine e_Mo_seek_175 C hret (fun I_20 A_20 x4_20 x5_20 x6_20 x7_20 x8_20 ls H locs hl h hw => ?_) n20 I_17 A_17 x4_17 x5_17 x6_17 x7_17 x5_17 ls _ _ (lv_sub hl [1, 2, 3, 4, 5, 6, 7, 8, 0] rfl) h hw
        have hl : lv_has ls 10 [(0, .ref (ad 0)), (1, .int a1), (2, .int a2), (3, .int a3), (4, .int x4_20), (5, .int x5_20), (6, .int x6_20), (7, .int x7_20), (8, .int x8_20)] := hl
        exact e_Mo_seek_232 C hret ih I_20 A_20 x4_20 x5_20 x6_20 x7_20 x8_20 ls _ _ hl h hw
def g_Mo_seek_268 (a1 : Int32) (a2 : Int32) (a3 : Int32) (P : Int32 → ((Nat → Int32) × (Nat → Nat → Int32)) → Prop) (kx268 : (Nat → Int32) → (Nat → Nat → Int32) → Int32 → Prop) : Nat → (Nat → Int32) → (Nat → Nat → Int32) → Int32 → Int32 → Prop
  | 0, _, _, _, _ => False
  | n268 + 1, I, A, x5, x6 => ((I 0) ≤ x6 → (kx268 I A x5)) ∧ (¬ (I 0) ≤ x6 → (vp_in x6 12 ∧ (vp_in x6 12 ∧ (g_Mo_seek_268 a1 a2 a3 P kx268 n268 I (sA A 13 x6 (A 35 x6.toNatClampNeg)) x5 (x6 + (1 : Int32))))))
set_option maxHeartbeats 4000000 in
set_option maxRecDepth 100000 in
theorem e_Mo_seek_268  {a1 : Int32} {a2 : Int32} {a3 : Int32} {P : Int32 → ((Nat → Int32) × (Nat → Nat → Int32)) → Prop} {kx268 : (Nat → Int32) → (Nat → Nat → Int32) → Int32 → Prop} (C : CX D cy R_Mo c_Mo_seek tb_Mo_seek 10 p s m args c Z) (hret : RetI p l e { frames := 4, cells := 0, slots := 0, locals := 95 } s m args below meth c c_Mo_seek .int D Z Q (fun (u : (Nat → Int32) × (Nat → Nat → Int32)) => wM cy ad u.1 u.2) P 0 0)
    (hx268 : ∀ (I : Nat → Int32) (A : Nat → Nat → Int32) (x5 : Int32) (ls : Array Slot) (H : Heap) (locs : List Loc), lv_has ls 10 [(0, .ref (ad 0)), (2, .int a2), (3, .int a3), (5, .int x5)] → HXw D Z s.heap H locs (wM cy ad I A) → kx268 I A x5 → W p l e { frames := 4, cells := 0, slots := 0, locals := 95 } s m args below meth c H locs 0 0 Q (F0 m 297 ls [])) :
    ∀ (n : Nat) (I : Nat → Int32) (A : Nat → Nat → Int32) (x5 : Int32) (x6 : Int32) (ls : Array Slot) (H : Heap) (locs : List Loc), lv_has ls 10 [(0, .ref (ad 0)), (2, .int a2), (3, .int a3), (5, .int x5), (6, .int x6)] → HXw D Z s.heap H locs (wM cy ad I A) → g_Mo_seek_268 a1 a2 a3 P kx268 n I A x5 x6 → W p l e { frames := 4, cells := 0, slots := 0, locals := 95 } s m args below meth c H locs 0 0 Q (F0 m 268 ls []) := by
  intro n
  induction n with
  | zero => intro I A x5 x6 ls H locs hl h hw; exact hw.elim
  | succ n ih =>
    intro I A x5 x6 ls H locs hl h hw
    refine i_iload (n := 270) C 142 rfl rfl hl 4 rfl ?_
    refine i_aload_n (n := 271) C 143 rfl rfl rfl hl 0 rfl ?_
    refine fgM_Mo_122 (n := 274) C 144 rfl rfl h ?_
    refine i_icmp_ge (tgt := 297) (n := 277) C 145 rfl rfl rfl (fun c22 => ?_) (fun c22 => ?_)
    · replace hw := hw.1 c22
      exact hx268 I A x5 ls _ _ (lv_sub hl [0, 1, 2, 3] rfl) h hw
    · replace hw := hw.2 c22
      refine i_aload_n (n := 278) C 146 rfl rfl rfl hl 0 rfl ?_
      refine fgM_Mo_50 (n := 281) C 147 rfl rfl h ?_
      refine i_iload (n := 283) C 148 rfl rfl hl 4 rfl ?_
      refine i_aload_n (n := 284) C 149 rfl rfl rfl hl 0 rfl ?_
      refine fgM_Mo_116 (n := 287) C 150 rfl rfl h ?_
      refine i_iload (n := 289) C 151 rfl rfl hl 4 rfl ?_
      obtain ⟨hb, hw⟩ := hw
      refine i_iald (n := 290) C 152 rfl rfl h (wM_arr 35 (by decide) rfl) hb ?_
      obtain ⟨hb, hw⟩ := hw
      refine i_iast (n := 291) C 153 rfl rfl h (wM_arr 13 (by decide) rfl) hb (wM_sA 13 (by decide) rfl _ _) (fun H locs h => ?_)
      refine i_iinc (v := x6 + (1 : Int32)) (lv' := [(6, .int (x6 + (1 : Int32))), (0, .ref (ad 0)), (2, .int a2), (3, .int a3), (5, .int x5)]) (n := 294) C 154 rfl rfl hl 4 rfl rfl (by decide) rfl (fun ls hl => ?_)
      refine i_goto (tgt := 268) C 155 rfl rfl ?_
      exact ih I (sA A 13 x6 (A 35 x6.toNatClampNeg)) x5 (x6 + (1 : Int32)) ls _ _ (lv_sub hl [1, 2, 3, 4, 0] rfl) h hw
def g_Mo_seek (I : Nat → Int32) (A : Nat → Nat → Int32) (a1 : Int32) (a2 : Int32) (a3 : Int32) (P : Int32 → ((Nat → Int32) × (Nat → Nat → Int32)) → Prop) : Prop := g_Mo_in a1 (1 : Int32) (1000 : Int32) (fun r1 => ((r1 = 0 → (P (-2 : Int32) (I, A))) ∧ (¬ r1 = 0 → (g_Mo_in a3 (0 : Int32) (1 : Int32) (fun r3 => ((¬ r3 = 0 → (∀ y5 : Int32, y5 = (I 5) → (∃ N : Nat, g_Mo_seek_32 a1 a2 a3 P (fun (I_7 : Nat → Int32) (A_7 : Nat → Nat → Int32) (x4_7 : Int32) => ∃ N : Nat, g_Mo_seek_67 a1 a2 a3 P (fun (I_21 : Nat → Int32) (A_21 : Nat → Nat → Int32) (x4_21 : Int32) (x5_21 : Int32) => ∃ N : Nat, g_Mo_seek_268 a1 a2 a3 P (fun (I_23 : Nat → Int32) (A_23 : Nat → Nat → Int32) (x5_23 : Int32) => g_Mo_in a2 (0 : Int32) (x5_23 - (1 : Int32)) (fun r24 => ((¬ r24 = 0 → ((¬ a3 = 0 → (vp_in a2 12 ∧ (P (A_23 34 a2.toNatClampNeg) (I_23, A_23)))) ∧ (a3 = 0 → (vp_in a2 12 ∧ (P (A_23 33 a2.toNatClampNeg) (I_23, A_23)))))) ∧ (r24 = 0 → (P (-6 : Int32) (I_23, A_23)))))) N (va_up I_21 5 x4_21) A_21 x5_21 (0 : Int32)) N I_7 A_7 x4_7 (0 : Int32) (0 : Int32)) N I A y5 (0 : Int32)))) ∧ (r3 = 0 → (P (-2 : Int32) (I, A)))))))))
set_option maxHeartbeats 4000000 in
set_option maxRecDepth 100000 in
theorem m_Mo_seek {l : Launch} {D : va_G} {cy : Nat → ClassId} {ad : Nat → Nat} {I : Nat → Int32} {A : Nat → Nat → Int32} {a1 : Int32} {a2 : Int32} {a3 : Int32} {P : Int32 → ((Nat → Int32) × (Nat → Nat → Int32)) → Prop} (hw : g_Mo_seek I A a1 a2 a3 P) : ∀ sz, Met l y_Mo_seek (WL y_Mo_seek c_Mo_seek 10 (some .int)) { frames := 4, cells := 0, slots := 0, locals := 95 } (va_Pc [.ref (ad 0), .int a1, .int a2, .int a3] (PreW D cy (wM cy ad I A) sz)) (va_Qi P (fun u t => PostW D (va_A (wM cy ad I A) sz) ((fun (u : (Nat → Int32) × (Nat → Nat → Int32)) => wM cy ad u.1 u.2) u) t) (va_A (wM cy ad I A) sz)) 0 0 (va_A (wM cy ad I A) sz) := by
  refine met_i (wf := fun (u : (Nat → Int32) × (Nat → Nat → Int32)) => wM cy ad u.1 u.2) R_Mo .int db_Mo_seek (by decide) rfl rfl (Nat.le_of_ble_eq_true rfl) ?_
  intro p e s m below meth c Z Q ls C h hl hret
  have hl : lv_has ls 10 [(0, .ref (ad 0)), (1, .int a1), (2, .int a2), (3, .int a3)] := hl
  refine i_iload_n (n := 1) C 0 rfl rfl rfl hl 1 rfl ?_
  refine i_iconst (v := (1 : Int32)) (n := 2) C 1 rfl rfl rfl ?_
  refine i_sipush (v := (1000 : Int32)) (n := 5) C 2 rfl rfl rfl ?_
  refine i_callSp (rest := []) (n := 8) C 3 rfl rfl hl h (kS_Mo_126 ⟨by decide, by decide⟩) (m_Mo_in hw) rfl rfl (Nat.le_of_ble_eq_true rfl) ⟨by decide, by decide⟩ (fun r1 hw => ?_)
  refine i_if_eq (tgt := 20) (n := 11) C 4 rfl rfl rfl (fun c2 => ?_) (fun c2 => ?_)
  · replace hw := hw.1 c2
    refine i_bipush (v := (-2 : Int32)) (n := 22) C 10 rfl rfl rfl ?_
    exact hret _ (I, A) _ _ _ _ rfl hw h (C.dg (k := 11) rfl)
  · replace hw := hw.2 c2
    refine i_iload_n (n := 12) C 5 rfl rfl rfl hl 3 rfl ?_
    refine i_iconst (v := (0 : Int32)) (n := 13) C 6 rfl rfl rfl ?_
    refine i_iconst (v := (1 : Int32)) (n := 14) C 7 rfl rfl rfl ?_
    refine i_callSp (rest := []) (n := 17) C 8 rfl rfl hl h (kS_Mo_126 ⟨by decide, by decide⟩) (m_Mo_in hw) rfl rfl (Nat.le_of_ble_eq_true rfl) ⟨by decide, by decide⟩ (fun r3 hw => ?_)
    refine i_if_ne (tgt := 23) (n := 20) C 9 rfl rfl rfl (fun c4 => ?_) (fun c4 => ?_)
    · replace hw := hw.1 c4
      refine i_aload_n (n := 24) C 12 rfl rfl rfl hl 0 rfl ?_
      refine fgM_Mo_181 (n := 27) C 13 rfl rfl h ?_
      refine lv_topi (fun y5 ey5 => ?_)
      replace hw := hw y5 ey5
      refine i_istore (lv' := [(4, .int y5), (0, .ref (ad 0)), (1, .int a1), (2, .int a2), (3, .int a3)]) (n := 29) C 14 rfl rfl hl (by decide) rfl (fun ls hl => ?_)
      refine i_iconst (v := (0 : Int32)) (n := 30) C 15 rfl rfl rfl ?_
      refine i_istore (lv' := [(5, .int (0 : Int32)), (4, .int y5), (0, .ref (ad 0)), (1, .int a1), (2, .int a2), (3, .int a3)]) (n := 32) C 16 rfl rfl hl (by decide) rfl (fun ls hl => ?_)
      obtain ⟨n7, hw⟩ := hw
      refine e_Mo_seek_32 C hret (fun I_7 A_7 x4_7 ls H locs hl h hw => ?_) n7 I A y5 (0 : Int32) ls _ _ (lv_sub hl [2, 3, 4, 5, 1, 0] rfl) h hw
      have hl : lv_has ls 10 [(0, .ref (ad 0)), (1, .int a1), (2, .int a2), (3, .int a3), (4, .int x4_7)] := hl
      refine i_iconst (v := (0 : Int32)) (n := 62) C 31 rfl rfl rfl ?_
      refine i_istore (lv' := [(5, .int (0 : Int32)), (0, .ref (ad 0)), (1, .int a1), (2, .int a2), (3, .int a3), (4, .int x4_7)]) (n := 64) C 32 rfl rfl hl (by decide) rfl (fun ls hl => ?_)
      refine i_iconst (v := (0 : Int32)) (n := 65) C 33 rfl rfl rfl ?_
      refine i_istore (lv' := [(6, .int (0 : Int32)), (5, .int (0 : Int32)), (0, .ref (ad 0)), (1, .int a1), (2, .int a2), (3, .int a3), (4, .int x4_7)]) (n := 67) C 34 rfl rfl hl (by decide) rfl (fun ls hl => ?_)
      obtain ⟨n21, hw⟩ := hw
      refine e_Mo_seek_67 C hret (fun I_21 A_21 x4_21 x5_21 ls H locs hl h hw => ?_) n21 I_7 A_7 x4_7 (0 : Int32) (0 : Int32) ls _ _ (lv_sub hl [2, 3, 4, 5, 6, 1, 0] rfl) h hw
      have hl : lv_has ls 10 [(0, .ref (ad 0)), (2, .int a2), (3, .int a3), (4, .int x4_21), (5, .int x5_21)] := hl
      refine i_aload_n (n := 260) C 137 rfl rfl rfl hl 0 rfl ?_
      refine i_iload (n := 262) C 138 rfl rfl hl 3 rfl ?_
      refine fpM_Mo_181 (n := 265) C 139 rfl rfl h (fun H locs h => ?_)
      refine i_iconst (v := (0 : Int32)) (n := 266) C 140 rfl rfl rfl ?_
      refine i_istore (lv' := [(6, .int (0 : Int32)), (0, .ref (ad 0)), (2, .int a2), (3, .int a3), (4, .int x4_21), (5, .int x5_21)]) (n := 268) C 141 rfl rfl hl (by decide) rfl (fun ls hl => ?_)
      obtain ⟨n23, hw⟩ := hw
      refine e_Mo_seek_268 C hret (fun I_23 A_23 x5_23 ls H locs hl h hw => ?_) n23 (va_up I_21 5 x4_21) A_21 x5_21 (0 : Int32) ls _ _ (lv_sub hl [1, 2, 3, 5, 0] rfl) h hw
      have hl : lv_has ls 10 [(0, .ref (ad 0)), (2, .int a2), (3, .int a3), (5, .int x5_23)] := hl
      refine i_iload_n (n := 298) C 156 rfl rfl rfl hl 1 rfl ?_
      refine i_iconst (v := (0 : Int32)) (n := 299) C 157 rfl rfl rfl ?_
      refine i_iload (n := 301) C 158 rfl rfl hl 3 rfl ?_
      refine i_iconst (v := (1 : Int32)) (n := 302) C 159 rfl rfl rfl ?_
      refine i_isub (n := 303) C 160 rfl rfl ?_
      refine i_callSp (rest := []) (n := 306) C 161 rfl rfl hl h (kS_Mo_126 ⟨by decide, by decide⟩) (m_Mo_in hw) rfl rfl (Nat.le_of_ble_eq_true rfl) ⟨by decide, by decide⟩ (fun r24 hw => ?_)
      refine i_if_ne (tgt := 314) (n := 309) C 162 rfl rfl rfl (fun c25 => ?_) (fun c25 => ?_)
      · replace hw := hw.1 c25
        refine i_iload_n (n := 315) C 165 rfl rfl rfl hl 2 rfl ?_
        refine i_if_ne (tgt := 327) (n := 318) C 166 rfl rfl rfl (fun c26 => ?_) (fun c26 => ?_)
        · replace hw := hw.1 c26
          refine i_aload_n (n := 328) C 172 rfl rfl rfl hl 0 rfl ?_
          refine fgM_Mo_113 (n := 331) C 173 rfl rfl h ?_
          refine i_iload_n (n := 332) C 174 rfl rfl rfl hl 1 rfl ?_
          obtain ⟨hb, hw⟩ := hw
          refine i_iald (n := 333) C 175 rfl rfl h (wM_arr 34 (by decide) rfl) hb ?_
          exact hret _ (I_23, A_23) _ _ _ _ rfl hw h (C.dg (k := 176) rfl)
        · replace hw := hw.2 c26
          refine i_aload_n (n := 319) C 167 rfl rfl rfl hl 0 rfl ?_
          refine fgM_Mo_110 (n := 322) C 168 rfl rfl h ?_
          refine i_iload_n (n := 323) C 169 rfl rfl rfl hl 1 rfl ?_
          obtain ⟨hb, hw⟩ := hw
          refine i_iald (n := 324) C 170 rfl rfl h (wM_arr 33 (by decide) rfl) hb ?_
          refine i_goto (tgt := 333) C 171 rfl rfl ?_
          exact hret _ (I_23, A_23) _ _ _ _ rfl hw h (C.dg (k := 176) rfl)
      · replace hw := hw.2 c25
        refine i_bipush (v := (-6 : Int32)) (n := 311) C 163 rfl rfl rfl ?_
        refine i_goto (tgt := 333) C 164 rfl rfl ?_
        exact hret _ (I_23, A_23) _ _ _ _ rfl hw h (C.dg (k := 176) rfl)
    · replace hw := hw.2 c4
      refine i_bipush (v := (-2 : Int32)) (n := 22) C 10 rfl rfl rfl ?_
      exact hret _ (I, A) _ _ _ _ rfl hw h (C.dg (k := 11) rfl)
end S234
section S235
variable {p : Program} {l : Launch} {e : Env} {R : Room} {s : State} {m : MethodId} {args : Array Value} {below : List Frame} {meth : Method} {c : Code} {H : Heap} {locs : List Loc} {cells slots : Nat} {Q : State → Prop}
variable {cc : ByteArray} {pc n nL : Nat} {ls : Array Slot} {rest : List Value} {D : va_G} {cy : Nat → ClassId} {Z : Nat → Prop} {ad : Nat → Nat} {tb : List (Nat × Instr × Nat)} {lv : List (Nat × Value)}
def g_Mo_block (I : Nat → Int32) (A : Nat → Nat → Int32) (a1 : Int32) (P : Int32 → ((Nat → Int32) × (Nat → Nat → Int32)) → Prop) : Prop := g_Mo_in a1 (0 : Int32) (100 : Int32) (fun r1 => ((¬ r1 = 0 → ((¬ (I 11) = (8 : Int32) → (vp_in (I 11) 8 ∧ (P ((va_up I 11 ((I 11) + (1 : Int32))) 11) (va_up I 11 ((I 11) + (1 : Int32)), sA A 27 (I 11) a1)))) ∧ ((I 11) = (8 : Int32) → (P (-4 : Int32) (I, A))))) ∧ (r1 = 0 → (P (-2 : Int32) (I, A)))))
set_option maxHeartbeats 4000000 in
set_option maxRecDepth 100000 in
theorem m_Mo_block {l : Launch} {D : va_G} {cy : Nat → ClassId} {ad : Nat → Nat} {I : Nat → Int32} {A : Nat → Nat → Int32} {a1 : Int32} {P : Int32 → ((Nat → Int32) × (Nat → Nat → Int32)) → Prop} (hw : g_Mo_block I A a1 P) : ∀ sz, Met l y_Mo_block (WL y_Mo_block c_Mo_block 2 (some .int)) { frames := 1, cells := 0, slots := 0, locals := 22 } (va_Pc [.ref (ad 0), .int a1] (PreW D cy (wM cy ad I A) sz)) (va_Qi P (fun u t => PostW D (va_A (wM cy ad I A) sz) ((fun (u : (Nat → Int32) × (Nat → Nat → Int32)) => wM cy ad u.1 u.2) u) t) (va_A (wM cy ad I A) sz)) 0 0 (va_A (wM cy ad I A) sz) := by
  refine met_i (wf := fun (u : (Nat → Int32) × (Nat → Nat → Int32)) => wM cy ad u.1 u.2) R_Mo .int db_Mo_block (by decide) rfl rfl (Nat.le_of_ble_eq_true rfl) ?_
  intro p e s m below meth c Z Q ls C h hl hret
  have hl : lv_has ls 2 [(0, .ref (ad 0)), (1, .int a1)] := hl
  refine i_iload_n (n := 1) C 0 rfl rfl rfl hl 1 rfl ?_
  refine i_iconst (v := (0 : Int32)) (n := 2) C 1 rfl rfl rfl ?_
  refine i_bipush (v := (100 : Int32)) (n := 4) C 2 rfl rfl rfl ?_
  refine i_callSp (rest := []) (n := 7) C 3 rfl rfl hl h (kS_Mo_126 ⟨by decide, by decide⟩) (m_Mo_in hw) rfl rfl (Nat.le_of_ble_eq_true rfl) ⟨by decide, by decide⟩ (fun r1 hw => ?_)
  refine i_if_ne (tgt := 13) (n := 10) C 4 rfl rfl rfl (fun c2 => ?_) (fun c2 => ?_)
  · replace hw := hw.1 c2
    refine i_aload_n (n := 14) C 7 rfl rfl rfl hl 0 rfl ?_
    refine fgM_Mo_218 (n := 17) C 8 rfl rfl h ?_
    refine i_bipush (v := (8 : Int32)) (n := 19) C 9 rfl rfl rfl ?_
    refine i_icmp_ne (tgt := 25) (n := 22) C 10 rfl rfl rfl (fun c3 => ?_) (fun c3 => ?_)
    · replace hw := hw.1 c3
      refine i_aload_n (n := 26) C 13 rfl rfl rfl hl 0 rfl ?_
      refine fgM_Mo_92 (n := 29) C 14 rfl rfl h ?_
      refine i_aload_n (n := 30) C 15 rfl rfl rfl hl 0 rfl ?_
      refine fgM_Mo_218 (n := 33) C 16 rfl rfl h ?_
      refine i_iload_n (n := 34) C 17 rfl rfl rfl hl 1 rfl ?_
      obtain ⟨hb, hw⟩ := hw
      refine i_iast (n := 35) C 18 rfl rfl h (wM_arr 27 (by decide) rfl) hb (wM_sA 27 (by decide) rfl _ _) (fun H locs h => ?_)
      refine i_aload_n (n := 36) C 19 rfl rfl rfl hl 0 rfl ?_
      refine i_dup (n := 37) C 20 rfl rfl rfl ?_
      refine fgM_Mo_218 (n := 40) C 21 rfl rfl h ?_
      refine i_iconst (v := (1 : Int32)) (n := 41) C 22 rfl rfl rfl ?_
      refine i_iadd (n := 42) C 23 rfl rfl ?_
      refine fpM_Mo_218 (n := 45) C 24 rfl rfl h (fun H locs h => ?_)
      refine i_aload_n (n := 46) C 25 rfl rfl rfl hl 0 rfl ?_
      refine fgM_Mo_218 (n := 49) C 26 rfl rfl h ?_
      exact hret _ (va_up I 11 ((I 11) + (1 : Int32)), sA A 27 (I 11) a1) _ _ _ _ rfl hw h (C.dg (k := 27) rfl)
    · replace hw := hw.2 c3
      refine i_bipush (v := (-4 : Int32)) (n := 24) C 11 rfl rfl rfl ?_
      exact hret _ (I, A) _ _ _ _ rfl hw h (C.dg (k := 12) rfl)
  · replace hw := hw.2 c2
    refine i_bipush (v := (-2 : Int32)) (n := 12) C 5 rfl rfl rfl ?_
    exact hret _ (I, A) _ _ _ _ rfl hw h (C.dg (k := 6) rfl)
end S235
section S236
variable {p : Program} {l : Launch} {e : Env} {R : Room} {s : State} {m : MethodId} {args : Array Value} {below : List Frame} {meth : Method} {c : Code} {H : Heap} {locs : List Loc} {cells slots : Nat} {Q : State → Prop}
variable {cc : ByteArray} {pc n nL : Nat} {ls : Array Slot} {rest : List Value} {D : va_G} {cy : Nat → ClassId} {Z : Nat → Prop} {ad : Nat → Nat} {tb : List (Nat × Instr × Nat)} {lv : List (Nat × Value)}
def g_Mo_rest (I : Nat → Int32) (P : Int32 → ((Nat → Int32)) → Prop) : Prop := ∀ y1 : Int32, y1 = (I 11) → (P y1 (va_up I 11 (0 : Int32)))
set_option maxHeartbeats 4000000 in
set_option maxRecDepth 100000 in
theorem m_Mo_rest {l : Launch} {D : va_G} {cy : Nat → ClassId} {ad : Nat → Nat} {I : Nat → Int32} {A : Nat → Nat → Int32}  {P : Int32 → ((Nat → Int32)) → Prop} (hw : g_Mo_rest I P) : ∀ sz, Met l y_Mo_rest (WL y_Mo_rest c_Mo_rest 2 (some .int)) { frames := 0, cells := 0, slots := 0, locals := 0 } (va_Pc [.ref (ad 0)] (PreW D cy (wM cy ad I A) sz)) (va_Qi P (fun u t => PostW D (va_A (wM cy ad I A) sz) ((fun (u : (Nat → Int32)) => wM cy ad u A) u) t) (va_A (wM cy ad I A) sz)) 0 0 (va_A (wM cy ad I A) sz) := by
  refine met_i (wf := fun (u : (Nat → Int32)) => wM cy ad u A) R_Mo .int db_Mo_rest (by decide) rfl rfl (Nat.le_of_ble_eq_true rfl) ?_
  intro p e s m below meth c Z Q ls C h hl hret
  have hl : lv_has ls 2 [(0, .ref (ad 0))] := hl
  refine i_aload_n (n := 1) C 0 rfl rfl rfl hl 0 rfl ?_
  refine fgM_Mo_218 (n := 4) C 1 rfl rfl h ?_
  refine lv_topi (fun y1 ey1 => ?_)
  replace hw := hw y1 ey1
  refine i_istore_n (lv' := [(1, .int y1), (0, .ref (ad 0))]) (n := 5) C 2 rfl rfl rfl hl (by decide) rfl (fun ls hl => ?_)
  refine i_aload_n (n := 6) C 3 rfl rfl rfl hl 1 rfl ?_
  refine i_iconst (v := (0 : Int32)) (n := 7) C 4 rfl rfl rfl ?_
  refine fpM_Mo_218 (n := 10) C 5 rfl rfl h (fun H locs h => ?_)
  refine i_iload_n (n := 11) C 6 rfl rfl rfl hl 0 rfl ?_
  exact hret _ (va_up I 11 (0 : Int32)) _ _ _ _ rfl hw h (C.dg (k := 7) rfl)
end S236
section S237
variable {p : Program} {l : Launch} {e : Env} {R : Room} {s : State} {m : MethodId} {args : Array Value} {below : List Frame} {meth : Method} {c : Code} {H : Heap} {locs : List Loc} {cells slots : Nat} {Q : State → Prop}
variable {cc : ByteArray} {pc n nL : Nat} {ls : Array Slot} {rest : List Value} {D : va_G} {cy : Nat → ClassId} {Z : Nat → Prop} {ad : Nat → Nat} {tb : List (Nat × Instr × Nat)} {lv : List (Nat × Value)}
def g_Mo_plan (A : Nat → Nat → Int32) (a1 : Int32) (a2 : Int32) (a3 : Int32) (P : Int32 → ((Nat → Nat → Int32)) → Prop) : Prop := g_Mo_in a1 (0 : Int32) (2 : Int32) (fun r1 => ((¬ r1 = 0 → (g_Mo_in a2 (0 : Int32) (100 : Int32) (fun r3 => ((r3 = 0 → (P (-2 : Int32) A)) ∧ (¬ r3 = 0 → (g_Mo_in a3 (0 : Int32) (100 : Int32) (fun r5 => ((¬ r5 = 0 → (vp_in a1 3 ∧ (vp_in a1 3 ∧ (P (1 : Int32) (sA (sA A 28 a1 a2) 29 a1 a3))))) ∧ (r5 = 0 → (P (-2 : Int32) A)))))))))) ∧ (r1 = 0 → (P (-1 : Int32) A))))
set_option maxHeartbeats 4000000 in
set_option maxRecDepth 100000 in
theorem m_Mo_plan {l : Launch} {D : va_G} {cy : Nat → ClassId} {ad : Nat → Nat} {I : Nat → Int32} {A : Nat → Nat → Int32} {a1 : Int32} {a2 : Int32} {a3 : Int32} {P : Int32 → ((Nat → Nat → Int32)) → Prop} (hw : g_Mo_plan A a1 a2 a3 P) : ∀ sz, Met l y_Mo_plan (WL y_Mo_plan c_Mo_plan 4 (some .int)) { frames := 1, cells := 0, slots := 0, locals := 22 } (va_Pc [.ref (ad 0), .int a1, .int a2, .int a3] (PreW D cy (wM cy ad I A) sz)) (va_Qi P (fun u t => PostW D (va_A (wM cy ad I A) sz) ((fun (u : (Nat → Nat → Int32)) => wM cy ad I u) u) t) (va_A (wM cy ad I A) sz)) 0 0 (va_A (wM cy ad I A) sz) := by
  refine met_i (wf := fun (u : (Nat → Nat → Int32)) => wM cy ad I u) R_Mo .int db_Mo_plan (by decide) rfl rfl (Nat.le_of_ble_eq_true rfl) ?_
  intro p e s m below meth c Z Q ls C h hl hret
  have hl : lv_has ls 4 [(0, .ref (ad 0)), (1, .int a1), (2, .int a2), (3, .int a3)] := hl
  refine i_iload_n (n := 1) C 0 rfl rfl rfl hl 1 rfl ?_
  refine i_iconst (v := (0 : Int32)) (n := 2) C 1 rfl rfl rfl ?_
  refine i_iconst (v := (2 : Int32)) (n := 3) C 2 rfl rfl rfl ?_
  refine i_callSp (rest := []) (n := 6) C 3 rfl rfl hl h (kS_Mo_126 ⟨by decide, by decide⟩) (m_Mo_in hw) rfl rfl (Nat.le_of_ble_eq_true rfl) ⟨by decide, by decide⟩ (fun r1 hw => ?_)
  refine i_if_ne (tgt := 11) (n := 9) C 4 rfl rfl rfl (fun c2 => ?_) (fun c2 => ?_)
  · replace hw := hw.1 c2
    refine i_iload_n (n := 12) C 7 rfl rfl rfl hl 2 rfl ?_
    refine i_iconst (v := (0 : Int32)) (n := 13) C 8 rfl rfl rfl ?_
    refine i_bipush (v := (100 : Int32)) (n := 15) C 9 rfl rfl rfl ?_
    refine i_callSp (rest := []) (n := 18) C 10 rfl rfl hl h (kS_Mo_126 ⟨by decide, by decide⟩) (m_Mo_in hw) rfl rfl (Nat.le_of_ble_eq_true rfl) ⟨by decide, by decide⟩ (fun r3 hw => ?_)
    refine i_if_eq (tgt := 31) (n := 21) C 11 rfl rfl rfl (fun c4 => ?_) (fun c4 => ?_)
    · replace hw := hw.1 c4
      refine i_bipush (v := (-2 : Int32)) (n := 33) C 17 rfl rfl rfl ?_
      exact hret _ A _ _ _ _ rfl hw h (C.dg (k := 18) rfl)
    · replace hw := hw.2 c4
      refine i_iload_n (n := 22) C 12 rfl rfl rfl hl 3 rfl ?_
      refine i_iconst (v := (0 : Int32)) (n := 23) C 13 rfl rfl rfl ?_
      refine i_bipush (v := (100 : Int32)) (n := 25) C 14 rfl rfl rfl ?_
      refine i_callSp (rest := []) (n := 28) C 15 rfl rfl hl h (kS_Mo_126 ⟨by decide, by decide⟩) (m_Mo_in hw) rfl rfl (Nat.le_of_ble_eq_true rfl) ⟨by decide, by decide⟩ (fun r5 hw => ?_)
      refine i_if_ne (tgt := 34) (n := 31) C 16 rfl rfl rfl (fun c6 => ?_) (fun c6 => ?_)
      · replace hw := hw.1 c6
        refine i_aload_n (n := 35) C 19 rfl rfl rfl hl 0 rfl ?_
        refine fgM_Mo_95 (n := 38) C 20 rfl rfl h ?_
        refine i_iload_n (n := 39) C 21 rfl rfl rfl hl 1 rfl ?_
        refine i_iload_n (n := 40) C 22 rfl rfl rfl hl 2 rfl ?_
        obtain ⟨hb, hw⟩ := hw
        refine i_iast (n := 41) C 23 rfl rfl h (wM_arr 28 (by decide) rfl) hb (wM_sA 28 (by decide) rfl _ _) (fun H locs h => ?_)
        refine i_aload_n (n := 42) C 24 rfl rfl rfl hl 0 rfl ?_
        refine fgM_Mo_98 (n := 45) C 25 rfl rfl h ?_
        refine i_iload_n (n := 46) C 26 rfl rfl rfl hl 1 rfl ?_
        refine i_iload_n (n := 47) C 27 rfl rfl rfl hl 3 rfl ?_
        obtain ⟨hb, hw⟩ := hw
        refine i_iast (n := 48) C 28 rfl rfl h (wM_arr 29 (by decide) rfl) hb (wM_sA 29 (by decide) rfl _ _) (fun H locs h => ?_)
        refine i_iconst (v := (1 : Int32)) (n := 49) C 29 rfl rfl rfl ?_
        exact hret _ (sA (sA A 28 a1 a2) 29 a1 a3) _ _ _ _ rfl hw h (C.dg (k := 30) rfl)
      · replace hw := hw.2 c6
        refine i_bipush (v := (-2 : Int32)) (n := 33) C 17 rfl rfl rfl ?_
        exact hret _ A _ _ _ _ rfl hw h (C.dg (k := 18) rfl)
  · replace hw := hw.2 c2
    refine i_iconst (v := (-1 : Int32)) (n := 10) C 5 rfl rfl rfl ?_
    exact hret _ A _ _ _ _ rfl hw h (C.dg (k := 6) rfl)
end S237
section S238
variable {p : Program} {l : Launch} {e : Env} {R : Room} {s : State} {m : MethodId} {args : Array Value} {below : List Frame} {meth : Method} {c : Code} {H : Heap} {locs : List Loc} {cells slots : Nat} {Q : State → Prop}
variable {cc : ByteArray} {pc n nL : Nat} {ls : Array Slot} {rest : List Value} {D : va_G} {cy : Nat → ClassId} {Z : Nat → Prop} {ad : Nat → Nat} {tb : List (Nat × Instr × Nat)} {lv : List (Nat × Value)}
def g_Mo_at (a1 : Int32) (a2 : Int32) (a3 : Int32) (P : Int32 → Prop) : Prop := P ((((1608 : Int32) * a1) + ((8 : Int32) * a2)) + a3)
set_option maxHeartbeats 4000000 in
set_option maxRecDepth 100000 in
theorem m_Mo_at {l : Launch} {D : va_G} {cy : Nat → ClassId}   {a1 : Int32} {a2 : Int32} {a3 : Int32} {w : va_W} {P : Int32 → Prop} (hw : g_Mo_at a1 a2 a3 P) : ∀ sz, Met l y_Mo_at (WL y_Mo_at c_Mo_at 3 (some .int)) { frames := 0, cells := 0, slots := 0, locals := 0 } (va_Pc [.int a1, .int a2, .int a3] (PreW D cy (w) sz)) (vp_Si P) 0 0 (fun _ => False) := by
  refine met_p R_Mo .int db_Mo_at (by decide) rfl rfl (Nat.le_of_ble_eq_true rfl) ?_
  intro p e s m below meth c Z Q ls C h hl hret
  have hl : lv_has ls 3 [(0, .int a1), (1, .int a2), (2, .int a3)] := hl
  refine i_sipush (v := (1608 : Int32)) (n := 3) C 0 rfl rfl rfl ?_
  refine i_iload_n (n := 4) C 1 rfl rfl rfl hl 0 rfl ?_
  refine i_imul (n := 5) C 2 rfl rfl ?_
  refine i_bipush (v := (8 : Int32)) (n := 7) C 3 rfl rfl rfl ?_
  refine i_iload_n (n := 8) C 4 rfl rfl rfl hl 1 rfl ?_
  refine i_imul (n := 9) C 5 rfl rfl ?_
  refine i_iadd (n := 10) C 6 rfl rfl ?_
  refine i_iload_n (n := 11) C 7 rfl rfl rfl hl 2 rfl ?_
  refine i_iadd (n := 12) C 8 rfl rfl ?_
  exact hret _ _ _ rfl hw (C.dg (k := 9) rfl)
end S238
section S239
variable {p : Program} {l : Launch} {e : Env} {R : Room} {s : State} {m : MethodId} {args : Array Value} {below : List Frame} {meth : Method} {c : Code} {H : Heap} {locs : List Loc} {cells slots : Nat} {Q : State → Prop}
variable {cc : ByteArray} {pc n nL : Nat} {ls : Array Slot} {rest : List Value} {D : va_G} {cy : Nat → ClassId} {Z : Nat → Prop} {ad : Nat → Nat} {tb : List (Nat × Instr × Nat)} {lv : List (Nat × Value)}
def g_Mo_after_38 (A : Nat → Nat → Int32) (a1 : Int32) (a2 : Int32) (a3 : Int32) (a4 : Int32) (P : Int32 → Prop) (kb6 : Int32 → Int32 → Prop) (x6 : Int32) (s0 : Int32) (s1 : Int32) : Prop := ∀ y3 : Int32, y3 = (s0 + s1) → (kb6 y3 (x6 + (1 : Int32)))
set_option maxHeartbeats 4000000 in
set_option maxRecDepth 100000 in
theorem e_Mo_after_38 {I : Nat → Int32} {A : Nat → Nat → Int32} {a1 : Int32} {a2 : Int32} {a3 : Int32} {a4 : Int32} {P : Int32 → Prop} {kb6 : Int32 → Int32 → Prop} (C : CX D cy R_Mo c_Mo_after tb_Mo_after 7 p s m args c Z) (h : HXw D Z s.heap H locs (wM cy ad I A)) (hret : RetP p l e { frames := 0, cells := 0, slots := 0, locals := 0 } s m args below meth c c_Mo_after .int H locs Q P)
    (hb6 : ∀ (x5 : Int32) (x6 : Int32) (ls : Array Slot), lv_has ls 7 [(0, .ref (ad 0)), (1, .int a1), (3, .int a3), (4, .int a4), (5, .int x5), (6, .int x6)] → kb6 x5 x6 → W p l e { frames := 0, cells := 0, slots := 0, locals := 0 } s m args below meth c H locs 0 0 Q (F0 m 6 ls [])) :
    ∀ (x6 : Int32) (s0 : Int32) (s1 : Int32) (ls : Array Slot), lv_has ls 7 [(0, .ref (ad 0)), (1, .int a1), (3, .int a3), (4, .int a4), (6, .int x6)] → g_Mo_after_38 A a1 a2 a3 a4 P kb6 x6 s0 s1 → W p l e { frames := 0, cells := 0, slots := 0, locals := 0 } s m args below meth c H locs 0 0 Q (F0 m 38 ls [.int s1, .int s0]) := by
  intro x6 s0 s1 ls hl hw
  refine i_iadd (n := 39) C 23 rfl rfl ?_
  refine lv_topi (fun y3 ey3 => ?_)
  replace hw := hw y3 ey3
  refine i_istore (lv' := [(5, .int y3), (0, .ref (ad 0)), (1, .int a1), (3, .int a3), (4, .int a4), (6, .int x6)]) (n := 41) C 24 rfl rfl hl (by decide) rfl (fun ls hl => ?_)
  refine i_iinc (v := x6 + (1 : Int32)) (lv' := [(6, .int (x6 + (1 : Int32))), (5, .int y3), (0, .ref (ad 0)), (1, .int a1), (3, .int a3), (4, .int a4)]) (n := 44) C 25 rfl rfl hl 5 rfl rfl (by decide) rfl (fun ls hl => ?_)
  refine i_goto (tgt := 6) C 26 rfl rfl ?_
  exact hb6 y3 (x6 + (1 : Int32)) ls (lv_sub hl [2, 3, 4, 5, 1, 0] rfl) hw
def g_Mo_after_6 (A : Nat → Nat → Int32) (a1 : Int32) (a2 : Int32) (a3 : Int32) (a4 : Int32) (P : Int32 → Prop) (kx6 : Int32 → Prop) : Nat → Int32 → Int32 → Prop
  | 0, _, _ => False
  | n6 + 1, x5, x6 => ((3 : Int32) ≤ x6 → (kx6 x5)) ∧ (¬ (3 : Int32) ≤ x6 → ((¬ (((a3 &&& a4) >>> (x6 &&& 31)) &&& (1 : Int32)) = (1 : Int32) → (g_Mo_after_38 A a1 a2 a3 a4 P (g_Mo_after_6 A a1 a2 a3 a4 P kx6 n6) x6 x5 (0 : Int32))) ∧ ((((a3 &&& a4) >>> (x6 &&& 31)) &&& (1 : Int32)) = (1 : Int32) → (vp_in x6 3 ∧ (g_Mo_after_38 A a1 a2 a3 a4 P (g_Mo_after_6 A a1 a2 a3 a4 P kx6 n6) x6 x5 (A 28 x6.toNatClampNeg))))))
set_option maxHeartbeats 4000000 in
set_option maxRecDepth 100000 in
theorem e_Mo_after_6 {I : Nat → Int32} {A : Nat → Nat → Int32} {a1 : Int32} {a2 : Int32} {a3 : Int32} {a4 : Int32} {P : Int32 → Prop} {kx6 : Int32 → Prop} (C : CX D cy R_Mo c_Mo_after tb_Mo_after 7 p s m args c Z) (h : HXw D Z s.heap H locs (wM cy ad I A)) (hret : RetP p l e { frames := 0, cells := 0, slots := 0, locals := 0 } s m args below meth c c_Mo_after .int H locs Q P)
    (hx6 : ∀ (x5 : Int32) (ls : Array Slot), lv_has ls 7 [(0, .ref (ad 0)), (1, .int a1), (5, .int x5)] → kx6 x5 → W p l e { frames := 0, cells := 0, slots := 0, locals := 0 } s m args below meth c H locs 0 0 Q (F0 m 47 ls [])) :
    ∀ (n : Nat) (x5 : Int32) (x6 : Int32) (ls : Array Slot), lv_has ls 7 [(0, .ref (ad 0)), (1, .int a1), (3, .int a3), (4, .int a4), (5, .int x5), (6, .int x6)] → g_Mo_after_6 A a1 a2 a3 a4 P kx6 n x5 x6 → W p l e { frames := 0, cells := 0, slots := 0, locals := 0 } s m args below meth c H locs 0 0 Q (F0 m 6 ls []) := by
  intro n
  induction n with
  | zero => intro x5 x6 ls hl hw; exact hw.elim
  | succ n ih =>
    intro x5 x6 ls hl hw
    refine i_iload (n := 8) C 4 rfl rfl hl 5 rfl ?_
    refine i_iconst (v := (3 : Int32)) (n := 9) C 5 rfl rfl rfl ?_
    refine i_icmp_ge (tgt := 47) (n := 12) C 6 rfl rfl rfl (fun c1 => ?_) (fun c1 => ?_)
    · replace hw := hw.1 c1
      exact hx6 x5 ls (lv_sub hl [0, 1, 4] rfl) hw
    · replace hw := hw.2 c1
      refine i_iload (n := 14) C 7 rfl rfl hl 4 rfl ?_
      refine i_iload_n (n := 15) C 8 rfl rfl rfl hl 2 rfl ?_
      refine i_iload (n := 17) C 9 rfl rfl hl 3 rfl ?_
      refine i_iand (n := 18) C 10 rfl rfl ?_
      refine i_iload (n := 20) C 11 rfl rfl hl 5 rfl ?_
      refine i_ishr (n := 21) C 12 rfl rfl ?_
      refine i_iconst (v := (1 : Int32)) (n := 22) C 13 rfl rfl rfl ?_
      refine i_iand (n := 23) C 14 rfl rfl ?_
      refine i_iconst (v := (1 : Int32)) (n := 24) C 15 rfl rfl rfl ?_
      refine i_icmp_ne (tgt := 37) (n := 27) C 16 rfl rfl rfl (fun c2 => ?_) (fun c2 => ?_)
      · replace hw := hw.1 c2
        refine i_iconst (v := (0 : Int32)) (n := 38) C 22 rfl rfl rfl ?_
        exact e_Mo_after_38 C h hret ih x6 x5 (0 : Int32) ls (lv_sub hl [0, 1, 2, 3, 5] rfl) hw
      · replace hw := hw.2 c2
        refine i_aload_n (n := 28) C 17 rfl rfl rfl hl 0 rfl ?_
        refine fgM_Mo_95 (n := 31) C 18 rfl rfl h ?_
        refine i_iload (n := 33) C 19 rfl rfl hl 5 rfl ?_
        obtain ⟨hb, hw⟩ := hw
        refine i_iald (n := 34) C 20 rfl rfl h (wM_arr 28 (by decide) rfl) hb ?_
        refine i_goto (tgt := 38) C 21 rfl rfl ?_
        exact e_Mo_after_38 C h hret ih x6 x5 (A 28 x6.toNatClampNeg) ls (lv_sub hl [0, 1, 2, 3, 5] rfl) hw
def g_Mo_after_63 (A : Nat → Nat → Int32) (a1 : Int32) (a2 : Int32) (a3 : Int32) (a4 : Int32) (P : Int32 → Prop)  (s0 : Int32) : Prop := vp_in a1 8 ∧ (P (s0 - (A 27 a1.toNatClampNeg)))
set_option maxHeartbeats 4000000 in
set_option maxRecDepth 100000 in
theorem e_Mo_after_63 {I : Nat → Int32} {A : Nat → Nat → Int32} {a1 : Int32} {a2 : Int32} {a3 : Int32} {a4 : Int32} {P : Int32 → Prop}  (C : CX D cy R_Mo c_Mo_after tb_Mo_after 7 p s m args c Z) (h : HXw D Z s.heap H locs (wM cy ad I A)) (hret : RetP p l e { frames := 0, cells := 0, slots := 0, locals := 0 } s m args below meth c c_Mo_after .int H locs Q P) :
    ∀ (s0 : Int32) (ls : Array Slot), lv_has ls 7 [(0, .ref (ad 0)), (1, .int a1)] → g_Mo_after_63 A a1 a2 a3 a4 P  s0 → W p l e { frames := 0, cells := 0, slots := 0, locals := 0 } s m args below meth c H locs 0 0 Q (F0 m 63 ls [.int s0]) := by
  intro s0 ls hl hw
  refine i_istore (lv' := [(5, .int s0), (0, .ref (ad 0)), (1, .int a1)]) (n := 65) C 33 rfl rfl hl (by decide) rfl (fun ls hl => ?_)
  refine i_iload (n := 67) C 34 rfl rfl hl 0 rfl ?_
  refine i_aload_n (n := 68) C 35 rfl rfl rfl hl 1 rfl ?_
  refine fgM_Mo_92 (n := 71) C 36 rfl rfl h ?_
  refine i_iload_n (n := 72) C 37 rfl rfl rfl hl 2 rfl ?_
  obtain ⟨hb, hw⟩ := hw
  refine i_iald (n := 73) C 38 rfl rfl h (wM_arr 27 (by decide) rfl) hb ?_
  refine i_isub (n := 74) C 39 rfl rfl ?_
  exact hret _ _ _ rfl hw (C.dg (k := 40) rfl)
def g_Mo_after (A : Nat → Nat → Int32) (a1 : Int32) (a2 : Int32) (a3 : Int32) (a4 : Int32) (P : Int32 → Prop) : Prop := ∃ N : Nat, g_Mo_after_6 A a1 a2 a3 a4 P (fun (x5_4 : Int32) => (x5_4 ≤ (200 : Int32) → (g_Mo_after_63 A a1 a2 a3 a4 P  x5_4)) ∧ (¬ x5_4 ≤ (200 : Int32) → (g_Mo_after_63 A a1 a2 a3 a4 P  (200 : Int32)))) N a2 (0 : Int32)
set_option maxHeartbeats 4000000 in
set_option maxRecDepth 100000 in
theorem m_Mo_after {l : Launch} {D : va_G} {cy : Nat → ClassId} {ad : Nat → Nat} {I : Nat → Int32} {A : Nat → Nat → Int32} {a1 : Int32} {a2 : Int32} {a3 : Int32} {a4 : Int32} {P : Int32 → Prop} (hw : g_Mo_after A a1 a2 a3 a4 P) : ∀ sz, Met l y_Mo_after (WL y_Mo_after c_Mo_after 7 (some .int)) { frames := 0, cells := 0, slots := 0, locals := 0 } (va_Pc [.ref (ad 0), .int a1, .int a2, .int a3, .int a4] (PreW D cy (wM cy ad I A) sz)) (vp_Si P) 0 0 (fun _ => False) := by
  refine met_p R_Mo .int db_Mo_after (by decide) rfl rfl (Nat.le_of_ble_eq_true rfl) ?_
  intro p e s m below meth c Z Q ls C h hl hret
  have hl : lv_has ls 7 [(0, .ref (ad 0)), (1, .int a1), (2, .int a2), (3, .int a3), (4, .int a4)] := hl
  refine i_iload_n (n := 1) C 0 rfl rfl rfl hl 2 rfl ?_
  refine i_istore (lv' := [(5, .int a2), (0, .ref (ad 0)), (1, .int a1), (2, .int a2), (3, .int a3), (4, .int a4)]) (n := 3) C 1 rfl rfl hl (by decide) rfl (fun ls hl => ?_)
  refine i_iconst (v := (0 : Int32)) (n := 4) C 2 rfl rfl rfl ?_
  refine i_istore (lv' := [(6, .int (0 : Int32)), (5, .int a2), (0, .ref (ad 0)), (1, .int a1), (2, .int a2), (3, .int a3), (4, .int a4)]) (n := 6) C 3 rfl rfl hl (by decide) rfl (fun ls hl => ?_)
  obtain ⟨n4, hw⟩ := hw
  refine e_Mo_after_6 C h hret (fun x5_4 ls hl hw => ?_) n4 a2 (0 : Int32) ls (lv_sub hl [2, 3, 5, 6, 1, 0] rfl) hw
  have hl : lv_has ls 7 [(0, .ref (ad 0)), (1, .int a1), (5, .int x5_4)] := hl
  refine i_iload (n := 49) C 27 rfl rfl hl 2 rfl ?_
  refine i_sipush (v := (200 : Int32)) (n := 52) C 28 rfl rfl rfl ?_
  refine i_icmp_le (tgt := 61) (n := 55) C 29 rfl rfl rfl (fun c5 => ?_) (fun c5 => ?_)
  · replace hw := hw.1 c5
    refine i_iload (n := 63) C 32 rfl rfl hl 2 rfl ?_
    exact e_Mo_after_63 C h hret  x5_4 ls (lv_sub hl [0, 1] rfl) hw
  · replace hw := hw.2 c5
    refine i_sipush (v := (200 : Int32)) (n := 58) C 30 rfl rfl rfl ?_
    refine i_goto (tgt := 63) C 31 rfl rfl ?_
    exact e_Mo_after_63 C h hret  (200 : Int32) ls (lv_sub hl [0, 1] rfl) hw
end S239
