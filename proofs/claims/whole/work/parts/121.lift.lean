section S235
variable {p : Program} {l : Launch} {e : Env} {R : Room} {s : State} {m : MethodId} {args : Array Value} {below : List Frame} {meth : Method} {c : Code} {H : Heap} {locs : List Loc} {cells slots : Nat} {Q : State → Prop}
variable {cc : ByteArray} {pc n nL : Nat} {ls : Array Slot} {rest : List Value} {D : va_G} {cy : Nat → ClassId} {Z : Nat → Prop} {ad : Nat → Nat} {tb : List (Nat × Instr × Nat)} {lv : List (Nat × Value)}
set_option maxHeartbeats 4000000 in
set_option maxRecDepth 100000 in
theorem m_Mo_block {l : Launch} {D : va_G} {cy : Nat → ClassId} {ad : Nat → Nat} {I : Nat → Int32} {A : Nat → Nat → Int32} {a1 : Int32} {P : Int32 → ((Nat → Int32) × (Nat → Nat → Int32)) → Prop} (hw : g_Mo_block I A a1 P) : ∀ sz, Met l y_Mo_block (WL y_Mo_block c_Mo_block 2 (some .int)) { frames := 1, cells := 0, slots := 0, locals := 22 } (va_Pc [.ref (ad 0), .int a1] (PreW D cy (wM cy ad I A) sz)) (va_Qi P (fun u t => PostW D (va_A (wM cy ad I A) sz) ((fun (u : (Nat → Int32) × (Nat → Nat → Int32)) => wM cy ad u.1 u.2) u) t) (va_A (wM cy ad I A) sz)) 0 0 (va_A (wM cy ad I A) sz) := by
  refine met_i (wf := fun (u : (Nat → Int32) × (Nat → Nat → Int32)) => wM cy ad u.1 u.2) R_Mo .int db_Mo_block (by decide) rfl rfl (Nat.le_of_ble_eq_true rfl) ?_
  intro p e s m below meth c Z Q ls C h hl hret
  have hl : lv_has ls 2 [(0, .ref (ad 0)), (1, .int a1)] := hl
  refine i_iload_n (n := 1) C 0 rfl rfl rfl hl 1 rfl ?_
  refine i_iconst (v := (0 : Int32)) (n := 2) C 1 rfl rfl rfl ?_
  refine i_bipush (v := (100 : Int32)) (n := 4) C 2 rfl rfl rfl ?_
  refine i_callSp (rest := []) (n := 7) C 3 rfl rfl hl h (kS_Mo_126 ⟨by decide, by decide⟩) (m_Mo_in hw) rfl rfl (Nat.le_of_ble_eq_true rfl) ⟨by decide, by decide⟩ (fun r1 hw => ?_)
  refine i_if_ne (tgt := 13) (n := 10) C 4 rfl rfl rfl (fun c2 => ?_) (fun c2 => ?_)
  · replace hw := hw.1 c2
    refine i_aload_n (n := 14) C 7 rfl rfl rfl hl 0 rfl ?_
    refine fgM_Mo_218 (n := 17) C 8 rfl rfl h ?_
    refine i_bipush (v := (8 : Int32)) (n := 19) C 9 rfl rfl rfl ?_
    refine i_icmp_ne (tgt := 25) (n := 22) C 10 rfl rfl rfl (fun c3 => ?_) (fun c3 => ?_)
    · replace hw := hw.1 c3
      refine i_aload_n (n := 26) C 13 rfl rfl rfl hl 0 rfl ?_
      refine fgM_Mo_92 (n := 29) C 14 rfl rfl h ?_
      refine i_aload_n (n := 30) C 15 rfl rfl rfl hl 0 rfl ?_
      refine fgM_Mo_218 (n := 33) C 16 rfl rfl h ?_
      refine i_iload_n (n := 34) C 17 rfl rfl rfl hl 1 rfl ?_
      obtain ⟨hb, hw⟩ := hw
      refine i_iast (n := 35) C 18 rfl rfl h (wM_arr 27 (by decide) rfl) hb (wM_sA 27 (by decide) rfl _ _) (fun H locs h => ?_)
      refine i_aload_n (n := 36) C 19 rfl rfl rfl hl 0 rfl ?_
      refine i_dup (n := 37) C 20 rfl rfl rfl ?_
      refine fgM_Mo_218 (n := 40) C 21 rfl rfl h ?_
      refine i_iconst (v := (1 : Int32)) (n := 41) C 22 rfl rfl rfl ?_
      refine i_iadd (n := 42) C 23 rfl rfl ?_
      refine fpM_Mo_218 (n := 45) C 24 rfl rfl h (fun H locs h => ?_)
      refine i_aload_n (n := 46) C 25 rfl rfl rfl hl 0 rfl ?_
      refine fgM_Mo_218 (n := 49) C 26 rfl rfl h ?_
      exact hret _ (va_up I 11 ((I 11) + (1 : Int32)), sA A 27 (I 11) a1) _ _ _ _ rfl hw h (C.dg (k := 27) rfl)
    · replace hw := hw.2 c3
      refine i_bipush (v := (-4 : Int32)) (n := 24) C 11 rfl rfl rfl ?_
      exact hret _ (I, A) _ _ _ _ rfl hw h (C.dg (k := 12) rfl)
  · replace hw := hw.2 c2
    refine i_bipush (v := (-2 : Int32)) (n := 12) C 5 rfl rfl rfl ?_
    exact hret _ (I, A) _ _ _ _ rfl hw h (C.dg (k := 6) rfl)
end S235
section S236
variable {p : Program} {l : Launch} {e : Env} {R : Room} {s : State} {m : MethodId} {args : Array Value} {below : List Frame} {meth : Method} {c : Code} {H : Heap} {locs : List Loc} {cells slots : Nat} {Q : State → Prop}
variable {cc : ByteArray} {pc n nL : Nat} {ls : Array Slot} {rest : List Value} {D : va_G} {cy : Nat → ClassId} {Z : Nat → Prop} {ad : Nat → Nat} {tb : List (Nat × Instr × Nat)} {lv : List (Nat × Value)}
set_option maxHeartbeats 4000000 in
set_option maxRecDepth 100000 in
theorem m_Mo_rest {l : Launch} {D : va_G} {cy : Nat → ClassId} {ad : Nat → Nat} {I : Nat → Int32} {A : Nat → Nat → Int32}  {P : Int32 → ((Nat → Int32)) → Prop} (hw : g_Mo_rest I P) : ∀ sz, Met l y_Mo_rest (WL y_Mo_rest c_Mo_rest 2 (some .int)) { frames := 0, cells := 0, slots := 0, locals := 0 } (va_Pc [.ref (ad 0)] (PreW D cy (wM cy ad I A) sz)) (va_Qi P (fun u t => PostW D (va_A (wM cy ad I A) sz) ((fun (u : (Nat → Int32)) => wM cy ad u A) u) t) (va_A (wM cy ad I A) sz)) 0 0 (va_A (wM cy ad I A) sz) := by
  refine met_i (wf := fun (u : (Nat → Int32)) => wM cy ad u A) R_Mo .int db_Mo_rest (by decide) rfl rfl (Nat.le_of_ble_eq_true rfl) ?_
  intro p e s m below meth c Z Q ls C h hl hret
  have hl : lv_has ls 2 [(0, .ref (ad 0))] := hl
  refine i_aload_n (n := 1) C 0 rfl rfl rfl hl 0 rfl ?_
  refine fgM_Mo_218 (n := 4) C 1 rfl rfl h ?_
  refine lv_topi (fun y1 ey1 => ?_)
  replace hw := hw y1 ey1
  refine i_istore_n (lv' := [(1, .int y1), (0, .ref (ad 0))]) (n := 5) C 2 rfl rfl rfl hl (by decide) rfl (fun ls hl => ?_)
  refine i_aload_n (n := 6) C 3 rfl rfl rfl hl 1 rfl ?_
  refine i_iconst (v := (0 : Int32)) (n := 7) C 4 rfl rfl rfl ?_
  refine fpM_Mo_218 (n := 10) C 5 rfl rfl h (fun H locs h => ?_)
  refine i_iload_n (n := 11) C 6 rfl rfl rfl hl 0 rfl ?_
  exact hret _ (va_up I 11 (0 : Int32)) _ _ _ _ rfl hw h (C.dg (k := 7) rfl)
end S236
section S237
variable {p : Program} {l : Launch} {e : Env} {R : Room} {s : State} {m : MethodId} {args : Array Value} {below : List Frame} {meth : Method} {c : Code} {H : Heap} {locs : List Loc} {cells slots : Nat} {Q : State → Prop}
variable {cc : ByteArray} {pc n nL : Nat} {ls : Array Slot} {rest : List Value} {D : va_G} {cy : Nat → ClassId} {Z : Nat → Prop} {ad : Nat → Nat} {tb : List (Nat × Instr × Nat)} {lv : List (Nat × Value)}
set_option maxHeartbeats 4000000 in
set_option maxRecDepth 100000 in
theorem m_Mo_plan {l : Launch} {D : va_G} {cy : Nat → ClassId} {ad : Nat → Nat} {I : Nat → Int32} {A : Nat → Nat → Int32} {a1 : Int32} {a2 : Int32} {a3 : Int32} {P : Int32 → ((Nat → Nat → Int32)) → Prop} (hw : g_Mo_plan A a1 a2 a3 P) : ∀ sz, Met l y_Mo_plan (WL y_Mo_plan c_Mo_plan 4 (some .int)) { frames := 1, cells := 0, slots := 0, locals := 22 } (va_Pc [.ref (ad 0), .int a1, .int a2, .int a3] (PreW D cy (wM cy ad I A) sz)) (va_Qi P (fun u t => PostW D (va_A (wM cy ad I A) sz) ((fun (u : (Nat → Nat → Int32)) => wM cy ad I u) u) t) (va_A (wM cy ad I A) sz)) 0 0 (va_A (wM cy ad I A) sz) := by
  refine met_i (wf := fun (u : (Nat → Nat → Int32)) => wM cy ad I u) R_Mo .int db_Mo_plan (by decide) rfl rfl (Nat.le_of_ble_eq_true rfl) ?_
  intro p e s m below meth c Z Q ls C h hl hret
  have hl : lv_has ls 4 [(0, .ref (ad 0)), (1, .int a1), (2, .int a2), (3, .int a3)] := hl
  refine i_iload_n (n := 1) C 0 rfl rfl rfl hl 1 rfl ?_
  refine i_iconst (v := (0 : Int32)) (n := 2) C 1 rfl rfl rfl ?_
  refine i_iconst (v := (2 : Int32)) (n := 3) C 2 rfl rfl rfl ?_
  refine i_callSp (rest := []) (n := 6) C 3 rfl rfl hl h (kS_Mo_126 ⟨by decide, by decide⟩) (m_Mo_in hw) rfl rfl (Nat.le_of_ble_eq_true rfl) ⟨by decide, by decide⟩ (fun r1 hw => ?_)
  refine i_if_ne (tgt := 11) (n := 9) C 4 rfl rfl rfl (fun c2 => ?_) (fun c2 => ?_)
  · replace hw := hw.1 c2
    refine i_iload_n (n := 12) C 7 rfl rfl rfl hl 2 rfl ?_
    refine i_iconst (v := (0 : Int32)) (n := 13) C 8 rfl rfl rfl ?_
    refine i_bipush (v := (100 : Int32)) (n := 15) C 9 rfl rfl rfl ?_
    refine i_callSp (rest := []) (n := 18) C 10 rfl rfl hl h (kS_Mo_126 ⟨by decide, by decide⟩) (m_Mo_in hw) rfl rfl (Nat.le_of_ble_eq_true rfl) ⟨by decide, by decide⟩ (fun r3 hw => ?_)
    refine i_if_eq (tgt := 31) (n := 21) C 11 rfl rfl rfl (fun c4 => ?_) (fun c4 => ?_)
    · replace hw := hw.1 c4
      refine i_bipush (v := (-2 : Int32)) (n := 33) C 17 rfl rfl rfl ?_
      exact hret _ A _ _ _ _ rfl hw h (C.dg (k := 18) rfl)
    · replace hw := hw.2 c4
      refine i_iload_n (n := 22) C 12 rfl rfl rfl hl 3 rfl ?_
      refine i_iconst (v := (0 : Int32)) (n := 23) C 13 rfl rfl rfl ?_
      refine i_bipush (v := (100 : Int32)) (n := 25) C 14 rfl rfl rfl ?_
      refine i_callSp (rest := []) (n := 28) C 15 rfl rfl hl h (kS_Mo_126 ⟨by decide, by decide⟩) (m_Mo_in hw) rfl rfl (Nat.le_of_ble_eq_true rfl) ⟨by decide, by decide⟩ (fun r5 hw => ?_)
      refine i_if_ne (tgt := 34) (n := 31) C 16 rfl rfl rfl (fun c6 => ?_) (fun c6 => ?_)
      · replace hw := hw.1 c6
        refine i_aload_n (n := 35) C 19 rfl rfl rfl hl 0 rfl ?_
        refine fgM_Mo_95 (n := 38) C 20 rfl rfl h ?_
        refine i_iload_n (n := 39) C 21 rfl rfl rfl hl 1 rfl ?_
        refine i_iload_n (n := 40) C 22 rfl rfl rfl hl 2 rfl ?_
        obtain ⟨hb, hw⟩ := hw
        refine i_iast (n := 41) C 23 rfl rfl h (wM_arr 28 (by decide) rfl) hb (wM_sA 28 (by decide) rfl _ _) (fun H locs h => ?_)
        refine i_aload_n (n := 42) C 24 rfl rfl rfl hl 0 rfl ?_
        refine fgM_Mo_98 (n := 45) C 25 rfl rfl h ?_
        refine i_iload_n (n := 46) C 26 rfl rfl rfl hl 1 rfl ?_
        refine i_iload_n (n := 47) C 27 rfl rfl rfl hl 3 rfl ?_
        obtain ⟨hb, hw⟩ := hw
        refine i_iast (n := 48) C 28 rfl rfl h (wM_arr 29 (by decide) rfl) hb (wM_sA 29 (by decide) rfl _ _) (fun H locs h => ?_)
        refine i_iconst (v := (1 : Int32)) (n := 49) C 29 rfl rfl rfl ?_
        exact hret _ (sA (sA A 28 a1 a2) 29 a1 a3) _ _ _ _ rfl hw h (C.dg (k := 30) rfl)
      · replace hw := hw.2 c6
        refine i_bipush (v := (-2 : Int32)) (n := 33) C 17 rfl rfl rfl ?_
        exact hret _ A _ _ _ _ rfl hw h (C.dg (k := 18) rfl)
  · replace hw := hw.2 c2
    refine i_iconst (v := (-1 : Int32)) (n := 10) C 5 rfl rfl rfl ?_
    exact hret _ A _ _ _ _ rfl hw h (C.dg (k := 6) rfl)
end S237
section S238
variable {p : Program} {l : Launch} {e : Env} {R : Room} {s : State} {m : MethodId} {args : Array Value} {below : List Frame} {meth : Method} {c : Code} {H : Heap} {locs : List Loc} {cells slots : Nat} {Q : State → Prop}
variable {cc : ByteArray} {pc n nL : Nat} {ls : Array Slot} {rest : List Value} {D : va_G} {cy : Nat → ClassId} {Z : Nat → Prop} {ad : Nat → Nat} {tb : List (Nat × Instr × Nat)} {lv : List (Nat × Value)}
set_option maxHeartbeats 4000000 in
set_option maxRecDepth 100000 in
theorem m_Mo_at {l : Launch} {D : va_G} {cy : Nat → ClassId}   {a1 : Int32} {a2 : Int32} {a3 : Int32} {w : va_W} {P : Int32 → Prop} (hw : g_Mo_at a1 a2 a3 P) : ∀ sz, Met l y_Mo_at (WL y_Mo_at c_Mo_at 3 (some .int)) { frames := 0, cells := 0, slots := 0, locals := 0 } (va_Pc [.int a1, .int a2, .int a3] (PreW D cy (w) sz)) (vp_Si P) 0 0 (fun _ => False) := by
  refine met_p R_Mo .int db_Mo_at (by decide) rfl rfl (Nat.le_of_ble_eq_true rfl) ?_
  intro p e s m below meth c Z Q ls C h hl hret
  have hl : lv_has ls 3 [(0, .int a1), (1, .int a2), (2, .int a3)] := hl
  refine i_sipush (v := (1608 : Int32)) (n := 3) C 0 rfl rfl rfl ?_
  refine i_iload_n (n := 4) C 1 rfl rfl rfl hl 0 rfl ?_
  refine i_imul (n := 5) C 2 rfl rfl ?_
  refine i_bipush (v := (8 : Int32)) (n := 7) C 3 rfl rfl rfl ?_
  refine i_iload_n (n := 8) C 4 rfl rfl rfl hl 1 rfl ?_
  refine i_imul (n := 9) C 5 rfl rfl ?_
  refine i_iadd (n := 10) C 6 rfl rfl ?_
  refine i_iload_n (n := 11) C 7 rfl rfl rfl hl 2 rfl ?_
  refine i_iadd (n := 12) C 8 rfl rfl ?_
  exact hret _ _ _ rfl hw (C.dg (k := 9) rfl)
end S238
section S239
variable {p : Program} {l : Launch} {e : Env} {R : Room} {s : State} {m : MethodId} {args : Array Value} {below : List Frame} {meth : Method} {c : Code} {H : Heap} {locs : List Loc} {cells slots : Nat} {Q : State → Prop}
variable {cc : ByteArray} {pc n nL : Nat} {ls : Array Slot} {rest : List Value} {D : va_G} {cy : Nat → ClassId} {Z : Nat → Prop} {ad : Nat → Nat} {tb : List (Nat × Instr × Nat)} {lv : List (Nat × Value)}
set_option maxHeartbeats 4000000 in
set_option maxRecDepth 100000 in
theorem e_Mo_after_38 {I : Nat → Int32} {A : Nat → Nat → Int32} {a1 : Int32} {a2 : Int32} {a3 : Int32} {a4 : Int32} {P : Int32 → Prop} {kb6 : Int32 → Int32 → Prop} (C : CX D cy R_Mo c_Mo_after tb_Mo_after 7 p s m args c Z) (h : HXw D Z s.heap H locs (wM cy ad I A)) (hret : RetP p l e { frames := 0, cells := 0, slots := 0, locals := 0 } s m args below meth c c_Mo_after .int H locs Q P)
    (hb6 : ∀ (x5 : Int32) (x6 : Int32) (ls : Array Slot), lv_has ls 7 [(0, .ref (ad 0)), (1, .int a1), (3, .int a3), (4, .int a4), (5, .int x5), (6, .int x6)] → kb6 x5 x6 → W p l e { frames := 0, cells := 0, slots := 0, locals := 0 } s m args below meth c H locs 0 0 Q (F0 m 6 ls [])) :
    ∀ (x6 : Int32) (s0 : Int32) (s1 : Int32) (ls : Array Slot), lv_has ls 7 [(0, .ref (ad 0)), (1, .int a1), (3, .int a3), (4, .int a4), (6, .int x6)] → g_Mo_after_38 A a1 a2 a3 a4 P kb6 x6 s0 s1 → W p l e { frames := 0, cells := 0, slots := 0, locals := 0 } s m args below meth c H locs 0 0 Q (F0 m 38 ls [.int s1, .int s0]) := by
  intro x6 s0 s1 ls hl hw
  refine i_iadd (n := 39) C 23 rfl rfl ?_
  refine lv_topi (fun y3 ey3 => ?_)
  replace hw := hw y3 ey3
  refine i_istore (lv' := [(5, .int y3), (0, .ref (ad 0)), (1, .int a1), (3, .int a3), (4, .int a4), (6, .int x6)]) (n := 41) C 24 rfl rfl hl (by decide) rfl (fun ls hl => ?_)
  refine i_iinc (v := x6 + (1 : Int32)) (lv' := [(6, .int (x6 + (1 : Int32))), (5, .int y3), (0, .ref (ad 0)), (1, .int a1), (3, .int a3), (4, .int a4)]) (n := 44) C 25 rfl rfl hl 5 rfl rfl (by decide) rfl (fun ls hl => ?_)
  refine i_goto (tgt := 6) C 26 rfl rfl ?_
  exact hb6 y3 (x6 + (1 : Int32)) ls (lv_sub hl [2, 3, 4, 5, 1, 0] rfl) hw
set_option maxHeartbeats 4000000 in
set_option maxRecDepth 100000 in
theorem e_Mo_after_6 {I : Nat → Int32} {A : Nat → Nat → Int32} {a1 : Int32} {a2 : Int32} {a3 : Int32} {a4 : Int32} {P : Int32 → Prop} {kx6 : Int32 → Prop} (C : CX D cy R_Mo c_Mo_after tb_Mo_after 7 p s m args c Z) (h : HXw D Z s.heap H locs (wM cy ad I A)) (hret : RetP p l e { frames := 0, cells := 0, slots := 0, locals := 0 } s m args below meth c c_Mo_after .int H locs Q P)
    (hx6 : ∀ (x5 : Int32) (ls : Array Slot), lv_has ls 7 [(0, .ref (ad 0)), (1, .int a1), (5, .int x5)] → kx6 x5 → W p l e { frames := 0, cells := 0, slots := 0, locals := 0 } s m args below meth c H locs 0 0 Q (F0 m 47 ls [])) :
    ∀ (n : Nat) (x5 : Int32) (x6 : Int32) (ls : Array Slot), lv_has ls 7 [(0, .ref (ad 0)), (1, .int a1), (3, .int a3), (4, .int a4), (5, .int x5), (6, .int x6)] → g_Mo_after_6 A a1 a2 a3 a4 P kx6 n x5 x6 → W p l e { frames := 0, cells := 0, slots := 0, locals := 0 } s m args below meth c H locs 0 0 Q (F0 m 6 ls []) := by
  intro n
  induction n with
  | zero => intro x5 x6 ls hl hw; exact hw.elim
  | succ n ih =>
    intro x5 x6 ls hl hw
    refine i_iload (n := 8) C 4 rfl rfl hl 5 rfl ?_
    refine i_iconst (v := (3 : Int32)) (n := 9) C 5 rfl rfl rfl ?_
    refine i_icmp_ge (tgt := 47) (n := 12) C 6 rfl rfl rfl (fun c1 => ?_) (fun c1 => ?_)
    · replace hw := hw.1 c1
      exact hx6 x5 ls (lv_sub hl [0, 1, 4] rfl) hw
    · replace hw := hw.2 c1
      refine i_iload (n := 14) C 7 rfl rfl hl 4 rfl ?_
      refine i_iload_n (n := 15) C 8 rfl rfl rfl hl 2 rfl ?_
      refine i_iload (n := 17) C 9 rfl rfl hl 3 rfl ?_
      refine i_iand (n := 18) C 10 rfl rfl ?_
      refine i_iload (n := 20) C 11 rfl rfl hl 5 rfl ?_
      refine i_ishr (n := 21) C 12 rfl rfl ?_
      refine i_iconst (v := (1 : Int32)) (n := 22) C 13 rfl rfl rfl ?_
      refine i_iand (n := 23) C 14 rfl rfl ?_
      refine i_iconst (v := (1 : Int32)) (n := 24) C 15 rfl rfl rfl ?_
      refine i_icmp_ne (tgt := 37) (n := 27) C 16 rfl rfl rfl (fun c2 => ?_) (fun c2 => ?_)
      · replace hw := hw.1 c2
        refine i_iconst (v := (0 : Int32)) (n := 38) C 22 rfl rfl rfl ?_
        exact e_Mo_after_38 C h hret ih x6 x5 (0 : Int32) ls (lv_sub hl [0, 1, 2, 3, 5] rfl) hw
      · replace hw := hw.2 c2
        refine i_aload_n (n := 28) C 17 rfl rfl rfl hl 0 rfl ?_
        refine fgM_Mo_95 (n := 31) C 18 rfl rfl h ?_
        refine i_iload (n := 33) C 19 rfl rfl hl 5 rfl ?_
        obtain ⟨hb, hw⟩ := hw
        refine i_iald (n := 34) C 20 rfl rfl h (wM_arr 28 (by decide) rfl) hb ?_
        refine i_goto (tgt := 38) C 21 rfl rfl ?_
        exact e_Mo_after_38 C h hret ih x6 x5 (A 28 x6.toNatClampNeg) ls (lv_sub hl [0, 1, 2, 3, 5] rfl) hw
set_option maxHeartbeats 4000000 in
set_option maxRecDepth 100000 in
theorem e_Mo_after_63 {I : Nat → Int32} {A : Nat → Nat → Int32} {a1 : Int32} {a2 : Int32} {a3 : Int32} {a4 : Int32} {P : Int32 → Prop}  (C : CX D cy R_Mo c_Mo_after tb_Mo_after 7 p s m args c Z) (h : HXw D Z s.heap H locs (wM cy ad I A)) (hret : RetP p l e { frames := 0, cells := 0, slots := 0, locals := 0 } s m args below meth c c_Mo_after .int H locs Q P) :
    ∀ (s0 : Int32) (ls : Array Slot), lv_has ls 7 [(0, .ref (ad 0)), (1, .int a1)] → g_Mo_after_63 A a1 a2 a3 a4 P  s0 → W p l e { frames := 0, cells := 0, slots := 0, locals := 0 } s m args below meth c H locs 0 0 Q (F0 m 63 ls [.int s0]) := by
  intro s0 ls hl hw
  refine i_istore (lv' := [(5, .int s0), (0, .ref (ad 0)), (1, .int a1)]) (n := 65) C 33 rfl rfl hl (by decide) rfl (fun ls hl => ?_)
  refine i_iload (n := 67) C 34 rfl rfl hl 0 rfl ?_
  refine i_aload_n (n := 68) C 35 rfl rfl rfl hl 1 rfl ?_
  refine fgM_Mo_92 (n := 71) C 36 rfl rfl h ?_
  refine i_iload_n (n := 72) C 37 rfl rfl rfl hl 2 rfl ?_
  obtain ⟨hb, hw⟩ := hw
  refine i_iald (n := 73) C 38 rfl rfl h (wM_arr 27 (by decide) rfl) hb ?_
  refine i_isub (n := 74) C 39 rfl rfl ?_
  exact hret _ _ _ rfl hw (C.dg (k := 40) rfl)
set_option maxHeartbeats 4000000 in
set_option maxRecDepth 100000 in
theorem m_Mo_after {l : Launch} {D : va_G} {cy : Nat → ClassId} {ad : Nat → Nat} {I : Nat → Int32} {A : Nat → Nat → Int32} {a1 : Int32} {a2 : Int32} {a3 : Int32} {a4 : Int32} {P : Int32 → Prop} (hw : g_Mo_after A a1 a2 a3 a4 P) : ∀ sz, Met l y_Mo_after (WL y_Mo_after c_Mo_after 7 (some .int)) { frames := 0, cells := 0, slots := 0, locals := 0 } (va_Pc [.ref (ad 0), .int a1, .int a2, .int a3, .int a4] (PreW D cy (wM cy ad I A) sz)) (vp_Si P) 0 0 (fun _ => False) := by
  refine met_p R_Mo .int db_Mo_after (by decide) rfl rfl (Nat.le_of_ble_eq_true rfl) ?_
  intro p e s m below meth c Z Q ls C h hl hret
  have hl : lv_has ls 7 [(0, .ref (ad 0)), (1, .int a1), (2, .int a2), (3, .int a3), (4, .int a4)] := hl
  refine i_iload_n (n := 1) C 0 rfl rfl rfl hl 2 rfl ?_
  refine i_istore (lv' := [(5, .int a2), (0, .ref (ad 0)), (1, .int a1), (2, .int a2), (3, .int a3), (4, .int a4)]) (n := 3) C 1 rfl rfl hl (by decide) rfl (fun ls hl => ?_)
  refine i_iconst (v := (0 : Int32)) (n := 4) C 2 rfl rfl rfl ?_
  refine i_istore (lv' := [(6, .int (0 : Int32)), (5, .int a2), (0, .ref (ad 0)), (1, .int a1), (2, .int a2), (3, .int a3), (4, .int a4)]) (n := 6) C 3 rfl rfl hl (by decide) rfl (fun ls hl => ?_)
  obtain ⟨n4, hw⟩ := hw
  refine e_Mo_after_6 C h hret (fun x5_4 ls hl hw => ?_) n4 a2 (0 : Int32) ls (lv_sub hl [2, 3, 5, 6, 1, 0] rfl) hw
  have hl : lv_has ls 7 [(0, .ref (ad 0)), (1, .int a1), (5, .int x5_4)] := hl
  refine i_iload (n := 49) C 27 rfl rfl hl 2 rfl ?_
  refine i_sipush (v := (200 : Int32)) (n := 52) C 28 rfl rfl rfl ?_
  refine i_icmp_le (tgt := 61) (n := 55) C 29 rfl rfl rfl (fun c5 => ?_) (fun c5 => ?_)
  · replace hw := hw.1 c5
    refine i_iload (n := 63) C 32 rfl rfl hl 2 rfl ?_
    exact e_Mo_after_63 C h hret  x5_4 ls (lv_sub hl [0, 1] rfl) hw
  · replace hw := hw.2 c5
    refine i_sipush (v := (200 : Int32)) (n := 58) C 30 rfl rfl rfl ?_
    refine i_goto (tgt := 63) C 31 rfl rfl ?_
    exact e_Mo_after_63 C h hret  (200 : Int32) ls (lv_sub hl [0, 1] rfl) hw
end S239
section S240
variable {p : Program} {l : Launch} {e : Env} {R : Room} {s : State} {m : MethodId} {args : Array Value} {below : List Frame} {meth : Method} {c : Code} {H : Heap} {locs : List Loc} {cells slots : Nat} {Q : State → Prop}
variable {cc : ByteArray} {pc n nL : Nat} {ls : Array Slot} {rest : List Value} {D : va_G} {cy : Nat → ClassId} {Z : Nat → Prop} {ad : Nat → Nat} {tb : List (Nat × Instr × Nat)} {lv : List (Nat × Value)}
set_option maxHeartbeats 4000000 in
set_option maxRecDepth 100000 in
theorem e_Mo_coalOf_4 {I : Nat → Int32} {A : Nat → Nat → Int32} {a1 : Int32} {P : Int32 → Prop} {kx4 : Int32 → Prop} (C : CX D cy R_Mo c_Mo_coalOf tb_Mo_coalOf 4 p s m args c Z) (h : HXw D Z s.heap H locs (wM cy ad I A)) (hret : RetP p l e { frames := 0, cells := 0, slots := 0, locals := 0 } s m args below meth c c_Mo_coalOf .int H locs Q P)
    (hx4 : ∀ (x2 : Int32) (ls : Array Slot), lv_has ls 4 [(2, .int x2)] → kx4 x2 → W p l e { frames := 0, cells := 0, slots := 0, locals := 0 } s m args below meth c H locs 0 0 Q (F0 m 30 ls [])) :
    ∀ (n : Nat) (x2 : Int32) (x3 : Int32) (ls : Array Slot), lv_has ls 4 [(0, .ref (ad 0)), (1, .int a1), (2, .int x2), (3, .int x3)] → g_Mo_coalOf_4 A a1 P kx4 n x2 x3 → W p l e { frames := 0, cells := 0, slots := 0, locals := 0 } s m args below meth c H locs 0 0 Q (F0 m 4 ls []) := by
  intro n
  induction n with
  | zero => intro x2 x3 ls hl hw; exact hw.elim
  | succ n ih =>
    intro x2 x3 ls hl hw
    refine i_iload_n (n := 5) C 4 rfl rfl rfl hl 3 rfl ?_
    refine i_iconst (v := (3 : Int32)) (n := 6) C 5 rfl rfl rfl ?_
    refine i_icmp_ge (tgt := 30) (n := 9) C 6 rfl rfl rfl (fun c1 => ?_) (fun c1 => ?_)
    · replace hw := hw.1 c1
      exact hx4 x2 ls (lv_sub hl [2] rfl) hw
    · replace hw := hw.2 c1
      refine i_iload_n (n := 10) C 7 rfl rfl rfl hl 2 rfl ?_
      refine i_iload_n (n := 11) C 8 rfl rfl rfl hl 1 rfl ?_
      refine i_iload_n (n := 12) C 9 rfl rfl rfl hl 3 rfl ?_
      refine i_ishr (n := 13) C 10 rfl rfl ?_
      refine i_iconst (v := (1 : Int32)) (n := 14) C 11 rfl rfl rfl ?_
      refine i_iand (n := 15) C 12 rfl rfl ?_
      refine i_aload_n (n := 16) C 13 rfl rfl rfl hl 0 rfl ?_
      refine fgM_Mo_98 (n := 19) C 14 rfl rfl h ?_
      refine i_iload_n (n := 20) C 15 rfl rfl rfl hl 3 rfl ?_
      obtain ⟨hb, hw⟩ := hw
      refine i_iald (n := 21) C 16 rfl rfl h (wM_arr 29 (by decide) rfl) hb ?_
      refine i_imul (n := 22) C 17 rfl rfl ?_
      refine i_iadd (n := 23) C 18 rfl rfl ?_
      refine lv_topi (fun y2 ey2 => ?_)
      replace hw := hw y2 ey2
      refine i_istore_n (lv' := [(2, .int y2), (0, .ref (ad 0)), (1, .int a1), (3, .int x3)]) (n := 24) C 19 rfl rfl rfl hl (by decide) rfl (fun ls hl => ?_)
      refine i_iinc (v := x3 + (1 : Int32)) (lv' := [(3, .int (x3 + (1 : Int32))), (2, .int y2), (0, .ref (ad 0)), (1, .int a1)]) (n := 27) C 20 rfl rfl hl 3 rfl rfl (by decide) rfl (fun ls hl => ?_)
      refine i_goto (tgt := 4) C 21 rfl rfl ?_
      exact ih y2 (x3 + (1 : Int32)) ls (lv_sub hl [2, 3, 1, 0] rfl) hw
set_option maxHeartbeats 4000000 in
set_option maxRecDepth 100000 in
theorem m_Mo_coalOf {l : Launch} {D : va_G} {cy : Nat → ClassId} {ad : Nat → Nat} {I : Nat → Int32} {A : Nat → Nat → Int32} {a1 : Int32} {P : Int32 → Prop} (hw : g_Mo_coalOf A a1 P) : ∀ sz, Met l y_Mo_coalOf (WL y_Mo_coalOf c_Mo_coalOf 4 (some .int)) { frames := 0, cells := 0, slots := 0, locals := 0 } (va_Pc [.ref (ad 0), .int a1] (PreW D cy (wM cy ad I A) sz)) (vp_Si P) 0 0 (fun _ => False) := by
  refine met_p R_Mo .int db_Mo_coalOf (by decide) rfl rfl (Nat.le_of_ble_eq_true rfl) ?_
  intro p e s m below meth c Z Q ls C h hl hret
  have hl : lv_has ls 4 [(0, .ref (ad 0)), (1, .int a1)] := hl
  refine i_iconst (v := (0 : Int32)) (n := 1) C 0 rfl rfl rfl ?_
  refine i_istore_n (lv' := [(2, .int (0 : Int32)), (0, .ref (ad 0)), (1, .int a1)]) (n := 2) C 1 rfl rfl rfl hl (by decide) rfl (fun ls hl => ?_)
  refine i_iconst (v := (0 : Int32)) (n := 3) C 2 rfl rfl rfl ?_
  refine i_istore_n (lv' := [(3, .int (0 : Int32)), (2, .int (0 : Int32)), (0, .ref (ad 0)), (1, .int a1)]) (n := 4) C 3 rfl rfl rfl hl (by decide) rfl (fun ls hl => ?_)
  obtain ⟨n3, hw⟩ := hw
  refine e_Mo_coalOf_4 C h hret (fun x2_3 ls hl hw => ?_) n3 (0 : Int32) (0 : Int32) ls (lv_sub hl [2, 3, 1, 0] rfl) hw
  have hl : lv_has ls 4 [(2, .int x2_3)] := hl
  refine i_iload_n (n := 31) C 22 rfl rfl rfl hl 0 rfl ?_
  exact hret _ _ _ rfl hw (C.dg (k := 23) rfl)
end S240
theorem kV_Mo_254 {R : Room} {s : State} {args : Array Value} (hR : 0 + 1 ≤ R.frames ∧ 8 + (7 + 11) + 0 ≤ R.locals) (ht : ∀ w ∈ GW, w.before args s = true) : CallW R s args R_Mo R_Mo 254 y_Mo_after c_Mo_after 7 (some .int) (WL y_Mo_after c_Mo_after 7 (some .int)) { frames := 0, cells := 0, slots := 0, locals := 0 } 0 0 4 := cwV 4 ht (GW_v w_7_44 w_7_46 w_0_50 w_1_7 (GW_wl w_7_47)) rfl rfl rfl (by decide +kernel) hR
theorem kV_Mo_258 {R : Room} {s : State} {args : Array Value} (hR : 0 + 1 ≤ R.frames ∧ 8 + (4 + 11) + 0 ≤ R.locals) (ht : ∀ w ∈ GW, w.before args s = true) : CallW R s args R_Mo R_Mo 258 y_Mo_coalOf c_Mo_coalOf 4 (some .int) (WL y_Mo_coalOf c_Mo_coalOf 4 (some .int)) { frames := 0, cells := 0, slots := 0, locals := 0 } 0 0 1 := cwV 1 ht (GW_v w_7_48 w_7_50 w_0_51 w_1_7 (GW_wl w_7_51)) rfl rfl rfl (by decide +kernel) hR
theorem kS_Mo_261 {R : Room} {s : State} {args : Array Value} (hR : 0 + 1 ≤ R.frames ∧ 8 + (3 + 11) + 0 ≤ R.locals) (ht : ∀ w ∈ GW, w.before args s = true) : CallB R s args R_Mo 261 y_Mo_at c_Mo_at 3 (some .int) (WL y_Mo_at c_Mo_at 3 (some .int)) { frames := 0, cells := 0, slots := 0, locals := 0 } 0 0 3 ∧ (Cond.static y_Mo_at).before args s = true := cwS 3 ht (GW_s w_7_52 w_7_53 w_1_7 (GW_wl w_7_54)) rfl rfl rfl (by decide +kernel) hR
section S241
variable {p : Program} {l : Launch} {e : Env} {R : Room} {s : State} {m : MethodId} {args : Array Value} {below : List Frame} {meth : Method} {c : Code} {H : Heap} {locs : List Loc} {cells slots : Nat} {Q : State → Prop}
variable {cc : ByteArray} {pc n nL : Nat} {ls : Array Slot} {rest : List Value} {D : va_G} {cy : Nat → ClassId} {Z : Nat → Prop} {ad : Nat → Nat} {tb : List (Nat × Instr × Nat)} {lv : List (Nat × Value)}
set_option maxHeartbeats 4000000 in
set_option maxRecDepth 100000 in
theorem e_Mo_layLeast_2 {I : Nat → Int32}  {P : ((Nat → Nat → Int32)) → Prop} {kx2 : (Nat → Nat → Int32) → Prop} (C : CX D cy R_Mo c_Mo_layLeast tb_Mo_layLeast 7 p s m args c Z) (hret : RetV p l e { frames := 1, cells := 0, slots := 0, locals := 26 } s m args below meth c c_Mo_layLeast D Z Q (fun (u : (Nat → Nat → Int32)) => wM cy ad I u) P 0 0)
    (hx2 : ∀ (A : Nat → Nat → Int32) (ls : Array Slot) (H : Heap) (locs : List Loc), lv_has ls 7 [(0, .ref (ad 0))] → HXw D Z s.heap H locs (wM cy ad I A) → kx2 A → W p l e { frames := 1, cells := 0, slots := 0, locals := 26 } s m args below meth c H locs 0 0 Q (F0 m 31 ls [])) :
    ∀ (n : Nat) (A : Nat → Nat → Int32) (x1 : Int32) (ls : Array Slot) (H : Heap) (locs : List Loc), lv_has ls 7 [(0, .ref (ad 0)), (1, .int x1)] → HXw D Z s.heap H locs (wM cy ad I A) → g_Mo_layLeast_2 I P kx2 n A x1 → W p l e { frames := 1, cells := 0, slots := 0, locals := 26 } s m args below meth c H locs 0 0 Q (F0 m 2 ls []) := by
  intro n
  induction n with
  | zero => intro A x1 ls H locs hl h hw; exact hw.elim
  | succ n ih =>
    intro A x1 ls H locs hl h hw
    refine i_iload_n (n := 3) C 2 rfl rfl rfl hl 1 rfl ?_
    refine i_sipush (v := (1608 : Int32)) (n := 6) C 3 rfl rfl rfl ?_
    refine i_icmp_ge (tgt := 31) (n := 9) C 4 rfl rfl rfl (fun c1 => ?_) (fun c1 => ?_)
    · replace hw := hw.1 c1
      exact hx2 A ls _ _ (lv_sub hl [0] rfl) h hw
    · replace hw := hw.2 c1
      refine i_aload_n (n := 10) C 5 rfl rfl rfl hl 0 rfl ?_
      refine fgM_Mo_119 (n := 13) C 6 rfl rfl h ?_
      refine i_sipush (v := (1608 : Int32)) (n := 16) C 7 rfl rfl rfl ?_
      refine i_aload_n (n := 17) C 8 rfl rfl rfl hl 0 rfl ?_
      refine fgM_Mo_218 (n := 20) C 9 rfl rfl h ?_
      refine i_imul (n := 21) C 10 rfl rfl ?_
      refine i_iload_n (n := 22) C 11 rfl rfl rfl hl 1 rfl ?_
      refine i_iadd (n := 23) C 12 rfl rfl ?_
      refine i_iconst (v := (0 : Int32)) (n := 24) C 13 rfl rfl rfl ?_
      obtain ⟨hb, hw⟩ := hw
      refine i_iast (n := 25) C 14 rfl rfl h (wM_arr 36 (by decide) rfl) hb (wM_sA 36 (by decide) rfl _ _) (fun H locs h => ?_)
      refine i_iinc (v := x1 + (1 : Int32)) (lv' := [(1, .int (x1 + (1 : Int32))), (0, .ref (ad 0))]) (n := 28) C 15 rfl rfl hl 1 rfl rfl (by decide) rfl (fun ls hl => ?_)
      refine i_goto (tgt := 2) C 16 rfl rfl ?_
      exact ih (sA A 36 (((1608 : Int32) * (I 11)) + x1) (0 : Int32)) (x1 + (1 : Int32)) ls _ _ (lv_sub hl [1, 0] rfl) h hw
set_option maxHeartbeats 4000000 in
set_option maxRecDepth 100000 in
theorem e_Mo_layLeast_127 {I : Nat → Int32}  {P : ((Nat → Nat → Int32)) → Prop} {kb57 : (Nat → Nat → Int32) → Int32 → Int32 → Int32 → Int32 → Prop} (C : CX D cy R_Mo c_Mo_layLeast tb_Mo_layLeast 7 p s m args c Z) (hret : RetV p l e { frames := 1, cells := 0, slots := 0, locals := 26 } s m args below meth c c_Mo_layLeast D Z Q (fun (u : (Nat → Nat → Int32)) => wM cy ad I u) P 0 0)
    (hb57 : ∀ (A : Nat → Nat → Int32) (x1 : Int32) (x2 : Int32) (x3 : Int32) (x4 : Int32) (ls : Array Slot) (H : Heap) (locs : List Loc), lv_has ls 7 [(0, .ref (ad 0)), (1, .int x1), (2, .int x2), (3, .int x3), (4, .int x4)] → HXw D Z s.heap H locs (wM cy ad I A) → kb57 A x1 x2 x3 x4 → W p l e { frames := 1, cells := 0, slots := 0, locals := 26 } s m args below meth c H locs 0 0 Q (F0 m 57 ls [])) :
    ∀ (A : Nat → Nat → Int32) (x1 : Int32) (x2 : Int32) (x4 : Int32) (s0 : Int32) (ls : Array Slot) (H : Heap) (locs : List Loc), lv_has ls 7 [(0, .ref (ad 0)), (1, .int x1), (2, .int x2), (4, .int x4)] → HXw D Z s.heap H locs (wM cy ad I A) → g_Mo_layLeast_127 I P kb57 A x1 x2 x4 s0 → W p l e { frames := 1, cells := 0, slots := 0, locals := 26 } s m args below meth c H locs 0 0 Q (F0 m 127 ls [.int s0]) := by
  intro A x1 x2 x4 s0 ls H locs hl h hw
  refine i_istore_n (lv' := [(3, .int s0), (0, .ref (ad 0)), (1, .int x1), (2, .int x2), (4, .int x4)]) (n := 128) C 71 rfl rfl rfl hl (by decide) rfl (fun ls hl => ?_)
  refine i_iinc (v := x4 + (1 : Int32)) (lv' := [(4, .int (x4 + (1 : Int32))), (3, .int s0), (0, .ref (ad 0)), (1, .int x1), (2, .int x2)]) (n := 131) C 72 rfl rfl hl 4 rfl rfl (by decide) rfl (fun ls hl => ?_)
  refine i_goto (tgt := 57) C 73 rfl rfl ?_
  exact hb57 A x1 x2 s0 (x4 + (1 : Int32)) ls _ _ (lv_sub hl [2, 3, 4, 1, 0] rfl) h hw
set_option maxHeartbeats 4000000 in
set_option maxRecDepth 100000 in
theorem e_Mo_layLeast_113 {I : Nat → Int32}  {P : ((Nat → Nat → Int32)) → Prop} {kb57 : (Nat → Nat → Int32) → Int32 → Int32 → Int32 → Int32 → Prop} (C : CX D cy R_Mo c_Mo_layLeast tb_Mo_layLeast 7 p s m args c Z) (hret : RetV p l e { frames := 1, cells := 0, slots := 0, locals := 26 } s m args below meth c c_Mo_layLeast D Z Q (fun (u : (Nat → Nat → Int32)) => wM cy ad I u) P 0 0)
    (hb57 : ∀ (A : Nat → Nat → Int32) (x1 : Int32) (x2 : Int32) (x3 : Int32) (x4 : Int32) (ls : Array Slot) (H : Heap) (locs : List Loc), lv_has ls 7 [(0, .ref (ad 0)), (1, .int x1), (2, .int x2), (3, .int x3), (4, .int x4)] → HXw D Z s.heap H locs (wM cy ad I A) → kb57 A x1 x2 x3 x4 → W p l e { frames := 1, cells := 0, slots := 0, locals := 26 } s m args below meth c H locs 0 0 Q (F0 m 57 ls [])) :
    ∀ (A : Nat → Nat → Int32) (x1 : Int32) (x2 : Int32) (x3 : Int32) (x4 : Int32) (s0 : Int32) (ls : Array Slot) (H : Heap) (locs : List Loc), lv_has ls 7 [(0, .ref (ad 0)), (1, .int x1), (2, .int x2), (3, .int x3), (4, .int x4)] → HXw D Z s.heap H locs (wM cy ad I A) → g_Mo_layLeast_113 I P kb57 A x1 x2 x3 x4 s0 → W p l e { frames := 1, cells := 0, slots := 0, locals := 26 } s m args below meth c H locs 0 0 Q (F0 m 113 ls [.int s0]) := by
  intro A x1 x2 x3 x4 s0 ls H locs hl h hw
  refine i_istore (lv' := [(6, .int s0), (0, .ref (ad 0)), (1, .int x1), (2, .int x2), (3, .int x3), (4, .int x4)]) (n := 115) C 64 rfl rfl hl (by decide) rfl (fun ls hl => ?_)
  refine i_iload (n := 117) C 65 rfl rfl hl 0 rfl ?_
  refine i_iload_n (n := 118) C 66 rfl rfl rfl hl 4 rfl ?_
  refine i_icmp_ge (tgt := 126) (n := 121) C 67 rfl rfl rfl (fun c11 => ?_) (fun c11 => ?_)
  · replace hw := hw.1 c11
    refine i_iload_n (n := 127) C 70 rfl rfl rfl hl 4 rfl ?_
    exact e_Mo_layLeast_127 C hret hb57 A x1 x2 x4 x3 ls _ _ (lv_sub hl [1, 2, 3, 5] rfl) h hw
  · replace hw := hw.2 c11
    refine i_iload (n := 123) C 68 rfl rfl hl 0 rfl ?_
    refine i_goto (tgt := 127) C 69 rfl rfl ?_
    exact e_Mo_layLeast_127 C hret hb57 A x1 x2 x4 s0 ls _ _ (lv_sub hl [1, 2, 3, 5] rfl) h hw
set_option maxHeartbeats 4000000 in
set_option maxRecDepth 100000 in
theorem e_Mo_layLeast_57 {I : Nat → Int32}  {P : ((Nat → Nat → Int32)) → Prop} {kx57 : (Nat → Nat → Int32) → Int32 → Int32 → Int32 → Prop} (C : CX D cy R_Mo c_Mo_layLeast tb_Mo_layLeast 7 p s m args c Z) (hret : RetV p l e { frames := 1, cells := 0, slots := 0, locals := 26 } s m args below meth c c_Mo_layLeast D Z Q (fun (u : (Nat → Nat → Int32)) => wM cy ad I u) P 0 0)
    (hx57 : ∀ (A : Nat → Nat → Int32) (x1 : Int32) (x2 : Int32) (x3 : Int32) (ls : Array Slot) (H : Heap) (locs : List Loc), lv_has ls 7 [(0, .ref (ad 0)), (1, .int x1), (2, .int x2), (3, .int x3)] → HXw D Z s.heap H locs (wM cy ad I A) → kx57 A x1 x2 x3 → W p l e { frames := 1, cells := 0, slots := 0, locals := 26 } s m args below meth c H locs 0 0 Q (F0 m 134 ls [])) :
    ∀ (n : Nat) (A : Nat → Nat → Int32) (x1 : Int32) (x2 : Int32) (x3 : Int32) (x4 : Int32) (ls : Array Slot) (H : Heap) (locs : List Loc), lv_has ls 7 [(0, .ref (ad 0)), (1, .int x1), (2, .int x2), (3, .int x3), (4, .int x4)] → HXw D Z s.heap H locs (wM cy ad I A) → g_Mo_layLeast_57 I P kx57 n A x1 x2 x3 x4 → W p l e { frames := 1, cells := 0, slots := 0, locals := 26 } s m args below meth c H locs 0 0 Q (F0 m 57 ls []) := by
  intro n
  induction n with
  | zero => intro A x1 x2 x3 x4 ls H locs hl h hw; exact hw.elim
  | succ n ih =>
    intro A x1 x2 x3 x4 ls H locs hl h hw
    refine i_iload (n := 59) C 33 rfl rfl hl 4 rfl ?_
    refine i_bipush (v := (8 : Int32)) (n := 61) C 34 rfl rfl rfl ?_
    refine i_icmp_ge (tgt := 134) (n := 64) C 35 rfl rfl rfl (fun c6 => ?_) (fun c6 => ?_)
    · replace hw := hw.1 c6
      exact hx57 A x1 x2 x3 ls _ _ (lv_sub hl [0, 1, 2, 3] rfl) h hw
    · replace hw := hw.2 c6
      refine i_aload_n (n := 65) C 36 rfl rfl rfl hl 0 rfl ?_
      refine i_iload_n (n := 66) C 37 rfl rfl rfl hl 1 rfl ?_
      refine i_iload_n (n := 67) C 38 rfl rfl rfl hl 2 rfl ?_
      refine i_bipush (v := (8 : Int32)) (n := 69) C 39 rfl rfl rfl ?_
      refine i_idiv (n := 70) C 40 rfl rfl (by decide) ?_
      refine i_iload_n (n := 71) C 41 rfl rfl rfl hl 2 rfl ?_
      refine i_bipush (v := (8 : Int32)) (n := 73) C 42 rfl rfl rfl ?_
      refine i_irem (n := 74) C 43 rfl rfl (by decide) ?_
      refine i_iload (n := 76) C 44 rfl rfl hl 4 rfl ?_
      refine i_callVp (rest := []) (ci := 11) (qc := (R_Mo, T_Mo, 50)) (n := 79) C 45 rfl rfl hl h rfl (wM_get (h := 0) (by decide)) (kV_Mo_254 ⟨by decide, by decide⟩) (m_Mo_after hw) rfl rfl (Nat.le_of_ble_eq_true rfl) ⟨by decide, by decide⟩ (fun r7 hw => ?_)
      refine i_istore (lv' := [(5, .int r7), (0, .ref (ad 0)), (1, .int x1), (2, .int x2), (3, .int x3), (4, .int x4)]) (n := 81) C 46 rfl rfl hl (by decide) rfl (fun ls hl => ?_)
      refine i_iload (n := 83) C 47 rfl rfl hl 0 rfl ?_
      refine i_if_ge (tgt := 91) (n := 86) C 48 rfl rfl rfl (fun c8 => ?_) (fun c8 => ?_)
      · replace hw := hw.1 c8
        refine i_aload_n (n := 92) C 51 rfl rfl rfl hl 1 rfl ?_
        refine i_iload (n := 94) C 52 rfl rfl hl 5 rfl ?_
        refine i_callVp (rest := []) (ci := 11) (qc := (R_Mo, T_Mo, 50)) (n := 97) C 53 rfl rfl hl h rfl (wM_get (h := 0) (by decide)) (kV_Mo_258 ⟨by decide, by decide⟩) (m_Mo_coalOf hw) rfl rfl (Nat.le_of_ble_eq_true rfl) ⟨by decide, by decide⟩ (fun r9 hw => ?_)
        refine i_aload_n (n := 98) C 54 rfl rfl rfl hl 1 rfl ?_
        refine fgM_Mo_119 (n := 101) C 55 rfl rfl h ?_
        refine i_iload_n (n := 102) C 56 rfl rfl rfl hl 2 rfl ?_
        refine i_iconst (v := (1 : Int32)) (n := 103) C 57 rfl rfl rfl ?_
        refine i_iadd (n := 104) C 58 rfl rfl ?_
        refine i_iload (n := 106) C 59 rfl rfl hl 0 rfl ?_
        refine i_iload (n := 108) C 60 rfl rfl hl 5 rfl ?_
        refine i_callSp (rest := [.ref (ad 37), .int r9]) (n := 111) C 61 rfl rfl hl h (kS_Mo_261 ⟨by decide, by decide⟩) (m_Mo_at hw) rfl rfl (Nat.le_of_ble_eq_true rfl) ⟨by decide, by decide⟩ (fun r10 hw => ?_)
        obtain ⟨hb, hw⟩ := hw
        refine i_iald (n := 112) C 62 rfl rfl h (wM_arr 36 (by decide) rfl) hb ?_
        refine i_iadd (n := 113) C 63 rfl rfl ?_
        exact e_Mo_layLeast_113 C hret ih A x1 x2 x3 x4 (r9 + (A 36 r10.toNatClampNeg)) ls _ _ (lv_sub hl [1, 2, 3, 4, 5] rfl) h hw
      · replace hw := hw.2 c8
        refine i_ldc (n := 88) C 49 rfl rfl w_6_193 ?_
        refine i_goto (tgt := 113) C 50 rfl rfl ?_
        exact e_Mo_layLeast_113 C hret ih A x1 x2 x3 x4 (1000000 : Int32) ls _ _ (lv_sub hl [1, 2, 3, 4, 5] rfl) h hw
set_option maxHeartbeats 4000000 in
set_option maxRecDepth 100000 in
theorem e_Mo_layLeast_157 {I : Nat → Int32}  {P : ((Nat → Nat → Int32)) → Prop} {kb44 : (Nat → Nat → Int32) → Int32 → Int32 → Prop} (C : CX D cy R_Mo c_Mo_layLeast tb_Mo_layLeast 7 p s m args c Z) (hret : RetV p l e { frames := 1, cells := 0, slots := 0, locals := 26 } s m args below meth c c_Mo_layLeast D Z Q (fun (u : (Nat → Nat → Int32)) => wM cy ad I u) P 0 0)
    (hb44 : ∀ (A : Nat → Nat → Int32) (x1 : Int32) (x2 : Int32) (ls : Array Slot) (H : Heap) (locs : List Loc), lv_has ls 7 [(0, .ref (ad 0)), (1, .int x1), (2, .int x2)] → HXw D Z s.heap H locs (wM cy ad I A) → kb44 A x1 x2 → W p l e { frames := 1, cells := 0, slots := 0, locals := 26 } s m args below meth c H locs 0 0 Q (F0 m 44 ls [])) :
    ∀ (A : Nat → Nat → Int32) (x1 : Int32) (x2 : Int32) (s1 : Int32) (s2 : Int32) (ls : Array Slot) (H : Heap) (locs : List Loc), lv_has ls 7 [(0, .ref (ad 0)), (1, .int x1), (2, .int x2)] → HXw D Z s.heap H locs (wM cy ad I A) → g_Mo_layLeast_157 I P kb44 A x1 x2 s1 s2 → W p l e { frames := 1, cells := 0, slots := 0, locals := 26 } s m args below meth c H locs 0 0 Q (F0 m 157 ls [.int s2, .int s1, .ref (ad 37)]) := by
  intro A x1 x2 s1 s2 ls H locs hl h hw
  obtain ⟨hb, hw⟩ := hw
  refine i_iast (n := 158) C 87 rfl rfl h (wM_arr 36 (by decide) rfl) hb (wM_sA 36 (by decide) rfl _ _) (fun H locs h => ?_)
  refine i_iinc (v := x2 + (1 : Int32)) (lv' := [(2, .int (x2 + (1 : Int32))), (0, .ref (ad 0)), (1, .int x1)]) (n := 161) C 88 rfl rfl hl 2 rfl rfl (by decide) rfl (fun ls hl => ?_)
  refine i_goto (tgt := 44) C 89 rfl rfl ?_
  exact hb44 (sA A 36 s1 s2) x1 (x2 + (1 : Int32)) ls _ _ (lv_sub hl [1, 2, 0] rfl) h hw
set_option maxHeartbeats 4000000 in
set_option maxRecDepth 100000 in
theorem e_Mo_layLeast_44 {I : Nat → Int32}  {P : ((Nat → Nat → Int32)) → Prop} {kx44 : (Nat → Nat → Int32) → Int32 → Prop} (C : CX D cy R_Mo c_Mo_layLeast tb_Mo_layLeast 7 p s m args c Z) (hret : RetV p l e { frames := 1, cells := 0, slots := 0, locals := 26 } s m args below meth c c_Mo_layLeast D Z Q (fun (u : (Nat → Nat → Int32)) => wM cy ad I u) P 0 0)
    (hx44 : ∀ (A : Nat → Nat → Int32) (x1 : Int32) (ls : Array Slot) (H : Heap) (locs : List Loc), lv_has ls 7 [(0, .ref (ad 0)), (1, .int x1)] → HXw D Z s.heap H locs (wM cy ad I A) → kx44 A x1 → W p l e { frames := 1, cells := 0, slots := 0, locals := 26 } s m args below meth c H locs 0 0 Q (F0 m 164 ls [])) :
    ∀ (n : Nat) (A : Nat → Nat → Int32) (x1 : Int32) (x2 : Int32) (ls : Array Slot) (H : Heap) (locs : List Loc), lv_has ls 7 [(0, .ref (ad 0)), (1, .int x1), (2, .int x2)] → HXw D Z s.heap H locs (wM cy ad I A) → g_Mo_layLeast_44 I P kx44 n A x1 x2 → W p l e { frames := 1, cells := 0, slots := 0, locals := 26 } s m args below meth c H locs 0 0 Q (F0 m 44 ls []) := by
  intro n
  induction n with
  | zero => intro A x1 x2 ls H locs hl h hw; exact hw.elim
  | succ n ih =>
    intro A x1 x2 ls H locs hl h hw
    refine i_iload_n (n := 45) C 26 rfl rfl rfl hl 2 rfl ?_
    refine i_sipush (v := (1608 : Int32)) (n := 48) C 27 rfl rfl rfl ?_
    refine i_icmp_ge (tgt := 164) (n := 51) C 28 rfl rfl rfl (fun c5 => ?_) (fun c5 => ?_)
    · replace hw := hw.1 c5
      exact hx44 A x1 ls _ _ (lv_sub hl [0, 1] rfl) h hw
    · replace hw := hw.2 c5
      refine i_ldc (n := 53) C 29 rfl rfl w_6_193 ?_
      refine i_istore_n (lv' := [(3, .int (1000000 : Int32)), (0, .ref (ad 0)), (1, .int x1), (2, .int x2)]) (n := 54) C 30 rfl rfl rfl hl (by decide) rfl (fun ls hl => ?_)
      refine i_iconst (v := (0 : Int32)) (n := 55) C 31 rfl rfl rfl ?_
      refine i_istore (lv' := [(4, .int (0 : Int32)), (3, .int (1000000 : Int32)), (0, .ref (ad 0)), (1, .int x1), (2, .int x2)]) (n := 57) C 32 rfl rfl hl (by decide) rfl (fun ls hl => ?_)
      obtain ⟨n12, hw⟩ := hw
      refine e_Mo_layLeast_57 C hret (fun A_12 x1_12 x2_12 x3_12 ls H locs hl h hw => ?_) n12 A x1 x2 (1000000 : Int32) (0 : Int32) ls _ _ (lv_sub hl [2, 3, 4, 1, 0] rfl) h hw
      have hl : lv_has ls 7 [(0, .ref (ad 0)), (1, .int x1_12), (2, .int x2_12), (3, .int x3_12)] := hl
      refine i_aload_n (n := 135) C 74 rfl rfl rfl hl 0 rfl ?_
      refine fgM_Mo_119 (n := 138) C 75 rfl rfl h ?_
      refine i_sipush (v := (1608 : Int32)) (n := 141) C 76 rfl rfl rfl ?_
      refine i_iload_n (n := 142) C 77 rfl rfl rfl hl 1 rfl ?_
      refine i_imul (n := 143) C 78 rfl rfl ?_
      refine i_iload_n (n := 144) C 79 rfl rfl rfl hl 2 rfl ?_
      refine i_iadd (n := 145) C 80 rfl rfl ?_
      refine i_iload_n (n := 146) C 81 rfl rfl rfl hl 3 rfl ?_
      refine i_ldc (n := 148) C 82 rfl rfl w_6_193 ?_
      refine i_icmp_le (tgt := 156) (n := 151) C 83 rfl rfl rfl (fun c13 => ?_) (fun c13 => ?_)
      · replace hw := hw.1 c13
        refine i_iload_n (n := 157) C 86 rfl rfl rfl hl 3 rfl ?_
        exact e_Mo_layLeast_157 C hret ih A_12 x1_12 x2_12 (((1608 : Int32) * x1_12) + x2_12) x3_12 ls _ _ (lv_sub hl [0, 1, 2] rfl) h hw
      · replace hw := hw.2 c13
        refine i_ldc (n := 153) C 84 rfl rfl w_6_193 ?_
        refine i_goto (tgt := 157) C 85 rfl rfl ?_
        exact e_Mo_layLeast_157 C hret ih A_12 x1_12 x2_12 (((1608 : Int32) * x1_12) + x2_12) (1000000 : Int32) ls _ _ (lv_sub hl [0, 1, 2] rfl) h hw
set_option maxHeartbeats 4000000 in
set_option maxRecDepth 100000 in
theorem e_Mo_layLeast_38 {I : Nat → Int32}  {P : ((Nat → Nat → Int32)) → Prop} {kx38 : (Nat → Nat → Int32) → Prop} (C : CX D cy R_Mo c_Mo_layLeast tb_Mo_layLeast 7 p s m args c Z) (hret : RetV p l e { frames := 1, cells := 0, slots := 0, locals := 26 } s m args below meth c c_Mo_layLeast D Z Q (fun (u : (Nat → Nat → Int32)) => wM cy ad I u) P 0 0)
    (hx38 : ∀ (A : Nat → Nat → Int32) (ls : Array Slot) (H : Heap) (locs : List Loc), lv_has ls 7 [] → HXw D Z s.heap H locs (wM cy ad I A) → kx38 A → W p l e { frames := 1, cells := 0, slots := 0, locals := 26 } s m args below meth c H locs 0 0 Q (F0 m 170 ls [])) :
    ∀ (n : Nat) (A : Nat → Nat → Int32) (x1 : Int32) (ls : Array Slot) (H : Heap) (locs : List Loc), lv_has ls 7 [(0, .ref (ad 0)), (1, .int x1)] → HXw D Z s.heap H locs (wM cy ad I A) → g_Mo_layLeast_38 I P kx38 n A x1 → W p l e { frames := 1, cells := 0, slots := 0, locals := 26 } s m args below meth c H locs 0 0 Q (F0 m 38 ls []) := by
  intro n
  induction n with
  | zero => intro A x1 ls H locs hl h hw; exact hw.elim
  | succ n ih =>
    intro A x1 ls H locs hl h hw
    refine i_iload_n (n := 39) C 22 rfl rfl rfl hl 1 rfl ?_
    refine i_if_lt (tgt := 170) (n := 42) C 23 rfl rfl rfl (fun c4 => ?_) (fun c4 => ?_)
    · replace hw := hw.1 c4
      exact hx38 A ls _ _ (lv_sub hl [] rfl) h hw
    · replace hw := hw.2 c4
      refine i_iconst (v := (0 : Int32)) (n := 43) C 24 rfl rfl rfl ?_
      refine i_istore_n (lv' := [(2, .int (0 : Int32)), (0, .ref (ad 0)), (1, .int x1)]) (n := 44) C 25 rfl rfl rfl hl (by decide) rfl (fun ls hl => ?_)
      obtain ⟨n14, hw⟩ := hw
      refine e_Mo_layLeast_44 C hret (fun A_14 x1_14 ls H locs hl h hw => ?_) n14 A x1 (0 : Int32) ls _ _ (lv_sub hl [1, 2, 0] rfl) h hw
      have hl : lv_has ls 7 [(0, .ref (ad 0)), (1, .int x1_14)] := hl
      refine i_iinc (v := x1_14 + (-1 : Int32)) (lv' := [(1, .int (x1_14 + (-1 : Int32))), (0, .ref (ad 0))]) (n := 167) C 90 rfl rfl hl 1 rfl rfl (by decide) rfl (fun ls hl => ?_)
      refine i_goto (tgt := 38) C 91 rfl rfl ?_
      exact ih A_14 (x1_14 + (-1 : Int32)) ls _ _ (lv_sub hl [1, 0] rfl) h hw
set_option maxHeartbeats 4000000 in
set_option maxRecDepth 100000 in
theorem m_Mo_layLeast {l : Launch} {D : va_G} {cy : Nat → ClassId} {ad : Nat → Nat} {I : Nat → Int32} {A : Nat → Nat → Int32}  {P : ((Nat → Nat → Int32)) → Prop} (hw : g_Mo_layLeast I A P) : ∀ sz, Met l y_Mo_layLeast (WL y_Mo_layLeast c_Mo_layLeast 7 none) { frames := 1, cells := 0, slots := 0, locals := 26 } (va_Pc [.ref (ad 0)] (PreW D cy (wM cy ad I A) sz)) (va_Qv P (fun u t => PostW D (va_A (wM cy ad I A) sz) ((fun (u : (Nat → Nat → Int32)) => wM cy ad I u) u) t) (va_A (wM cy ad I A) sz)) 0 0 (va_A (wM cy ad I A) sz) := by
  refine met_v (wf := fun (u : (Nat → Nat → Int32)) => wM cy ad I u) R_Mo db_Mo_layLeast (by decide) rfl (Nat.le_of_ble_eq_true rfl) ?_
  intro p e s m below meth c Z Q ls hin C h hl hret
  have hl : lv_has ls 7 [(0, .ref (ad 0))] := hl
  refine i_iconst (v := (0 : Int32)) (n := 1) C 0 rfl rfl rfl ?_
  refine i_istore_n (lv' := [(1, .int (0 : Int32)), (0, .ref (ad 0))]) (n := 2) C 1 rfl rfl rfl hl (by decide) rfl (fun ls hl => ?_)
  obtain ⟨n2, hw⟩ := hw
  refine e_Mo_layLeast_2 C hret (fun A_2 ls H locs hl h hw => ?_) n2 A (0 : Int32) ls _ _ (lv_sub hl [1, 0] rfl) h hw
  have hl : lv_has ls 7 [(0, .ref (ad 0))] := hl
  refine i_aload_n (n := 32) C 17 rfl rfl rfl hl 0 rfl ?_
  refine fgM_Mo_218 (n := 35) C 18 rfl rfl h ?_
  refine i_iconst (v := (1 : Int32)) (n := 36) C 19 rfl rfl rfl ?_
  refine i_isub (n := 37) C 20 rfl rfl ?_
  refine lv_topi (fun y3 ey3 => ?_)
  replace hw := hw y3 ey3
  refine i_istore_n (lv' := [(1, .int y3), (0, .ref (ad 0))]) (n := 38) C 21 rfl rfl rfl hl (by decide) rfl (fun ls hl => ?_)
  obtain ⟨n15, hw⟩ := hw
  refine e_Mo_layLeast_38 C hret (fun A_15 ls H locs hl h hw => ?_) n15 A_2 y3 ls _ _ (lv_sub hl [1, 0] rfl) h hw
  have hl : lv_has ls 7 [] := hl
  exact hret A_15 _ _ _ _ hw h (C.dg (k := 92) rfl)
end S241
theorem kV_Mo_265 {R : Room} {s : State} {args : Array Value} (hR : 1 + 1 ≤ R.frames ∧ 8 + (7 + 11) + 26 ≤ R.locals) (ht : ∀ w ∈ GW, w.before args s = true) : CallW R s args R_Mo R_Mo 265 y_Mo_layLeast c_Mo_layLeast 7 none (WL y_Mo_layLeast c_Mo_layLeast 7 none) { frames := 1, cells := 0, slots := 0, locals := 26 } 0 0 0 := cwV 0 ht (GW_v w_7_40 w_7_42 w_0_49 w_1_7 (GW_wl w_7_43)) rfl rfl rfl (by decide +kernel) hR
section S242
variable {p : Program} {l : Launch} {e : Env} {R : Room} {s : State} {m : MethodId} {args : Array Value} {below : List Frame} {meth : Method} {c : Code} {H : Heap} {locs : List Loc} {cells slots : Nat} {Q : State → Prop}
variable {cc : ByteArray} {pc n nL : Nat} {ls : Array Slot} {rest : List Value} {D : va_G} {cy : Nat → ClassId} {Z : Nat → Prop} {ad : Nat → Nat} {tb : List (Nat × Instr × Nat)} {lv : List (Nat × Value)}
set_option maxHeartbeats 4000000 in
set_option maxRecDepth 100000 in
theorem e_Mo_best_158 {I : Nat → Int32} {a1 : Int32} {a2 : Int32} {P : Int32 → ((Nat → Nat → Int32)) → Prop} {kb77 : (Nat → Nat → Int32) → Int32 → Int32 → Int32 → Int32 → Int32 → Prop} (C : CX D cy R_Mo c_Mo_best tb_Mo_best 9 p s m args c Z) (hret : RetI p l e { frames := 2, cells := 0, slots := 0, locals := 52 } s m args below meth c c_Mo_best .int D Z Q (fun (u : (Nat → Nat → Int32)) => wM cy ad I u) P 0 0)
    (hb77 : ∀ (A : Nat → Nat → Int32) (x3 : Int32) (x4 : Int32) (x5 : Int32) (x6 : Int32) (x7 : Int32) (ls : Array Slot) (H : Heap) (locs : List Loc), lv_has ls 9 [(0, .ref (ad 0)), (2, .int a2), (3, .int x3), (4, .int x4), (5, .int x5), (6, .int x6), (7, .int x7)] → HXw D Z s.heap H locs (wM cy ad I A) → kb77 A x3 x4 x5 x6 x7 → W p l e { frames := 2, cells := 0, slots := 0, locals := 52 } s m args below meth c H locs 0 0 Q (F0 m 77 ls [])) :
    ∀ (A : Nat → Nat → Int32) (x3 : Int32) (x4 : Int32) (x5 : Int32) (x7 : Int32) (s0 : Int32) (s1 : Int32) (ls : Array Slot) (H : Heap) (locs : List Loc), lv_has ls 9 [(0, .ref (ad 0)), (2, .int a2), (3, .int x3), (4, .int x4), (5, .int x5), (7, .int x7)] → HXw D Z s.heap H locs (wM cy ad I A) → g_Mo_best_158 I a1 a2 P kb77 A x3 x4 x5 x7 s0 s1 → W p l e { frames := 2, cells := 0, slots := 0, locals := 52 } s m args below meth c H locs 0 0 Q (F0 m 158 ls [.int s1, .int s0]) := by
  intro A x3 x4 x5 x7 s0 s1 ls H locs hl h hw
  refine i_iadd (n := 159) C 87 rfl rfl ?_
  refine lv_topi (fun y12 ey12 => ?_)
  replace hw := hw y12 ey12
  refine i_istore (lv' := [(6, .int y12), (0, .ref (ad 0)), (2, .int a2), (3, .int x3), (4, .int x4), (5, .int x5), (7, .int x7)]) (n := 161) C 88 rfl rfl hl (by decide) rfl (fun ls hl => ?_)
  refine i_goto (tgt := 77) C 89 rfl rfl ?_
  exact hb77 A x3 x4 x5 y12 x7 ls _ _ (lv_sub hl [1, 2, 3, 4, 5, 0, 6] rfl) h hw
set_option maxHeartbeats 4000000 in
set_option maxRecDepth 100000 in
theorem e_Mo_best_144 {I : Nat → Int32} {a1 : Int32} {a2 : Int32} {P : Int32 → ((Nat → Nat → Int32)) → Prop} {kb77 : (Nat → Nat → Int32) → Int32 → Int32 → Int32 → Int32 → Int32 → Prop} (C : CX D cy R_Mo c_Mo_best tb_Mo_best 9 p s m args c Z) (hret : RetI p l e { frames := 2, cells := 0, slots := 0, locals := 52 } s m args below meth c c_Mo_best .int D Z Q (fun (u : (Nat → Nat → Int32)) => wM cy ad I u) P 0 0)
    (hb77 : ∀ (A : Nat → Nat → Int32) (x3 : Int32) (x4 : Int32) (x5 : Int32) (x6 : Int32) (x7 : Int32) (ls : Array Slot) (H : Heap) (locs : List Loc), lv_has ls 9 [(0, .ref (ad 0)), (2, .int a2), (3, .int x3), (4, .int x4), (5, .int x5), (6, .int x6), (7, .int x7)] → HXw D Z s.heap H locs (wM cy ad I A) → kb77 A x3 x4 x5 x6 x7 → W p l e { frames := 2, cells := 0, slots := 0, locals := 52 } s m args below meth c H locs 0 0 Q (F0 m 77 ls [])) :
    ∀ (A : Nat → Nat → Int32) (x3 : Int32) (x4 : Int32) (x5 : Int32) (x6 : Int32) (s0 : Int32) (ls : Array Slot) (H : Heap) (locs : List Loc), lv_has ls 9 [(0, .ref (ad 0)), (2, .int a2), (3, .int x3), (4, .int x4), (5, .int x5), (6, .int x6)] → HXw D Z s.heap H locs (wM cy ad I A) → g_Mo_best_144 I a1 a2 P kb77 A x3 x4 x5 x6 s0 → W p l e { frames := 2, cells := 0, slots := 0, locals := 52 } s m args below meth c H locs 0 0 Q (F0 m 144 ls [.int s0]) := by
  intro A x3 x4 x5 x6 s0 ls H locs hl h hw
  refine i_istore (lv' := [(7, .int s0), (0, .ref (ad 0)), (2, .int a2), (3, .int x3), (4, .int x4), (5, .int x5), (6, .int x6)]) (n := 146) C 80 rfl rfl hl (by decide) rfl (fun ls hl => ?_)
  refine i_iload (n := 148) C 81 rfl rfl hl 6 rfl ?_
  refine i_iload (n := 150) C 82 rfl rfl hl 0 rfl ?_
  refine i_if_eq (tgt := 157) (n := 153) C 83 rfl rfl rfl (fun c11 => ?_) (fun c11 => ?_)
  · replace hw := hw.1 c11
    refine i_iconst (v := (1 : Int32)) (n := 158) C 86 rfl rfl rfl ?_
    exact e_Mo_best_158 C hret hb77 A x3 x4 x5 s0 x6 (1 : Int32) ls _ _ (lv_sub hl [1, 2, 3, 4, 5, 0] rfl) h hw
  · replace hw := hw.2 c11
    refine i_iconst (v := (0 : Int32)) (n := 154) C 84 rfl rfl rfl ?_
    refine i_goto (tgt := 158) C 85 rfl rfl ?_
    exact e_Mo_best_158 C hret hb77 A x3 x4 x5 s0 x6 (0 : Int32) ls _ _ (lv_sub hl [1, 2, 3, 4, 5, 0] rfl) h hw
set_option maxHeartbeats 4000000 in
set_option maxRecDepth 100000 in
theorem e_Mo_best_143 {I : Nat → Int32} {a1 : Int32} {a2 : Int32} {P : Int32 → ((Nat → Nat → Int32)) → Prop} {kb77 : (Nat → Nat → Int32) → Int32 → Int32 → Int32 → Int32 → Int32 → Prop} (C : CX D cy R_Mo c_Mo_best tb_Mo_best 9 p s m args c Z) (hret : RetI p l e { frames := 2, cells := 0, slots := 0, locals := 52 } s m args below meth c c_Mo_best .int D Z Q (fun (u : (Nat → Nat → Int32)) => wM cy ad I u) P 0 0)
    (hb77 : ∀ (A : Nat → Nat → Int32) (x3 : Int32) (x4 : Int32) (x5 : Int32) (x6 : Int32) (x7 : Int32) (ls : Array Slot) (H : Heap) (locs : List Loc), lv_has ls 9 [(0, .ref (ad 0)), (2, .int a2), (3, .int x3), (4, .int x4), (5, .int x5), (6, .int x6), (7, .int x7)] → HXw D Z s.heap H locs (wM cy ad I A) → kb77 A x3 x4 x5 x6 x7 → W p l e { frames := 2, cells := 0, slots := 0, locals := 52 } s m args below meth c H locs 0 0 Q (F0 m 77 ls [])) :
    ∀ (A : Nat → Nat → Int32) (x3 : Int32) (x4 : Int32) (x5 : Int32) (x6 : Int32) (ls : Array Slot) (H : Heap) (locs : List Loc), lv_has ls 9 [(0, .ref (ad 0)), (2, .int a2), (3, .int x3), (4, .int x4), (5, .int x5), (6, .int x6)] → HXw D Z s.heap H locs (wM cy ad I A) → g_Mo_best_143 I a1 a2 P kb77 A x3 x4 x5 x6 → W p l e { frames := 2, cells := 0, slots := 0, locals := 52 } s m args below meth c H locs 0 0 Q (F0 m 143 ls []) := by
  intro A x3 x4 x5 x6 ls H locs hl h hw
  refine i_iconst (v := (0 : Int32)) (n := 144) C 79 rfl rfl rfl ?_
  exact e_Mo_best_144 C hret hb77 A x3 x4 x5 x6 (0 : Int32) ls _ _ hl h hw
set_option maxHeartbeats 4000000 in
set_option maxRecDepth 100000 in
theorem e_Mo_best_77 {I : Nat → Int32} {a1 : Int32} {a2 : Int32} {P : Int32 → ((Nat → Nat → Int32)) → Prop} {kx77 : (Nat → Nat → Int32) → Int32 → Int32 → Int32 → Int32 → Prop} (C : CX D cy R_Mo c_Mo_best tb_Mo_best 9 p s m args c Z) (hret : RetI p l e { frames := 2, cells := 0, slots := 0, locals := 52 } s m args below meth c c_Mo_best .int D Z Q (fun (u : (Nat → Nat → Int32)) => wM cy ad I u) P 0 0)
    (hx77 : ∀ (A : Nat → Nat → Int32) (x3 : Int32) (x4 : Int32) (x5 : Int32) (x6 : Int32) (ls : Array Slot) (H : Heap) (locs : List Loc), lv_has ls 9 [(0, .ref (ad 0)), (2, .int a2), (3, .int x3), (4, .int x4), (5, .int x5), (6, .int x6)] → HXw D Z s.heap H locs (wM cy ad I A) → kx77 A x3 x4 x5 x6 → W p l e { frames := 2, cells := 0, slots := 0, locals := 52 } s m args below meth c H locs 0 0 Q (F0 m 164 ls [])) :
    ∀ (n : Nat) (A : Nat → Nat → Int32) (x3 : Int32) (x4 : Int32) (x5 : Int32) (x6 : Int32) (x7 : Int32) (ls : Array Slot) (H : Heap) (locs : List Loc), lv_has ls 9 [(0, .ref (ad 0)), (2, .int a2), (3, .int x3), (4, .int x4), (5, .int x5), (6, .int x6), (7, .int x7)] → HXw D Z s.heap H locs (wM cy ad I A) → g_Mo_best_77 I a1 a2 P kx77 n A x3 x4 x5 x6 x7 → W p l e { frames := 2, cells := 0, slots := 0, locals := 52 } s m args below meth c H locs 0 0 Q (F0 m 77 ls []) := by
  intro n
  induction n with
  | zero => intro A x3 x4 x5 x6 x7 ls H locs hl h hw; exact hw.elim
  | succ n ih =>
    intro A x3 x4 x5 x6 x7 ls H locs hl h hw
    refine i_iload (n := 79) C 45 rfl rfl hl 6 rfl ?_
    refine i_if_ne (tgt := 164) (n := 82) C 46 rfl rfl rfl (fun c8 => ?_) (fun c8 => ?_)
    · replace hw := hw.1 c8
      exact hx77 A x3 x4 x5 x6 ls _ _ (lv_sub hl [0, 1, 2, 3, 4, 5] rfl) h hw
    · replace hw := hw.2 c8
      refine i_aload_n (n := 83) C 47 rfl rfl rfl hl 0 rfl ?_
      refine i_iload (n := 85) C 48 rfl rfl hl 4 rfl ?_
      refine i_iload_n (n := 86) C 49 rfl rfl rfl hl 2 rfl ?_
      refine i_iload (n := 88) C 50 rfl rfl hl 3 rfl ?_
      refine i_iload (n := 90) C 51 rfl rfl hl 5 rfl ?_
      refine i_callVp (rest := []) (ci := 11) (qc := (R_Mo, T_Mo, 50)) (n := 93) C 52 rfl rfl hl h rfl (wM_get (h := 0) (by decide)) (kV_Mo_254 ⟨by decide, by decide⟩) (m_Mo_after hw) rfl rfl (Nat.le_of_ble_eq_true rfl) ⟨by decide, by decide⟩ (fun r9 hw => ?_)
      refine i_istore (lv' := [(8, .int r9), (0, .ref (ad 0)), (2, .int a2), (3, .int x3), (4, .int x4), (5, .int x5), (6, .int x6), (7, .int x7)]) (n := 95) C 53 rfl rfl hl (by decide) rfl (fun ls hl => ?_)
      refine i_iload (n := 97) C 54 rfl rfl hl 0 rfl ?_
      refine i_if_lt (tgt := 143) (n := 100) C 55 rfl rfl rfl (fun c10 => ?_) (fun c10 => ?_)
      · replace hw := hw.1 c10
        exact e_Mo_best_143 C hret ih A x3 x4 x5 x6 ls _ _ (lv_sub hl [1, 2, 3, 4, 5, 6] rfl) h hw
      · replace hw := hw.2 c10
        refine i_aload_n (n := 101) C 56 rfl rfl rfl hl 1 rfl ?_
        refine i_iload (n := 103) C 57 rfl rfl hl 6 rfl ?_
        refine i_callVp (rest := []) (ci := 11) (qc := (R_Mo, T_Mo, 50)) (n := 106) C 58 rfl rfl hl h rfl (wM_get (h := 0) (by decide)) (kV_Mo_258 ⟨by decide, by decide⟩) (m_Mo_coalOf hw) rfl rfl (Nat.le_of_ble_eq_true rfl) ⟨by decide, by decide⟩ (fun r13 hw => ?_)
        refine i_aload_n (n := 107) C 59 rfl rfl rfl hl 1 rfl ?_
        refine fgM_Mo_119 (n := 110) C 60 rfl rfl h ?_
        refine i_iload (n := 112) C 61 rfl rfl hl 5 rfl ?_
        refine i_iconst (v := (1 : Int32)) (n := 113) C 62 rfl rfl rfl ?_
        refine i_iadd (n := 114) C 63 rfl rfl ?_
        refine i_iload (n := 116) C 64 rfl rfl hl 0 rfl ?_
        refine i_iload (n := 118) C 65 rfl rfl hl 6 rfl ?_
        refine i_callSp (rest := [.ref (ad 37), .int r13]) (n := 121) C 66 rfl rfl hl h (kS_Mo_261 ⟨by decide, by decide⟩) (m_Mo_at hw) rfl rfl (Nat.le_of_ble_eq_true rfl) ⟨by decide, by decide⟩ (fun r14 hw => ?_)
        obtain ⟨hb, hw⟩ := hw
        refine i_iald (n := 122) C 67 rfl rfl h (wM_arr 36 (by decide) rfl) hb ?_
        refine i_iadd (n := 123) C 68 rfl rfl ?_
        refine i_aload_n (n := 124) C 69 rfl rfl rfl hl 1 rfl ?_
        refine fgM_Mo_119 (n := 127) C 70 rfl rfl h ?_
        refine i_iload (n := 129) C 71 rfl rfl hl 5 rfl ?_
        refine i_iload_n (n := 130) C 72 rfl rfl rfl hl 3 rfl ?_
        refine i_iload (n := 132) C 73 rfl rfl hl 4 rfl ?_
        refine i_callSp (rest := [.ref (ad 37), .int (r13 + (A 36 r14.toNatClampNeg))]) (n := 135) C 74 rfl rfl hl h (kS_Mo_261 ⟨by decide, by decide⟩) (m_Mo_at hw) rfl rfl (Nat.le_of_ble_eq_true rfl) ⟨by decide, by decide⟩ (fun r15 hw => ?_)
        obtain ⟨hb, hw⟩ := hw
        refine i_iald (n := 136) C 75 rfl rfl h (wM_arr 36 (by decide) rfl) hb ?_
        refine i_icmp_ne (tgt := 143) (n := 139) C 76 rfl rfl rfl (fun c16 => ?_) (fun c16 => ?_)
        · replace hw := hw.1 c16
          exact e_Mo_best_143 C hret ih A x3 x4 x5 x6 ls _ _ (lv_sub hl [1, 2, 3, 4, 5, 6] rfl) h hw
        · replace hw := hw.2 c16
          refine i_iconst (v := (1 : Int32)) (n := 140) C 77 rfl rfl rfl ?_
          refine i_goto (tgt := 144) C 78 rfl rfl ?_
          exact e_Mo_best_144 C hret ih A x3 x4 x5 x6 (1 : Int32) ls _ _ (lv_sub hl [1, 2, 3, 4, 5, 6] rfl) h hw
set_option maxHeartbeats 4000000 in
set_option maxRecDepth 100000 in
theorem e_Mo_best_62 {I : Nat → Int32} {a1 : Int32} {a2 : Int32} {P : Int32 → ((Nat → Nat → Int32)) → Prop} {kx62 : (Nat → Nat → Int32) → Prop} (C : CX D cy R_Mo c_Mo_best tb_Mo_best 9 p s m args c Z) (hret : RetI p l e { frames := 2, cells := 0, slots := 0, locals := 52 } s m args below meth c c_Mo_best .int D Z Q (fun (u : (Nat → Nat → Int32)) => wM cy ad I u) P 0 0)
    (hx62 : ∀ (A : Nat → Nat → Int32) (ls : Array Slot) (H : Heap) (locs : List Loc), lv_has ls 9 [] → HXw D Z s.heap H locs (wM cy ad I A) → kx62 A → W p l e { frames := 2, cells := 0, slots := 0, locals := 52 } s m args below meth c H locs 0 0 Q (F0 m 195 ls [])) :
    ∀ (n : Nat) (A : Nat → Nat → Int32) (x3 : Int32) (x4 : Int32) (x5 : Int32) (ls : Array Slot) (H : Heap) (locs : List Loc), lv_has ls 9 [(0, .ref (ad 0)), (2, .int a2), (3, .int x3), (4, .int x4), (5, .int x5)] → HXw D Z s.heap H locs (wM cy ad I A) → g_Mo_best_62 I a1 a2 P kx62 n A x3 x4 x5 → W p l e { frames := 2, cells := 0, slots := 0, locals := 52 } s m args below meth c H locs 0 0 Q (F0 m 62 ls []) := by
  intro n
  induction n with
  | zero => intro A x3 x4 x5 ls H locs hl h hw; exact hw.elim
  | succ n ih =>
    intro A x3 x4 x5 ls H locs hl h hw
    refine i_iload (n := 64) C 37 rfl rfl hl 4 rfl ?_
    refine i_aload_n (n := 65) C 38 rfl rfl rfl hl 0 rfl ?_
    refine fgM_Mo_218 (n := 68) C 39 rfl rfl h ?_
    refine i_icmp_ge (tgt := 195) (n := 71) C 40 rfl rfl rfl (fun c7 => ?_) (fun c7 => ?_)
    · replace hw := hw.1 c7
      exact hx62 A ls _ _ (lv_sub hl [] rfl) h hw
    · replace hw := hw.2 c7
      refine i_iconst (v := (0 : Int32)) (n := 72) C 41 rfl rfl rfl ?_
      refine i_istore (lv' := [(6, .int (0 : Int32)), (0, .ref (ad 0)), (2, .int a2), (3, .int x3), (4, .int x4), (5, .int x5)]) (n := 74) C 42 rfl rfl hl (by decide) rfl (fun ls hl => ?_)
      refine i_iconst (v := (0 : Int32)) (n := 75) C 43 rfl rfl rfl ?_
      refine i_istore (lv' := [(7, .int (0 : Int32)), (6, .int (0 : Int32)), (0, .ref (ad 0)), (2, .int a2), (3, .int x3), (4, .int x4), (5, .int x5)]) (n := 77) C 44 rfl rfl hl (by decide) rfl (fun ls hl => ?_)
      obtain ⟨n17, hw⟩ := hw
      refine e_Mo_best_77 C hret (fun A_17 x3_17 x4_17 x5_17 x6_17 ls H locs hl h hw => ?_) n17 A x3 x4 x5 (0 : Int32) (0 : Int32) ls _ _ (lv_sub hl [2, 3, 4, 5, 6, 1, 0] rfl) h hw
      have hl : lv_has ls 9 [(0, .ref (ad 0)), (2, .int a2), (3, .int x3_17), (4, .int x4_17), (5, .int x5_17), (6, .int x6_17)] := hl
      refine i_iload (n := 166) C 90 rfl rfl hl 4 rfl ?_
      refine i_iload_n (n := 167) C 91 rfl rfl rfl hl 1 rfl ?_
      refine i_icmp_ne (tgt := 173) (n := 170) C 92 rfl rfl rfl (fun c18 => ?_) (fun c18 => ?_)
      · replace hw := hw.1 c18
        refine i_aload_n (n := 174) C 95 rfl rfl rfl hl 0 rfl ?_
        refine i_iload (n := 176) C 96 rfl rfl hl 4 rfl ?_
        refine i_iload_n (n := 177) C 97 rfl rfl rfl hl 2 rfl ?_
        refine i_iload (n := 179) C 98 rfl rfl hl 3 rfl ?_
        refine i_iload (n := 181) C 99 rfl rfl hl 5 rfl ?_
        refine i_callVp (rest := []) (ci := 11) (qc := (R_Mo, T_Mo, 50)) (n := 184) C 100 rfl rfl hl h rfl (wM_get (h := 0) (by decide)) (kV_Mo_254 ⟨by decide, by decide⟩) (m_Mo_after hw) rfl rfl (Nat.le_of_ble_eq_true rfl) ⟨by decide, by decide⟩ (fun r19 hw => ?_)
        refine i_istore_n (lv' := [(3, .int r19), (0, .ref (ad 0)), (2, .int a2), (4, .int x4_17), (5, .int x5_17), (6, .int x6_17)]) (n := 185) C 101 rfl rfl rfl hl (by decide) rfl (fun ls hl => ?_)
        refine i_iload (n := 187) C 102 rfl rfl hl 5 rfl ?_
        refine i_istore (lv' := [(4, .int x6_17), (3, .int r19), (0, .ref (ad 0)), (2, .int a2), (5, .int x5_17), (6, .int x6_17)]) (n := 189) C 103 rfl rfl hl (by decide) rfl (fun ls hl => ?_)
        refine i_iinc (v := x5_17 + (1 : Int32)) (lv' := [(5, .int (x5_17 + (1 : Int32))), (4, .int x6_17), (3, .int r19), (0, .ref (ad 0)), (2, .int a2), (6, .int x6_17)]) (n := 192) C 104 rfl rfl hl 4 rfl rfl (by decide) rfl (fun ls hl => ?_)
        refine i_goto (tgt := 62) C 105 rfl rfl ?_
        exact ih A_17 r19 x6_17 (x5_17 + (1 : Int32)) ls _ _ (lv_sub hl [3, 4, 2, 1, 0] rfl) h hw
      · replace hw := hw.2 c18
        refine i_iload (n := 172) C 93 rfl rfl hl 5 rfl ?_
        exact hret _ A_17 _ _ _ _ rfl hw h (C.dg (k := 94) rfl)
set_option maxHeartbeats 4000000 in
set_option maxRecDepth 100000 in
theorem m_Mo_best {l : Launch} {D : va_G} {cy : Nat → ClassId} {ad : Nat → Nat} {I : Nat → Int32} {A : Nat → Nat → Int32} {a1 : Int32} {a2 : Int32} {P : Int32 → ((Nat → Nat → Int32)) → Prop} (hw : g_Mo_best I A a1 a2 P) : ∀ sz, Met l y_Mo_best (WL y_Mo_best c_Mo_best 9 (some .int)) { frames := 2, cells := 0, slots := 0, locals := 52 } (va_Pc [.ref (ad 0), .int a1, .int a2] (PreW D cy (wM cy ad I A) sz)) (va_Qi P (fun u t => PostW D (va_A (wM cy ad I A) sz) ((fun (u : (Nat → Nat → Int32)) => wM cy ad I u) u) t) (va_A (wM cy ad I A) sz)) 0 0 (va_A (wM cy ad I A) sz) := by
  refine met_i (wf := fun (u : (Nat → Nat → Int32)) => wM cy ad I u) R_Mo .int db_Mo_best (by decide) rfl rfl (Nat.le_of_ble_eq_true rfl) ?_
  intro p e s m below meth c Z Q ls C h hl hret
  have hl : lv_has ls 9 [(0, .ref (ad 0)), (1, .int a1), (2, .int a2)] := hl
  refine i_iload_n (n := 1) C 0 rfl rfl rfl hl 1 rfl ?_
  refine i_iconst (v := (0 : Int32)) (n := 2) C 1 rfl rfl rfl ?_
  refine i_sipush (v := (200 : Int32)) (n := 5) C 2 rfl rfl rfl ?_
  refine i_callSp (rest := []) (n := 8) C 3 rfl rfl hl h (kS_Mo_126 ⟨by decide, by decide⟩) (m_Mo_in hw) rfl rfl (Nat.le_of_ble_eq_true rfl) ⟨by decide, by decide⟩ (fun r1 hw => ?_)
  refine i_if_ne (tgt := 14) (n := 11) C 4 rfl rfl rfl (fun c2 => ?_) (fun c2 => ?_)
  · replace hw := hw.1 c2
    refine i_aload_n (n := 15) C 7 rfl rfl rfl hl 0 rfl ?_
    refine i_callVv (rest := []) (ci := 11) (qc := (R_Mo, T_Mo, 50)) (n := 18) C 8 rfl rfl hl h rfl (wM_get (h := 0) (by decide)) (kV_Mo_265 ⟨by decide, by decide⟩) (m_Mo_layLeast hw) rfl rfl (Nat.le_of_ble_eq_true rfl) ⟨by decide, by decide⟩ (fun u3 H locs hw h => ?_)
    refine i_aload_n (n := 19) C 9 rfl rfl rfl hl 0 rfl ?_
    refine fgM_Mo_119 (n := 22) C 10 rfl rfl h ?_
    refine i_iconst (v := (0 : Int32)) (n := 23) C 11 rfl rfl rfl ?_
    refine i_iload_n (n := 24) C 12 rfl rfl rfl hl 1 rfl ?_
    refine i_iconst (v := (0 : Int32)) (n := 25) C 13 rfl rfl rfl ?_
    refine i_callSp (rest := [.ref (ad 37)]) (n := 28) C 14 rfl rfl hl h (kS_Mo_261 ⟨by decide, by decide⟩) (m_Mo_at hw) rfl rfl (Nat.le_of_ble_eq_true rfl) ⟨by decide, by decide⟩ (fun r4 hw => ?_)
    obtain ⟨hb, hw⟩ := hw
    refine i_iald (n := 29) C 15 rfl rfl h (wM_arr 36 (by decide) rfl) hb ?_
    refine i_ldc (n := 31) C 16 rfl rfl w_6_193 ?_
    refine i_icmp_lt (tgt := 37) (n := 34) C 17 rfl rfl rfl (fun c5 => ?_) (fun c5 => ?_)
    · replace hw := hw.1 c5
      refine i_iload_n (n := 38) C 20 rfl rfl rfl hl 2 rfl ?_
      refine i_iconst (v := (-1 : Int32)) (n := 39) C 21 rfl rfl rfl ?_
      refine i_icmp_ne (tgt := 54) (n := 42) C 22 rfl rfl rfl (fun c6 => ?_) (fun c6 => ?_)
      · replace hw := hw.1 c6
        refine i_iload_n (n := 55) C 31 rfl rfl rfl hl 1 rfl ?_
        refine i_istore_n (lv' := [(3, .int a1), (0, .ref (ad 0)), (1, .int a1), (2, .int a2)]) (n := 56) C 32 rfl rfl rfl hl (by decide) rfl (fun ls hl => ?_)
        refine i_iconst (v := (0 : Int32)) (n := 57) C 33 rfl rfl rfl ?_
        refine i_istore (lv' := [(4, .int (0 : Int32)), (3, .int a1), (0, .ref (ad 0)), (1, .int a1), (2, .int a2)]) (n := 59) C 34 rfl rfl hl (by decide) rfl (fun ls hl => ?_)
        refine i_iconst (v := (0 : Int32)) (n := 60) C 35 rfl rfl rfl ?_
        refine i_istore (lv' := [(5, .int (0 : Int32)), (4, .int (0 : Int32)), (3, .int a1), (0, .ref (ad 0)), (1, .int a1), (2, .int a2)]) (n := 62) C 36 rfl rfl hl (by decide) rfl (fun ls hl => ?_)
        obtain ⟨n20, hw⟩ := hw
        refine e_Mo_best_62 C hret (fun A_20 ls H locs hl h hw => ?_) n20 u3 a1 (0 : Int32) (0 : Int32) ls _ _ (lv_sub hl [3, 5, 2, 1, 0] rfl) h hw
        have hl : lv_has ls 9 [] := hl
        refine i_bipush (v := (-6 : Int32)) (n := 197) C 106 rfl rfl rfl ?_
        exact hret _ A_20 _ _ _ _ rfl hw h (C.dg (k := 107) rfl)
      · replace hw := hw.2 c6
        refine i_aload_n (n := 43) C 23 rfl rfl rfl hl 0 rfl ?_
        refine fgM_Mo_119 (n := 46) C 24 rfl rfl h ?_
        refine i_iconst (v := (0 : Int32)) (n := 47) C 25 rfl rfl rfl ?_
        refine i_iload_n (n := 48) C 26 rfl rfl rfl hl 1 rfl ?_
        refine i_iconst (v := (0 : Int32)) (n := 49) C 27 rfl rfl rfl ?_
        refine i_callSp (rest := [.ref (ad 37)]) (n := 52) C 28 rfl rfl hl h (kS_Mo_261 ⟨by decide, by decide⟩) (m_Mo_at hw) rfl rfl (Nat.le_of_ble_eq_true rfl) ⟨by decide, by decide⟩ (fun r21 hw => ?_)
        obtain ⟨hb, hw⟩ := hw
        refine i_iald (n := 53) C 29 rfl rfl h (wM_arr 36 (by decide) rfl) hb ?_
        exact hret _ u3 _ _ _ _ rfl hw h (C.dg (k := 30) rfl)
    · replace hw := hw.2 c5
      refine i_bipush (v := (-5 : Int32)) (n := 36) C 18 rfl rfl rfl ?_
      exact hret _ u3 _ _ _ _ rfl hw h (C.dg (k := 19) rfl)
  · replace hw := hw.2 c2
    refine i_bipush (v := (-2 : Int32)) (n := 13) C 5 rfl rfl rfl ?_
    exact hret _ A _ _ _ _ rfl hw h (C.dg (k := 6) rfl)
end S242
