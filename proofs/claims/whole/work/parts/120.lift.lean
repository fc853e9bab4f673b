section S228
variable {p : Program} {l : Launch} {e : Env} {R : Room} {s : State} {m : MethodId} {args : Array Value} {below : List Frame} {meth : Method} {c : Code} {H : Heap} {locs : List Loc} {cells slots : Nat} {Q : State → Prop}
variable {cc : ByteArray} {pc n nL : Nat} {ls : Array Slot} {rest : List Value} {D : va_G} {cy : Nat → ClassId} {Z : Nat → Prop} {ad : Nat → Nat} {tb : List (Nat × Instr × Nat)} {lv : List (Nat × Value)}
set_option maxHeartbeats 4000000 in
set_option maxRecDepth 100000 in
theorem m_Mo_why {l : Launch} {D : va_G} {cy : Nat → ClassId} {ad : Nat → Nat} {I : Nat → Int32} {A : Nat → Nat → Int32} {a1 : Int32} {P : Int32 → ((Nat → Int32) × (Nat → Nat → Int32)) → Prop} (hw : g_Mo_why I A a1 P) : ∀ sz, Met l y_Mo_why (WL y_Mo_why c_Mo_why 2 (some .int)) { frames := 3, cells := 0, slots := 0, locals := 78 } (va_Pc [.ref (ad 0), .int a1] (PreW D cy (wM cy ad I A) sz)) (va_Qi P (fun u t => PostW D (va_A (wM cy ad I A) sz) ((fun (u : (Nat → Int32) × (Nat → Nat → Int32)) => wM cy ad u.1 u.2) u) t) (va_A (wM cy ad I A) sz)) 0 0 (va_A (wM cy ad I A) sz) := by
  refine met_i (wf := fun (u : (Nat → Int32) × (Nat → Nat → Int32)) => wM cy ad u.1 u.2) R_Mo .int db_Mo_why (by decide) rfl rfl (Nat.le_of_ble_eq_true rfl) ?_
  intro p e s m below meth c Z Q ls C h hl hret
  have hl : lv_has ls 2 [(0, .ref (ad 0)), (1, .int a1)] := hl
  refine i_iload_n (n := 1) C 0 rfl rfl rfl hl 1 rfl ?_
  refine i_iconst (v := (0 : Int32)) (n := 2) C 1 rfl rfl rfl ?_
  refine i_aload_n (n := 3) C 2 rfl rfl rfl hl 0 rfl ?_
  refine fgM_Mo_215 (n := 6) C 3 rfl rfl h ?_
  refine i_iconst (v := (1 : Int32)) (n := 7) C 4 rfl rfl rfl ?_
  refine i_isub (n := 8) C 5 rfl rfl ?_
  refine i_callSp (rest := []) (n := 11) C 6 rfl rfl hl h (kS_Mo_126 ⟨by decide, by decide⟩) (m_Mo_in hw) rfl rfl (Nat.le_of_ble_eq_true rfl) ⟨by decide, by decide⟩ (fun r1 hw => ?_)
  refine i_if_eq (tgt := 23) (n := 14) C 7 rfl rfl rfl (fun c2 => ?_) (fun c2 => ?_)
  · replace hw := hw.1 c2
    refine i_iconst (v := (-1 : Int32)) (n := 24) C 13 rfl rfl rfl ?_
    exact hret _ (I, A) _ _ _ _ rfl hw h (C.dg (k := 14) rfl)
  · replace hw := hw.2 c2
    refine i_aload_n (n := 15) C 8 rfl rfl rfl hl 0 rfl ?_
    refine i_iload_n (n := 16) C 9 rfl rfl rfl hl 1 rfl ?_
    refine i_iconst (v := (0 : Int32)) (n := 17) C 10 rfl rfl rfl ?_
    refine i_callVi (rest := []) (ci := 11) (qc := (R_Mo, T_Mo, 50)) (n := 20) C 11 rfl rfl hl h rfl (wM_get (h := 0) (by decide)) (kV_Mo_241 ⟨by decide, by decide⟩) (m_Mo_goThrough hw) rfl rfl (Nat.le_of_ble_eq_true rfl) ⟨by decide, by decide⟩ (fun r3 u4 H locs hw h => ?_)
    refine i_goto (tgt := 24) C 12 rfl rfl ?_
    exact hret _ (u4.1, u4.2) _ _ _ _ rfl hw h (C.dg (k := 14) rfl)
end S228
section S229
variable {p : Program} {l : Launch} {e : Env} {R : Room} {s : State} {m : MethodId} {args : Array Value} {below : List Frame} {meth : Method} {c : Code} {H : Heap} {locs : List Loc} {cells slots : Nat} {Q : State → Prop}
variable {cc : ByteArray} {pc n nL : Nat} {ls : Array Slot} {rest : List Value} {D : va_G} {cy : Nat → ClassId} {Z : Nat → Prop} {ad : Nat → Nat} {tb : List (Nat × Instr × Nat)} {lv : List (Nat × Value)}
set_option maxHeartbeats 4000000 in
set_option maxRecDepth 100000 in
theorem e_Mo_joined_28 {I : Nat → Int32} {A : Nat → Nat → Int32} {a1 : Int32} {P : Int32 → Prop} {kb4 : Int32 → Int32 → Prop} (C : CX D cy R_Mo c_Mo_joined tb_Mo_joined 9 p s m args c Z) (h : HXw D Z s.heap H locs (wM cy ad I A)) (hret : RetP p l e { frames := 2, cells := 0, slots := 0, locals := 44 } s m args below meth c c_Mo_joined .int H locs Q P)
    (hb4 : ∀ (x2 : Int32) (x3 : Int32) (ls : Array Slot), lv_has ls 9 [(0, .ref (ad 0)), (1, .int a1), (2, .int x2), (3, .int x3)] → kb4 x2 x3 → W p l e { frames := 2, cells := 0, slots := 0, locals := 44 } s m args below meth c H locs 0 0 Q (F0 m 4 ls [])) :
    ∀ (x3 : Int32) (s0 : Int32) (s1 : Int32) (ls : Array Slot), lv_has ls 9 [(0, .ref (ad 0)), (1, .int a1), (3, .int x3)] → g_Mo_joined_28 I A a1 P kb4 x3 s0 s1 → W p l e { frames := 2, cells := 0, slots := 0, locals := 44 } s m args below meth c H locs 0 0 Q (F0 m 28 ls [.int s1, .int s0]) := by
  intro x3 s0 s1 ls hl hw
  refine i_ior (n := 29) C 18 rfl rfl ?_
  refine lv_topi (fun y4 ey4 => ?_)
  replace hw := hw y4 ey4
  refine i_istore_n (lv' := [(2, .int y4), (0, .ref (ad 0)), (1, .int a1), (3, .int x3)]) (n := 30) C 19 rfl rfl rfl hl (by decide) rfl (fun ls hl => ?_)
  refine i_iinc (v := x3 + (1 : Int32)) (lv' := [(3, .int (x3 + (1 : Int32))), (2, .int y4), (0, .ref (ad 0)), (1, .int a1)]) (n := 33) C 20 rfl rfl hl 3 rfl rfl (by decide) rfl (fun ls hl => ?_)
  refine i_goto (tgt := 4) C 21 rfl rfl ?_
  exact hb4 y4 (x3 + (1 : Int32)) ls (lv_sub hl [2, 3, 1, 0] rfl) hw
set_option maxHeartbeats 4000000 in
set_option maxRecDepth 100000 in
theorem e_Mo_joined_4 {I : Nat → Int32} {A : Nat → Nat → Int32} {a1 : Int32} {P : Int32 → Prop} {kx4 : Int32 → Prop} (C : CX D cy R_Mo c_Mo_joined tb_Mo_joined 9 p s m args c Z) (h : HXw D Z s.heap H locs (wM cy ad I A)) (hret : RetP p l e { frames := 2, cells := 0, slots := 0, locals := 44 } s m args below meth c c_Mo_joined .int H locs Q P)
    (hx4 : ∀ (x2 : Int32) (ls : Array Slot), lv_has ls 9 [(0, .ref (ad 0)), (1, .int a1), (2, .int x2)] → kx4 x2 → W p l e { frames := 2, cells := 0, slots := 0, locals := 44 } s m args below meth c H locs 0 0 Q (F0 m 36 ls [])) :
    ∀ (n : Nat) (x2 : Int32) (x3 : Int32) (ls : Array Slot), lv_has ls 9 [(0, .ref (ad 0)), (1, .int a1), (2, .int x2), (3, .int x3)] → g_Mo_joined_4 I A a1 P kx4 n x2 x3 → W p l e { frames := 2, cells := 0, slots := 0, locals := 44 } s m args below meth c H locs 0 0 Q (F0 m 4 ls []) := by
  intro n
  induction n with
  | zero => intro x2 x3 ls hl hw; exact hw.elim
  | succ n ih =>
    intro x2 x3 ls hl hw
    refine i_iload_n (n := 5) C 4 rfl rfl rfl hl 3 rfl ?_
    refine i_aload_n (n := 6) C 5 rfl rfl rfl hl 0 rfl ?_
    refine fgM_Mo_122 (n := 9) C 6 rfl rfl h ?_
    refine i_icmp_ge (tgt := 36) (n := 12) C 7 rfl rfl rfl (fun c1 => ?_) (fun c1 => ?_)
    · replace hw := hw.1 c1
      exact hx4 x2 ls (lv_sub hl [0, 1, 2] rfl) hw
    · replace hw := hw.2 c1
      refine i_iload_n (n := 13) C 8 rfl rfl rfl hl 2 rfl ?_
      refine i_aload_n (n := 14) C 9 rfl rfl rfl hl 0 rfl ?_
      refine i_iload_n (n := 15) C 10 rfl rfl rfl hl 3 rfl ?_
      refine i_callVp (rest := [.int x2]) (ci := 11) (qc := (R_Mo, T_Mo, 50)) (n := 18) C 11 rfl rfl hl h rfl (wM_get (h := 0) (by decide)) (kV_Mo_174 ⟨by decide, by decide⟩) (m_Mo_isSource hw) rfl rfl (Nat.le_of_ble_eq_true rfl) ⟨by decide, by decide⟩ (fun r2 hw => ?_)
      refine i_if_eq (tgt := 27) (n := 21) C 12 rfl rfl rfl (fun c3 => ?_) (fun c3 => ?_)
      · replace hw := hw.1 c3
        refine i_iconst (v := (0 : Int32)) (n := 28) C 17 rfl rfl rfl ?_
        exact e_Mo_joined_28 C h hret ih x3 x2 (0 : Int32) ls (lv_sub hl [0, 1, 3] rfl) hw
      · replace hw := hw.2 c3
        refine i_iconst (v := (1 : Int32)) (n := 22) C 13 rfl rfl rfl ?_
        refine i_iload_n (n := 23) C 14 rfl rfl rfl hl 3 rfl ?_
        refine i_ishl (n := 24) C 15 rfl rfl ?_
        refine i_goto (tgt := 28) C 16 rfl rfl ?_
        exact e_Mo_joined_28 C h hret ih x3 x2 ((1 : Int32) <<< (x3 &&& 31)) ls (lv_sub hl [0, 1, 3] rfl) hw
set_option maxHeartbeats 4000000 in
set_option maxRecDepth 100000 in
theorem e_Mo_joined_160 {I : Nat → Int32} {A : Nat → Nat → Int32} {a1 : Int32} {P : Int32 → Prop} {kb49 : Int32 → Int32 → Int32 → Prop} (C : CX D cy R_Mo c_Mo_joined tb_Mo_joined 9 p s m args c Z) (h : HXw D Z s.heap H locs (wM cy ad I A)) (hret : RetP p l e { frames := 2, cells := 0, slots := 0, locals := 44 } s m args below meth c c_Mo_joined .int H locs Q P)
    (hb49 : ∀ (x2 : Int32) (x3 : Int32) (x4 : Int32) (ls : Array Slot), lv_has ls 9 [(0, .ref (ad 0)), (1, .int a1), (2, .int x2), (3, .int x3), (4, .int x4)] → kb49 x2 x3 x4 → W p l e { frames := 2, cells := 0, slots := 0, locals := 44 } s m args below meth c H locs 0 0 Q (F0 m 49 ls [])) :
    ∀ (x3 : Int32) (x4 : Int32) (s0 : Int32) (s1 : Int32) (ls : Array Slot), lv_has ls 9 [(0, .ref (ad 0)), (1, .int a1), (3, .int x3), (4, .int x4)] → g_Mo_joined_160 I A a1 P kb49 x3 x4 s0 s1 → W p l e { frames := 2, cells := 0, slots := 0, locals := 44 } s m args below meth c H locs 0 0 Q (F0 m 160 ls [.int s1, .int s0]) := by
  intro x3 x4 s0 s1 ls hl hw
  refine i_ior (n := 161) C 95 rfl rfl ?_
  refine lv_topi (fun y14 ey14 => ?_)
  replace hw := hw y14 ey14
  refine i_istore_n (lv' := [(2, .int y14), (0, .ref (ad 0)), (1, .int a1), (3, .int x3), (4, .int x4)]) (n := 162) C 96 rfl rfl rfl hl (by decide) rfl (fun ls hl => ?_)
  refine i_iinc (v := x4 + (1 : Int32)) (lv' := [(4, .int (x4 + (1 : Int32))), (2, .int y14), (0, .ref (ad 0)), (1, .int a1), (3, .int x3)]) (n := 165) C 97 rfl rfl hl 4 rfl rfl (by decide) rfl (fun ls hl => ?_)
  refine i_goto (tgt := 49) C 98 rfl rfl ?_
  exact hb49 y14 x3 (x4 + (1 : Int32)) ls (lv_sub hl [2, 3, 1, 4, 0] rfl) hw
set_option maxHeartbeats 4000000 in
set_option maxRecDepth 100000 in
theorem e_Mo_joined_159 {I : Nat → Int32} {A : Nat → Nat → Int32} {a1 : Int32} {P : Int32 → Prop} {kb49 : Int32 → Int32 → Int32 → Prop} (C : CX D cy R_Mo c_Mo_joined tb_Mo_joined 9 p s m args c Z) (h : HXw D Z s.heap H locs (wM cy ad I A)) (hret : RetP p l e { frames := 2, cells := 0, slots := 0, locals := 44 } s m args below meth c c_Mo_joined .int H locs Q P)
    (hb49 : ∀ (x2 : Int32) (x3 : Int32) (x4 : Int32) (ls : Array Slot), lv_has ls 9 [(0, .ref (ad 0)), (1, .int a1), (2, .int x2), (3, .int x3), (4, .int x4)] → kb49 x2 x3 x4 → W p l e { frames := 2, cells := 0, slots := 0, locals := 44 } s m args below meth c H locs 0 0 Q (F0 m 49 ls [])) :
    ∀ (x3 : Int32) (x4 : Int32) (s0 : Int32) (ls : Array Slot), lv_has ls 9 [(0, .ref (ad 0)), (1, .int a1), (3, .int x3), (4, .int x4)] → g_Mo_joined_159 I A a1 P kb49 x3 x4 s0 → W p l e { frames := 2, cells := 0, slots := 0, locals := 44 } s m args below meth c H locs 0 0 Q (F0 m 159 ls [.int s0]) := by
  intro x3 x4 s0 ls hl hw
  refine i_iconst (v := (0 : Int32)) (n := 160) C 94 rfl rfl rfl ?_
  exact e_Mo_joined_160 C h hret hb49 x3 x4 s0 (0 : Int32) ls hl hw
set_option maxHeartbeats 4000000 in
set_option maxRecDepth 100000 in
theorem e_Mo_joined_94 {I : Nat → Int32} {A : Nat → Nat → Int32} {a1 : Int32} {P : Int32 → Prop} {kb49 : Int32 → Int32 → Int32 → Prop} (C : CX D cy R_Mo c_Mo_joined tb_Mo_joined 9 p s m args c Z) (h : HXw D Z s.heap H locs (wM cy ad I A)) (hret : RetP p l e { frames := 2, cells := 0, slots := 0, locals := 44 } s m args below meth c c_Mo_joined .int H locs Q P)
    (hb49 : ∀ (x2 : Int32) (x3 : Int32) (x4 : Int32) (ls : Array Slot), lv_has ls 9 [(0, .ref (ad 0)), (1, .int a1), (2, .int x2), (3, .int x3), (4, .int x4)] → kb49 x2 x3 x4 → W p l e { frames := 2, cells := 0, slots := 0, locals := 44 } s m args below meth c H locs 0 0 Q (F0 m 49 ls [])) :
    ∀ (x2 : Int32) (x3 : Int32) (x4 : Int32) (s0 : Int32) (ls : Array Slot), lv_has ls 9 [(0, .ref (ad 0)), (1, .int a1), (2, .int x2), (3, .int x3), (4, .int x4)] → g_Mo_joined_94 I A a1 P kb49 x2 x3 x4 s0 → W p l e { frames := 2, cells := 0, slots := 0, locals := 44 } s m args below meth c H locs 0 0 Q (F0 m 94 ls [.int s0]) := by
  intro x2 x3 x4 s0 ls hl hw
  refine i_istore (lv' := [(6, .int s0), (0, .ref (ad 0)), (1, .int a1), (2, .int x2), (3, .int x3), (4, .int x4)]) (n := 96) C 53 rfl rfl hl (by decide) rfl (fun ls hl => ?_)
  refine i_iload_n (n := 97) C 54 rfl rfl rfl hl 3 rfl ?_
  refine i_aload_n (n := 98) C 55 rfl rfl rfl hl 1 rfl ?_
  refine fgM_Mo_53 (n := 101) C 56 rfl rfl h ?_
  refine i_iload (n := 103) C 57 rfl rfl hl 5 rfl ?_
  obtain ⟨hb, hw⟩ := hw
  refine i_iald (n := 104) C 58 rfl rfl h (wM_arr 14 (by decide) rfl) hb ?_
  refine i_ishr (n := 105) C 59 rfl rfl ?_
  refine i_iconst (v := (1 : Int32)) (n := 106) C 60 rfl rfl rfl ?_
  refine i_iand (n := 107) C 61 rfl rfl ?_
  refine lv_topi (fun y11 ey11 => ?_)
  replace hw := hw y11 ey11
  refine i_istore (lv' := [(7, .int y11), (6, .int s0), (0, .ref (ad 0)), (1, .int a1), (2, .int x2), (3, .int x3), (4, .int x4)]) (n := 109) C 62 rfl rfl hl (by decide) rfl (fun ls hl => ?_)
  refine i_iload_n (n := 110) C 63 rfl rfl rfl hl 4 rfl ?_
  refine i_aload_n (n := 111) C 64 rfl rfl rfl hl 2 rfl ?_
  refine fgM_Mo_56 (n := 114) C 65 rfl rfl h ?_
  refine i_iload (n := 116) C 66 rfl rfl hl 6 rfl ?_
  obtain ⟨hb, hw⟩ := hw
  refine i_iald (n := 117) C 67 rfl rfl h (wM_arr 15 (by decide) rfl) hb ?_
  refine i_ishr (n := 118) C 68 rfl rfl ?_
  refine i_iconst (v := (1 : Int32)) (n := 119) C 69 rfl rfl rfl ?_
  refine i_iand (n := 120) C 70 rfl rfl ?_
  refine lv_topi (fun y12 ey12 => ?_)
  replace hw := hw y12 ey12
  refine i_istore (lv' := [(8, .int y12), (7, .int y11), (6, .int s0), (0, .ref (ad 0)), (1, .int a1), (2, .int x2), (3, .int x3), (4, .int x4)]) (n := 122) C 71 rfl rfl hl (by decide) rfl (fun ls hl => ?_)
  refine i_iload_n (n := 123) C 72 rfl rfl rfl hl 5 rfl ?_
  refine i_iload (n := 125) C 73 rfl rfl hl 2 rfl ?_
  refine i_if_eq (tgt := 159) (n := 128) C 74 rfl rfl rfl (fun c13 => ?_) (fun c13 => ?_)
  · replace hw := hw.1 c13
    exact e_Mo_joined_159 C h hret hb49 x3 x4 x2 ls (lv_sub hl [3, 4, 6, 7] rfl) hw
  · replace hw := hw.2 c13
    refine i_iload (n := 130) C 75 rfl rfl hl 1 rfl ?_
    refine i_iload (n := 132) C 76 rfl rfl hl 0 rfl ?_
    refine i_iadd (n := 133) C 77 rfl rfl ?_
    refine i_iconst (v := (1 : Int32)) (n := 134) C 78 rfl rfl rfl ?_
    refine i_icmp_ne (tgt := 159) (n := 137) C 79 rfl rfl rfl (fun c15 => ?_) (fun c15 => ?_)
    · replace hw := hw.1 c15
      exact e_Mo_joined_159 C h hret hb49 x3 x4 x2 ls (lv_sub hl [3, 4, 6, 7] rfl) hw
    · replace hw := hw.2 c15
      refine i_iconst (v := (1 : Int32)) (n := 138) C 80 rfl rfl rfl ?_
      refine i_aload_n (n := 139) C 81 rfl rfl rfl hl 3 rfl ?_
      refine fgM_Mo_53 (n := 142) C 82 rfl rfl h ?_
      refine i_iload (n := 144) C 83 rfl rfl hl 7 rfl ?_
      obtain ⟨hb, hw⟩ := hw
      refine i_iald (n := 145) C 84 rfl rfl h (wM_arr 14 (by decide) rfl) hb ?_
      refine i_ishl (n := 146) C 85 rfl rfl ?_
      refine i_iconst (v := (1 : Int32)) (n := 147) C 86 rfl rfl rfl ?_
      refine i_aload_n (n := 148) C 87 rfl rfl rfl hl 3 rfl ?_
      refine fgM_Mo_56 (n := 151) C 88 rfl rfl h ?_
      refine i_iload (n := 153) C 89 rfl rfl hl 7 rfl ?_
      obtain ⟨hb, hw⟩ := hw
      refine i_iald (n := 154) C 90 rfl rfl h (wM_arr 15 (by decide) rfl) hb ?_
      refine i_ishl (n := 155) C 91 rfl rfl ?_
      refine i_ior (n := 156) C 92 rfl rfl ?_
      refine i_goto (tgt := 160) C 93 rfl rfl ?_
      exact e_Mo_joined_160 C h hret hb49 x3 x4 x2 (((1 : Int32) <<< ((A 14 x4.toNatClampNeg) &&& 31)) ||| ((1 : Int32) <<< ((A 15 x4.toNatClampNeg) &&& 31))) ls (lv_sub hl [3, 4, 6, 7] rfl) hw
set_option maxHeartbeats 4000000 in
set_option maxRecDepth 100000 in
theorem e_Mo_joined_93 {I : Nat → Int32} {A : Nat → Nat → Int32} {a1 : Int32} {P : Int32 → Prop} {kb49 : Int32 → Int32 → Int32 → Prop} (C : CX D cy R_Mo c_Mo_joined tb_Mo_joined 9 p s m args c Z) (h : HXw D Z s.heap H locs (wM cy ad I A)) (hret : RetP p l e { frames := 2, cells := 0, slots := 0, locals := 44 } s m args below meth c c_Mo_joined .int H locs Q P)
    (hb49 : ∀ (x2 : Int32) (x3 : Int32) (x4 : Int32) (ls : Array Slot), lv_has ls 9 [(0, .ref (ad 0)), (1, .int a1), (2, .int x2), (3, .int x3), (4, .int x4)] → kb49 x2 x3 x4 → W p l e { frames := 2, cells := 0, slots := 0, locals := 44 } s m args below meth c H locs 0 0 Q (F0 m 49 ls [])) :
    ∀ (x2 : Int32) (x3 : Int32) (x4 : Int32) (ls : Array Slot), lv_has ls 9 [(0, .ref (ad 0)), (1, .int a1), (2, .int x2), (3, .int x3), (4, .int x4)] → g_Mo_joined_93 I A a1 P kb49 x2 x3 x4 → W p l e { frames := 2, cells := 0, slots := 0, locals := 44 } s m args below meth c H locs 0 0 Q (F0 m 93 ls []) := by
  intro x2 x3 x4 ls hl hw
  refine i_iconst (v := (0 : Int32)) (n := 94) C 52 rfl rfl rfl ?_
  exact e_Mo_joined_94 C h hret hb49 x2 x3 x4 (0 : Int32) ls hl hw
set_option maxHeartbeats 4000000 in
set_option maxRecDepth 100000 in
theorem e_Mo_joined_89 {I : Nat → Int32} {A : Nat → Nat → Int32} {a1 : Int32} {P : Int32 → Prop} {kb49 : Int32 → Int32 → Int32 → Prop} (C : CX D cy R_Mo c_Mo_joined tb_Mo_joined 9 p s m args c Z) (h : HXw D Z s.heap H locs (wM cy ad I A)) (hret : RetP p l e { frames := 2, cells := 0, slots := 0, locals := 44 } s m args below meth c c_Mo_joined .int H locs Q P)
    (hb49 : ∀ (x2 : Int32) (x3 : Int32) (x4 : Int32) (ls : Array Slot), lv_has ls 9 [(0, .ref (ad 0)), (1, .int a1), (2, .int x2), (3, .int x3), (4, .int x4)] → kb49 x2 x3 x4 → W p l e { frames := 2, cells := 0, slots := 0, locals := 44 } s m args below meth c H locs 0 0 Q (F0 m 49 ls [])) :
    ∀ (x2 : Int32) (x3 : Int32) (x4 : Int32) (ls : Array Slot), lv_has ls 9 [(0, .ref (ad 0)), (1, .int a1), (2, .int x2), (3, .int x3), (4, .int x4)] → g_Mo_joined_89 I A a1 P kb49 x2 x3 x4 → W p l e { frames := 2, cells := 0, slots := 0, locals := 44 } s m args below meth c H locs 0 0 Q (F0 m 89 ls []) := by
  intro x2 x3 x4 ls hl hw
  refine i_iconst (v := (1 : Int32)) (n := 90) C 50 rfl rfl rfl ?_
  refine i_goto (tgt := 94) C 51 rfl rfl ?_
  exact e_Mo_joined_94 C h hret hb49 x2 x3 x4 (1 : Int32) ls hl hw
set_option maxHeartbeats 4000000 in
set_option maxRecDepth 100000 in
theorem e_Mo_joined_49 {I : Nat → Int32} {A : Nat → Nat → Int32} {a1 : Int32} {P : Int32 → Prop} {kx49 : Int32 → Int32 → Prop} (C : CX D cy R_Mo c_Mo_joined tb_Mo_joined 9 p s m args c Z) (h : HXw D Z s.heap H locs (wM cy ad I A)) (hret : RetP p l e { frames := 2, cells := 0, slots := 0, locals := 44 } s m args below meth c c_Mo_joined .int H locs Q P)
    (hx49 : ∀ (x2 : Int32) (x3 : Int32) (ls : Array Slot), lv_has ls 9 [(0, .ref (ad 0)), (1, .int a1), (2, .int x2), (3, .int x3)] → kx49 x2 x3 → W p l e { frames := 2, cells := 0, slots := 0, locals := 44 } s m args below meth c H locs 0 0 Q (F0 m 168 ls [])) :
    ∀ (n : Nat) (x2 : Int32) (x3 : Int32) (x4 : Int32) (ls : Array Slot), lv_has ls 9 [(0, .ref (ad 0)), (1, .int a1), (2, .int x2), (3, .int x3), (4, .int x4)] → g_Mo_joined_49 I A a1 P kx49 n x2 x3 x4 → W p l e { frames := 2, cells := 0, slots := 0, locals := 44 } s m args below meth c H locs 0 0 Q (F0 m 49 ls []) := by
  intro n
  induction n with
  | zero => intro x2 x3 x4 ls hl hw; exact hw.elim
  | succ n ih =>
    intro x2 x3 x4 ls hl hw
    refine i_iload (n := 51) C 30 rfl rfl hl 4 rfl ?_
    refine i_aload_n (n := 52) C 31 rfl rfl rfl hl 0 rfl ?_
    refine fgM_Mo_130 (n := 55) C 32 rfl rfl h ?_
    refine i_icmp_ge (tgt := 168) (n := 58) C 33 rfl rfl rfl (fun c7 => ?_) (fun c7 => ?_)
    · replace hw := hw.1 c7
      exact hx49 x2 x3 ls (lv_sub hl [0, 1, 2, 3] rfl) hw
    · replace hw := hw.2 c7
      refine i_aload_n (n := 59) C 34 rfl rfl rfl hl 0 rfl ?_
      refine i_iload (n := 61) C 35 rfl rfl hl 4 rfl ?_
      refine i_callVp (rest := []) (ci := 11) (qc := (R_Mo, T_Mo, 50)) (n := 64) C 36 rfl rfl hl h rfl (wM_get (h := 0) (by decide)) (kV_Mo_143 ⟨by decide, by decide⟩) (m_Mo_valveOn hw) rfl rfl (Nat.le_of_ble_eq_true rfl) ⟨by decide, by decide⟩ (fun r8 hw => ?_)
      refine i_istore (lv' := [(5, .int r8), (0, .ref (ad 0)), (1, .int a1), (2, .int x2), (3, .int x3), (4, .int x4)]) (n := 66) C 37 rfl rfl hl (by decide) rfl (fun ls hl => ?_)
      refine i_aload_n (n := 67) C 38 rfl rfl rfl hl 1 rfl ?_
      refine i_iload (n := 69) C 39 rfl rfl hl 5 rfl ?_
      refine i_callVp (rest := []) (ci := 11) (qc := (R_Mo, T_Mo, 50)) (n := 72) C 40 rfl rfl hl h rfl (wM_get (h := 0) (by decide)) (kV_Mo_153 ⟨by decide, by decide⟩) (m_Mo_isOpen hw) rfl rfl (Nat.le_of_ble_eq_true rfl) ⟨by decide, by decide⟩ (fun r9 hw => ?_)
      refine i_if_eq (tgt := 93) (n := 75) C 41 rfl rfl rfl (fun c10 => ?_) (fun c10 => ?_)
      · replace hw := hw.1 c10
        exact e_Mo_joined_93 C h hret ih x2 x3 x4 ls (lv_sub hl [1, 2, 3, 4, 5] rfl) hw
      · replace hw := hw.2 c10
        refine i_iload (n := 77) C 42 rfl rfl hl 0 rfl ?_
        refine i_if_lt (tgt := 89) (n := 80) C 43 rfl rfl rfl (fun c16 => ?_) (fun c16 => ?_)
        · replace hw := hw.1 c16
          exact e_Mo_joined_89 C h hret ih x2 x3 x4 ls (lv_sub hl [1, 2, 3, 4, 5] rfl) hw
        · replace hw := hw.2 c16
          refine i_iload_n (n := 81) C 44 rfl rfl rfl hl 2 rfl ?_
          refine i_iload (n := 83) C 45 rfl rfl hl 0 rfl ?_
          refine i_ishr (n := 84) C 46 rfl rfl ?_
          refine i_iconst (v := (1 : Int32)) (n := 85) C 47 rfl rfl rfl ?_
          refine i_iand (n := 86) C 48 rfl rfl ?_
          refine i_if_ne (tgt := 93) (n := 89) C 49 rfl rfl rfl (fun c17 => ?_) (fun c17 => ?_)
          · replace hw := hw.1 c17
            exact e_Mo_joined_93 C h hret ih x2 x3 x4 ls (lv_sub hl [1, 2, 3, 4, 5] rfl) hw
          · replace hw := hw.2 c17
            exact e_Mo_joined_89 C h hret ih x2 x3 x4 ls (lv_sub hl [1, 2, 3, 4, 5] rfl) hw
set_option maxHeartbeats 4000000 in
set_option maxRecDepth 100000 in
theorem e_Mo_joined_38 {I : Nat → Int32} {A : Nat → Nat → Int32} {a1 : Int32} {P : Int32 → Prop} {kx38 : Int32 → Prop} (C : CX D cy R_Mo c_Mo_joined tb_Mo_joined 9 p s m args c Z) (h : HXw D Z s.heap H locs (wM cy ad I A)) (hret : RetP p l e { frames := 2, cells := 0, slots := 0, locals := 44 } s m args below meth c c_Mo_joined .int H locs Q P)
    (hx38 : ∀ (x2 : Int32) (ls : Array Slot), lv_has ls 9 [(2, .int x2)] → kx38 x2 → W p l e { frames := 2, cells := 0, slots := 0, locals := 44 } s m args below meth c H locs 0 0 Q (F0 m 174 ls [])) :
    ∀ (n : Nat) (x2 : Int32) (x3 : Int32) (ls : Array Slot), lv_has ls 9 [(0, .ref (ad 0)), (1, .int a1), (2, .int x2), (3, .int x3)] → g_Mo_joined_38 I A a1 P kx38 n x2 x3 → W p l e { frames := 2, cells := 0, slots := 0, locals := 44 } s m args below meth c H locs 0 0 Q (F0 m 38 ls []) := by
  intro n
  induction n with
  | zero => intro x2 x3 ls hl hw; exact hw.elim
  | succ n ih =>
    intro x2 x3 ls hl hw
    refine i_iload_n (n := 39) C 24 rfl rfl rfl hl 3 rfl ?_
    refine i_aload_n (n := 40) C 25 rfl rfl rfl hl 0 rfl ?_
    refine fgM_Mo_122 (n := 43) C 26 rfl rfl h ?_
    refine i_icmp_ge (tgt := 174) (n := 46) C 27 rfl rfl rfl (fun c6 => ?_) (fun c6 => ?_)
    · replace hw := hw.1 c6
      exact hx38 x2 ls (lv_sub hl [2] rfl) hw
    · replace hw := hw.2 c6
      refine i_iconst (v := (0 : Int32)) (n := 47) C 28 rfl rfl rfl ?_
      refine i_istore (lv' := [(4, .int (0 : Int32)), (0, .ref (ad 0)), (1, .int a1), (2, .int x2), (3, .int x3)]) (n := 49) C 29 rfl rfl hl (by decide) rfl (fun ls hl => ?_)
      obtain ⟨n18, hw⟩ := hw
      refine e_Mo_joined_49 C h hret (fun x2_18 x3_18 ls hl hw => ?_) n18 x2 x3 (0 : Int32) ls (lv_sub hl [1, 2, 3, 4, 0] rfl) hw
      have hl : lv_has ls 9 [(0, .ref (ad 0)), (1, .int a1), (2, .int x2_18), (3, .int x3_18)] := hl
      refine i_iinc (v := x3_18 + (1 : Int32)) (lv' := [(3, .int (x3_18 + (1 : Int32))), (0, .ref (ad 0)), (1, .int a1), (2, .int x2_18)]) (n := 171) C 99 rfl rfl hl 3 rfl rfl (by decide) rfl (fun ls hl => ?_)
      refine i_goto (tgt := 38) C 100 rfl rfl ?_
      exact ih x2_18 (x3_18 + (1 : Int32)) ls (lv_sub hl [1, 2, 3, 0] rfl) hw
set_option maxHeartbeats 4000000 in
set_option maxRecDepth 100000 in
theorem m_Mo_joined {l : Launch} {D : va_G} {cy : Nat → ClassId} {ad : Nat → Nat} {I : Nat → Int32} {A : Nat → Nat → Int32} {a1 : Int32} {P : Int32 → Prop} (hw : g_Mo_joined I A a1 P) : ∀ sz, Met l y_Mo_joined (WL y_Mo_joined c_Mo_joined 9 (some .int)) { frames := 2, cells := 0, slots := 0, locals := 44 } (va_Pc [.ref (ad 0), .int a1] (PreW D cy (wM cy ad I A) sz)) (vp_Si P) 0 0 (fun _ => False) := by
  refine met_p R_Mo .int db_Mo_joined (by decide) rfl rfl (Nat.le_of_ble_eq_true rfl) ?_
  intro p e s m below meth c Z Q ls C h hl hret
  have hl : lv_has ls 9 [(0, .ref (ad 0)), (1, .int a1)] := hl
  refine i_iconst (v := (0 : Int32)) (n := 1) C 0 rfl rfl rfl ?_
  refine i_istore_n (lv' := [(2, .int (0 : Int32)), (0, .ref (ad 0)), (1, .int a1)]) (n := 2) C 1 rfl rfl rfl hl (by decide) rfl (fun ls hl => ?_)
  refine i_iconst (v := (0 : Int32)) (n := 3) C 2 rfl rfl rfl ?_
  refine i_istore_n (lv' := [(3, .int (0 : Int32)), (2, .int (0 : Int32)), (0, .ref (ad 0)), (1, .int a1)]) (n := 4) C 3 rfl rfl rfl hl (by decide) rfl (fun ls hl => ?_)
  obtain ⟨n5, hw⟩ := hw
  refine e_Mo_joined_4 C h hret (fun x2_5 ls hl hw => ?_) n5 (0 : Int32) (0 : Int32) ls (lv_sub hl [2, 3, 1, 0] rfl) hw
  have hl : lv_has ls 9 [(0, .ref (ad 0)), (1, .int a1), (2, .int x2_5)] := hl
  refine i_iconst (v := (0 : Int32)) (n := 37) C 22 rfl rfl rfl ?_
  refine i_istore_n (lv' := [(3, .int (0 : Int32)), (0, .ref (ad 0)), (1, .int a1), (2, .int x2_5)]) (n := 38) C 23 rfl rfl rfl hl (by decide) rfl (fun ls hl => ?_)
  obtain ⟨n19, hw⟩ := hw
  refine e_Mo_joined_38 C h hret (fun x2_19 ls hl hw => ?_) n19 x2_5 (0 : Int32) ls (lv_sub hl [1, 2, 3, 0] rfl) hw
  have hl : lv_has ls 9 [(2, .int x2_19)] := hl
  refine i_iload_n (n := 175) C 101 rfl rfl rfl hl 0 rfl ?_
  exact hret _ _ _ rfl hw (C.dg (k := 102) rfl)
end S229
section S230
variable {p : Program} {l : Launch} {e : Env} {R : Room} {s : State} {m : MethodId} {args : Array Value} {below : List Frame} {meth : Method} {c : Code} {H : Heap} {locs : List Loc} {cells slots : Nat} {Q : State → Prop}
variable {cc : ByteArray} {pc n nL : Nat} {ls : Array Slot} {rest : List Value} {D : va_G} {cy : Nat → ClassId} {Z : Nat → Prop} {ad : Nat → Nat} {tb : List (Nat × Instr × Nat)} {lv : List (Nat × Value)}
set_option maxHeartbeats 4000000 in
set_option maxRecDepth 100000 in
theorem e_Mo_bits_4  {a1 : Int32} {P : Int32 → Prop} {kx4 : Int32 → Prop} {w : va_W} (C : CX D cy R_Mo c_Mo_bits tb_Mo_bits 3 p s m args c Z) (h : HXw D Z s.heap H locs (w)) (hret : RetP p l e { frames := 0, cells := 0, slots := 0, locals := 0 } s m args below meth c c_Mo_bits .int H locs Q P)
    (hx4 : ∀ (x1 : Int32) (ls : Array Slot), lv_has ls 3 [(1, .int x1)] → kx4 x1 → W p l e { frames := 0, cells := 0, slots := 0, locals := 0 } s m args below meth c H locs 0 0 Q (F0 m 24 ls [])) :
    ∀ (n : Nat) (x1 : Int32) (x2 : Int32) (ls : Array Slot), lv_has ls 3 [(0, .int a1), (1, .int x1), (2, .int x2)] → g_Mo_bits_4 a1 P kx4 n x1 x2 → W p l e { frames := 0, cells := 0, slots := 0, locals := 0 } s m args below meth c H locs 0 0 Q (F0 m 4 ls []) := by
  intro n
  induction n with
  | zero => intro x1 x2 ls hl hw; exact hw.elim
  | succ n ih =>
    intro x1 x2 ls hl hw
    refine i_iload_n (n := 5) C 4 rfl rfl rfl hl 2 rfl ?_
    refine i_bipush (v := (18 : Int32)) (n := 7) C 5 rfl rfl rfl ?_
    refine i_icmp_ge (tgt := 24) (n := 10) C 6 rfl rfl rfl (fun c1 => ?_) (fun c1 => ?_)
    · replace hw := hw.1 c1
      exact hx4 x1 ls (lv_sub hl [1] rfl) hw
    · replace hw := hw.2 c1
      refine i_iload_n (n := 11) C 7 rfl rfl rfl hl 1 rfl ?_
      refine i_iload_n (n := 12) C 8 rfl rfl rfl hl 0 rfl ?_
      refine i_iload_n (n := 13) C 9 rfl rfl rfl hl 2 rfl ?_
      refine i_ishr (n := 14) C 10 rfl rfl ?_
      refine i_iconst (v := (1 : Int32)) (n := 15) C 11 rfl rfl rfl ?_
      refine i_iand (n := 16) C 12 rfl rfl ?_
      refine i_iadd (n := 17) C 13 rfl rfl ?_
      refine lv_topi (fun y2 ey2 => ?_)
      replace hw := hw y2 ey2
      refine i_istore_n (lv' := [(1, .int y2), (0, .int a1), (2, .int x2)]) (n := 18) C 14 rfl rfl rfl hl (by decide) rfl (fun ls hl => ?_)
      refine i_iinc (v := x2 + (1 : Int32)) (lv' := [(2, .int (x2 + (1 : Int32))), (1, .int y2), (0, .int a1)]) (n := 21) C 15 rfl rfl hl 2 rfl rfl (by decide) rfl (fun ls hl => ?_)
      refine i_goto (tgt := 4) C 16 rfl rfl ?_
      exact ih y2 (x2 + (1 : Int32)) ls (lv_sub hl [2, 1, 0] rfl) hw
set_option maxHeartbeats 4000000 in
set_option maxRecDepth 100000 in
theorem m_Mo_bits {l : Launch} {D : va_G} {cy : Nat → ClassId}   {a1 : Int32} {w : va_W} {P : Int32 → Prop} (hw : g_Mo_bits a1 P) : ∀ sz, Met l y_Mo_bits (WL y_Mo_bits c_Mo_bits 3 (some .int)) { frames := 0, cells := 0, slots := 0, locals := 0 } (va_Pc [.int a1] (PreW D cy (w) sz)) (vp_Si P) 0 0 (fun _ => False) := by
  refine met_p R_Mo .int db_Mo_bits (by decide) rfl rfl (Nat.le_of_ble_eq_true rfl) ?_
  intro p e s m below meth c Z Q ls C h hl hret
  have hl : lv_has ls 3 [(0, .int a1)] := hl
  refine i_iconst (v := (0 : Int32)) (n := 1) C 0 rfl rfl rfl ?_
  refine i_istore_n (lv' := [(1, .int (0 : Int32)), (0, .int a1)]) (n := 2) C 1 rfl rfl rfl hl (by decide) rfl (fun ls hl => ?_)
  refine i_iconst (v := (0 : Int32)) (n := 3) C 2 rfl rfl rfl ?_
  refine i_istore_n (lv' := [(2, .int (0 : Int32)), (1, .int (0 : Int32)), (0, .int a1)]) (n := 4) C 3 rfl rfl rfl hl (by decide) rfl (fun ls hl => ?_)
  obtain ⟨n3, hw⟩ := hw
  refine e_Mo_bits_4 C h hret (fun x1_3 ls hl hw => ?_) n3 (0 : Int32) (0 : Int32) ls (lv_sub hl [2, 1, 0] rfl) hw
  have hl : lv_has ls 3 [(1, .int x1_3)] := hl
  refine i_iload_n (n := 25) C 17 rfl rfl rfl hl 0 rfl ?_
  exact hret _ _ _ rfl hw (C.dg (k := 18) rfl)
end S230
theorem kV_Mo_248 {R : Room} {s : State} {args : Array Value} (hR : 2 + 1 ≤ R.frames ∧ 8 + (9 + 11) + 44 ≤ R.locals) (ht : ∀ w ∈ GW, w.before args s = true) : CallW R s args R_Mo R_Mo 248 y_Mo_joined c_Mo_joined 9 (some .int) (WL y_Mo_joined c_Mo_joined 9 (some .int)) { frames := 2, cells := 0, slots := 0, locals := 44 } 0 0 1 := cwV 1 ht (GW_v w_7_12 w_7_14 w_0_48 w_1_7 (GW_wl w_7_15)) rfl rfl rfl (by decide +kernel) hR
theorem kS_Mo_245 {R : Room} {s : State} {args : Array Value} (hR : 0 + 1 ≤ R.frames ∧ 8 + (3 + 11) + 0 ≤ R.locals) (ht : ∀ w ∈ GW, w.before args s = true) : CallB R s args R_Mo 245 y_Mo_bits c_Mo_bits 3 (some .int) (WL y_Mo_bits c_Mo_bits 3 (some .int)) { frames := 0, cells := 0, slots := 0, locals := 0 } 0 0 1 ∧ (Cond.static y_Mo_bits).before args s = true := cwS 1 ht (GW_s w_7_9 w_7_10 w_1_7 (GW_wl w_7_11)) rfl rfl rfl (by decide +kernel) hR
section S231
variable {p : Program} {l : Launch} {e : Env} {R : Room} {s : State} {m : MethodId} {args : Array Value} {below : List Frame} {meth : Method} {c : Code} {H : Heap} {locs : List Loc} {cells slots : Nat} {Q : State → Prop}
variable {cc : ByteArray} {pc n nL : Nat} {ls : Array Slot} {rest : List Value} {D : va_G} {cy : Nat → ClassId} {Z : Nat → Prop} {ad : Nat → Nat} {tb : List (Nat × Instr × Nat)} {lv : List (Nat × Value)}
set_option maxHeartbeats 4000000 in
set_option maxRecDepth 100000 in
theorem e_Mo_cutOff_29 {I : Nat → Int32} {A : Nat → Nat → Int32} {a1 : Int32} {P : Int32 → Prop} {kb4 : Int32 → Int32 → Prop} (C : CX D cy R_Mo c_Mo_cutOff tb_Mo_cutOff 6 p s m args c Z) (h : HXw D Z s.heap H locs (wM cy ad I A)) (hret : RetP p l e { frames := 3, cells := 0, slots := 0, locals := 72 } s m args below meth c c_Mo_cutOff .int H locs Q P)
    (hb4 : ∀ (x2 : Int32) (x3 : Int32) (ls : Array Slot), lv_has ls 6 [(0, .ref (ad 0)), (1, .int a1), (2, .int x2), (3, .int x3)] → kb4 x2 x3 → W p l e { frames := 3, cells := 0, slots := 0, locals := 72 } s m args below meth c H locs 0 0 Q (F0 m 4 ls [])) :
    ∀ (x3 : Int32) (s0 : Int32) (s1 : Int32) (ls : Array Slot), lv_has ls 6 [(0, .ref (ad 0)), (1, .int a1), (3, .int x3)] → g_Mo_cutOff_29 I A a1 P kb4 x3 s0 s1 → W p l e { frames := 3, cells := 0, slots := 0, locals := 72 } s m args below meth c H locs 0 0 Q (F0 m 29 ls [.int s1, .int s0]) := by
  intro x3 s0 s1 ls hl hw
  refine i_ior (n := 30) C 19 rfl rfl ?_
  refine lv_topi (fun y3 ey3 => ?_)
  replace hw := hw y3 ey3
  refine i_istore_n (lv' := [(2, .int y3), (0, .ref (ad 0)), (1, .int a1), (3, .int x3)]) (n := 31) C 20 rfl rfl rfl hl (by decide) rfl (fun ls hl => ?_)
  refine i_iinc (v := x3 + (1 : Int32)) (lv' := [(3, .int (x3 + (1 : Int32))), (2, .int y3), (0, .ref (ad 0)), (1, .int a1)]) (n := 34) C 21 rfl rfl hl 3 rfl rfl (by decide) rfl (fun ls hl => ?_)
  refine i_goto (tgt := 4) C 22 rfl rfl ?_
  exact hb4 y3 (x3 + (1 : Int32)) ls (lv_sub hl [2, 3, 1, 0] rfl) hw
set_option maxHeartbeats 4000000 in
set_option maxRecDepth 100000 in
theorem e_Mo_cutOff_4 {I : Nat → Int32} {A : Nat → Nat → Int32} {a1 : Int32} {P : Int32 → Prop} {kx4 : Int32 → Prop} (C : CX D cy R_Mo c_Mo_cutOff tb_Mo_cutOff 6 p s m args c Z) (h : HXw D Z s.heap H locs (wM cy ad I A)) (hret : RetP p l e { frames := 3, cells := 0, slots := 0, locals := 72 } s m args below meth c c_Mo_cutOff .int H locs Q P)
    (hx4 : ∀ (x2 : Int32) (ls : Array Slot), lv_has ls 6 [(0, .ref (ad 0)), (1, .int a1), (2, .int x2)] → kx4 x2 → W p l e { frames := 3, cells := 0, slots := 0, locals := 72 } s m args below meth c H locs 0 0 Q (F0 m 37 ls [])) :
    ∀ (n : Nat) (x2 : Int32) (x3 : Int32) (ls : Array Slot), lv_has ls 6 [(0, .ref (ad 0)), (1, .int a1), (2, .int x2), (3, .int x3)] → g_Mo_cutOff_4 I A a1 P kx4 n x2 x3 → W p l e { frames := 3, cells := 0, slots := 0, locals := 72 } s m args below meth c H locs 0 0 Q (F0 m 4 ls []) := by
  intro n
  induction n with
  | zero => intro x2 x3 ls hl hw; exact hw.elim
  | succ n ih =>
    intro x2 x3 ls hl hw
    refine i_iload_n (n := 5) C 4 rfl rfl rfl hl 3 rfl ?_
    refine i_aload_n (n := 6) C 5 rfl rfl rfl hl 0 rfl ?_
    refine fgM_Mo_133 (n := 9) C 6 rfl rfl h ?_
    refine i_icmp_ge (tgt := 37) (n := 12) C 7 rfl rfl rfl (fun c1 => ?_) (fun c1 => ?_)
    · replace hw := hw.1 c1
      exact hx4 x2 ls (lv_sub hl [0, 1, 2] rfl) hw
    · replace hw := hw.2 c1
      refine i_iload_n (n := 13) C 8 rfl rfl rfl hl 2 rfl ?_
      refine i_aload_n (n := 14) C 9 rfl rfl rfl hl 0 rfl ?_
      refine fgM_Mo_68 (n := 17) C 10 rfl rfl h ?_
      refine i_iload_n (n := 18) C 11 rfl rfl rfl hl 3 rfl ?_
      obtain ⟨hb, hw⟩ := hw
      refine i_zald (n := 19) C 12 rfl rfl h (wM_arr 19 (by decide) rfl) hb ?_
      refine i_if_eq (tgt := 26) (n := 22) C 13 rfl rfl rfl (fun c2 => ?_) (fun c2 => ?_)
      · replace hw := hw.1 c2
        refine i_iconst (v := (1 : Int32)) (n := 27) C 16 rfl rfl rfl ?_
        refine i_iload_n (n := 28) C 17 rfl rfl rfl hl 3 rfl ?_
        refine i_ishl (n := 29) C 18 rfl rfl ?_
        exact e_Mo_cutOff_29 C h hret ih x3 x2 ((1 : Int32) <<< (x3 &&& 31)) ls (lv_sub hl [0, 1, 3] rfl) hw
      · replace hw := hw.2 c2
        refine i_iconst (v := (0 : Int32)) (n := 23) C 14 rfl rfl rfl ?_
        refine i_goto (tgt := 29) C 15 rfl rfl ?_
        exact e_Mo_cutOff_29 C h hret ih x3 x2 (0 : Int32) ls (lv_sub hl [0, 1, 3] rfl) hw
set_option maxHeartbeats 4000000 in
set_option maxRecDepth 100000 in
theorem e_Mo_cutOff_107 {I : Nat → Int32} {A : Nat → Nat → Int32} {a1 : Int32} {P : Int32 → Prop} {kb43 : Int32 → Int32 → Int32 → Prop} (C : CX D cy R_Mo c_Mo_cutOff tb_Mo_cutOff 6 p s m args c Z) (h : HXw D Z s.heap H locs (wM cy ad I A)) (hret : RetP p l e { frames := 3, cells := 0, slots := 0, locals := 72 } s m args below meth c c_Mo_cutOff .int H locs Q P)
    (hb43 : ∀ (x2 : Int32) (x3 : Int32) (x4 : Int32) (ls : Array Slot), lv_has ls 6 [(0, .ref (ad 0)), (1, .int a1), (2, .int x2), (3, .int x3), (4, .int x4)] → kb43 x2 x3 x4 → W p l e { frames := 3, cells := 0, slots := 0, locals := 72 } s m args below meth c H locs 0 0 Q (F0 m 43 ls [])) :
    ∀ (x2 : Int32) (x3 : Int32) (x4 : Int32) (ls : Array Slot), lv_has ls 6 [(0, .ref (ad 0)), (1, .int a1), (2, .int x2), (3, .int x3), (4, .int x4)] → g_Mo_cutOff_107 I A a1 P kb43 x2 x3 x4 → W p l e { frames := 3, cells := 0, slots := 0, locals := 72 } s m args below meth c H locs 0 0 Q (F0 m 107 ls []) := by
  intro x2 x3 x4 ls hl hw
  refine i_iinc (v := x4 + (1 : Int32)) (lv' := [(4, .int (x4 + (1 : Int32))), (0, .ref (ad 0)), (1, .int a1), (2, .int x2), (3, .int x3)]) (n := 110) C 62 rfl rfl hl 4 rfl rfl (by decide) rfl (fun ls hl => ?_)
  refine i_goto (tgt := 43) C 63 rfl rfl ?_
  exact hb43 x2 x3 (x4 + (1 : Int32)) ls (lv_sub hl [1, 2, 3, 4, 0] rfl) hw
set_option maxHeartbeats 4000000 in
set_option maxRecDepth 100000 in
theorem e_Mo_cutOff_75 {I : Nat → Int32} {A : Nat → Nat → Int32} {a1 : Int32} {P : Int32 → Prop} {kb43 : Int32 → Int32 → Int32 → Prop} (C : CX D cy R_Mo c_Mo_cutOff tb_Mo_cutOff 6 p s m args c Z) (h : HXw D Z s.heap H locs (wM cy ad I A)) (hret : RetP p l e { frames := 3, cells := 0, slots := 0, locals := 72 } s m args below meth c c_Mo_cutOff .int H locs Q P)
    (hb43 : ∀ (x2 : Int32) (x3 : Int32) (x4 : Int32) (ls : Array Slot), lv_has ls 6 [(0, .ref (ad 0)), (1, .int a1), (2, .int x2), (3, .int x3), (4, .int x4)] → kb43 x2 x3 x4 → W p l e { frames := 3, cells := 0, slots := 0, locals := 72 } s m args below meth c H locs 0 0 Q (F0 m 43 ls [])) :
    ∀ (x2 : Int32) (x3 : Int32) (x4 : Int32) (s0 : Int32) (ls : Array Slot), lv_has ls 6 [(0, .ref (ad 0)), (1, .int a1), (2, .int x2), (3, .int x3), (4, .int x4)] → g_Mo_cutOff_75 I A a1 P kb43 x2 x3 x4 s0 → W p l e { frames := 3, cells := 0, slots := 0, locals := 72 } s m args below meth c H locs 0 0 Q (F0 m 75 ls [.int s0]) := by
  intro x2 x3 x4 s0 ls hl hw
  refine i_istore (lv' := [(5, .int s0), (0, .ref (ad 0)), (1, .int a1), (2, .int x2), (3, .int x3), (4, .int x4)]) (n := 77) C 43 rfl rfl hl (by decide) rfl (fun ls hl => ?_)
  refine i_iload (n := 79) C 44 rfl rfl hl 5 rfl ?_
  refine i_iload_n (n := 80) C 45 rfl rfl rfl hl 3 rfl ?_
  refine i_iconst (v := (-1 : Int32)) (n := 81) C 46 rfl rfl rfl ?_
  refine i_ixor (n := 82) C 47 rfl rfl ?_
  refine i_iand (n := 83) C 48 rfl rfl ?_
  refine i_if_ne (tgt := 107) (n := 86) C 49 rfl rfl rfl (fun c7 => ?_) (fun c7 => ?_)
  · replace hw := hw.1 c7
    exact e_Mo_cutOff_107 C h hret hb43 x2 x3 x4 ls (lv_sub hl [1, 2, 3, 4, 5] rfl) hw
  · replace hw := hw.2 c7
    refine i_iload (n := 88) C 50 rfl rfl hl 0 rfl ?_
    refine i_if_eq (tgt := 107) (n := 91) C 51 rfl rfl rfl (fun c8 => ?_) (fun c8 => ?_)
    · replace hw := hw.1 c8
      exact e_Mo_cutOff_107 C h hret hb43 x2 x3 x4 ls (lv_sub hl [1, 2, 3, 4, 5] rfl) hw
    · replace hw := hw.2 c8
      refine i_aload_n (n := 92) C 52 rfl rfl rfl hl 1 rfl ?_
      refine i_iload (n := 94) C 53 rfl rfl hl 5 rfl ?_
      refine i_callVp (rest := []) (ci := 11) (qc := (R_Mo, T_Mo, 50)) (n := 97) C 54 rfl rfl hl h rfl (wM_get (h := 0) (by decide)) (kV_Mo_248 ⟨by decide, by decide⟩) (m_Mo_joined hw) rfl rfl (Nat.le_of_ble_eq_true rfl) ⟨by decide, by decide⟩ (fun r9 hw => ?_)
      refine i_iload_n (n := 98) C 55 rfl rfl rfl hl 2 rfl ?_
      refine i_ishr (n := 99) C 56 rfl rfl ?_
      refine i_iconst (v := (1 : Int32)) (n := 100) C 57 rfl rfl rfl ?_
      refine i_iand (n := 101) C 58 rfl rfl ?_
      refine i_if_ne (tgt := 107) (n := 104) C 59 rfl rfl rfl (fun c10 => ?_) (fun c10 => ?_)
      · replace hw := hw.1 c10
        exact e_Mo_cutOff_107 C h hret hb43 x2 x3 x4 ls (lv_sub hl [1, 2, 3, 4, 5] rfl) hw
      · replace hw := hw.2 c10
        refine i_iload (n := 106) C 60 rfl rfl hl 5 rfl ?_
        refine i_istore_n (lv' := [(3, .int x4), (5, .int s0), (0, .ref (ad 0)), (1, .int a1), (2, .int x2), (4, .int x4)]) (n := 107) C 61 rfl rfl rfl hl (by decide) rfl (fun ls hl => ?_)
        exact e_Mo_cutOff_107 C h hret hb43 x2 x4 x4 ls (lv_sub hl [2, 3, 4, 0, 5] rfl) hw
set_option maxHeartbeats 4000000 in
set_option maxRecDepth 100000 in
theorem e_Mo_cutOff_70 {I : Nat → Int32} {A : Nat → Nat → Int32} {a1 : Int32} {P : Int32 → Prop} {kb43 : Int32 → Int32 → Int32 → Prop} (C : CX D cy R_Mo c_Mo_cutOff tb_Mo_cutOff 6 p s m args c Z) (h : HXw D Z s.heap H locs (wM cy ad I A)) (hret : RetP p l e { frames := 3, cells := 0, slots := 0, locals := 72 } s m args below meth c c_Mo_cutOff .int H locs Q P)
    (hb43 : ∀ (x2 : Int32) (x3 : Int32) (x4 : Int32) (ls : Array Slot), lv_has ls 6 [(0, .ref (ad 0)), (1, .int a1), (2, .int x2), (3, .int x3), (4, .int x4)] → kb43 x2 x3 x4 → W p l e { frames := 3, cells := 0, slots := 0, locals := 72 } s m args below meth c H locs 0 0 Q (F0 m 43 ls [])) :
    ∀ (x2 : Int32) (x3 : Int32) (x4 : Int32) (ls : Array Slot), lv_has ls 6 [(0, .ref (ad 0)), (1, .int a1), (2, .int x2), (3, .int x3), (4, .int x4)] → g_Mo_cutOff_70 I A a1 P kb43 x2 x3 x4 → W p l e { frames := 3, cells := 0, slots := 0, locals := 72 } s m args below meth c H locs 0 0 Q (F0 m 70 ls []) := by
  intro x2 x3 x4 ls hl hw
  refine i_iconst (v := (1 : Int32)) (n := 71) C 40 rfl rfl rfl ?_
  refine i_goto (tgt := 75) C 41 rfl rfl ?_
  exact e_Mo_cutOff_75 C h hret hb43 x2 x3 x4 (1 : Int32) ls hl hw
set_option maxHeartbeats 4000000 in
set_option maxRecDepth 100000 in
theorem e_Mo_cutOff_43 {I : Nat → Int32} {A : Nat → Nat → Int32} {a1 : Int32} {P : Int32 → Prop} {kx43 : Int32 → Prop} (C : CX D cy R_Mo c_Mo_cutOff tb_Mo_cutOff 6 p s m args c Z) (h : HXw D Z s.heap H locs (wM cy ad I A)) (hret : RetP p l e { frames := 3, cells := 0, slots := 0, locals := 72 } s m args below meth c c_Mo_cutOff .int H locs Q P)
    (hx43 : ∀ (x3 : Int32) (ls : Array Slot), lv_has ls 6 [(3, .int x3)] → kx43 x3 → W p l e { frames := 3, cells := 0, slots := 0, locals := 72 } s m args below meth c H locs 0 0 Q (F0 m 113 ls [])) :
    ∀ (n : Nat) (x2 : Int32) (x3 : Int32) (x4 : Int32) (ls : Array Slot), lv_has ls 6 [(0, .ref (ad 0)), (1, .int a1), (2, .int x2), (3, .int x3), (4, .int x4)] → g_Mo_cutOff_43 I A a1 P kx43 n x2 x3 x4 → W p l e { frames := 3, cells := 0, slots := 0, locals := 72 } s m args below meth c H locs 0 0 Q (F0 m 43 ls []) := by
  intro n
  induction n with
  | zero => intro x2 x3 x4 ls hl hw; exact hw.elim
  | succ n ih =>
    intro x2 x3 x4 ls hl hw
    refine i_iload (n := 45) C 27 rfl rfl hl 4 rfl ?_
    refine i_iconst (v := (1 : Int32)) (n := 46) C 28 rfl rfl rfl ?_
    refine i_aload_n (n := 47) C 29 rfl rfl rfl hl 0 rfl ?_
    refine fgM_Mo_133 (n := 50) C 30 rfl rfl h ?_
    refine i_ishl (n := 51) C 31 rfl rfl ?_
    refine i_icmp_ge (tgt := 113) (n := 54) C 32 rfl rfl rfl (fun c5 => ?_) (fun c5 => ?_)
    · replace hw := hw.1 c5
      exact hx43 x3 ls (lv_sub hl [3] rfl) hw
    · replace hw := hw.2 c5
      refine i_iload_n (n := 55) C 33 rfl rfl rfl hl 3 rfl ?_
      refine i_if_lt (tgt := 70) (n := 58) C 34 rfl rfl rfl (fun c6 => ?_) (fun c6 => ?_)
      · replace hw := hw.1 c6
        exact e_Mo_cutOff_70 C h hret ih x2 x3 x4 ls hl hw
      · replace hw := hw.2 c6
        refine i_iload (n := 60) C 35 rfl rfl hl 4 rfl ?_
        refine i_callSp (rest := []) (n := 63) C 36 rfl rfl hl h (kS_Mo_245 ⟨by decide, by decide⟩) (m_Mo_bits hw) rfl rfl (Nat.le_of_ble_eq_true rfl) ⟨by decide, by decide⟩ (fun r11 hw => ?_)
        refine i_iload_n (n := 64) C 37 rfl rfl rfl hl 3 rfl ?_
        refine i_callSp (rest := [.int r11]) (n := 67) C 38 rfl rfl hl h (kS_Mo_245 ⟨by decide, by decide⟩) (m_Mo_bits hw) rfl rfl (Nat.le_of_ble_eq_true rfl) ⟨by decide, by decide⟩ (fun r12 hw => ?_)
        refine i_icmp_ge (tgt := 74) (n := 70) C 39 rfl rfl rfl (fun c13 => ?_) (fun c13 => ?_)
        · replace hw := hw.1 c13
          refine i_iconst (v := (0 : Int32)) (n := 75) C 42 rfl rfl rfl ?_
          exact e_Mo_cutOff_75 C h hret ih x2 x3 x4 (0 : Int32) ls hl hw
        · replace hw := hw.2 c13
          exact e_Mo_cutOff_70 C h hret ih x2 x3 x4 ls hl hw
set_option maxHeartbeats 4000000 in
set_option maxRecDepth 100000 in
theorem m_Mo_cutOff {l : Launch} {D : va_G} {cy : Nat → ClassId} {ad : Nat → Nat} {I : Nat → Int32} {A : Nat → Nat → Int32} {a1 : Int32} {P : Int32 → Prop} (hw : g_Mo_cutOff I A a1 P) : ∀ sz, Met l y_Mo_cutOff (WL y_Mo_cutOff c_Mo_cutOff 6 (some .int)) { frames := 3, cells := 0, slots := 0, locals := 72 } (va_Pc [.ref (ad 0), .int a1] (PreW D cy (wM cy ad I A) sz)) (vp_Si P) 0 0 (fun _ => False) := by
  refine met_p R_Mo .int db_Mo_cutOff (by decide) rfl rfl (Nat.le_of_ble_eq_true rfl) ?_
  intro p e s m below meth c Z Q ls C h hl hret
  have hl : lv_has ls 6 [(0, .ref (ad 0)), (1, .int a1)] := hl
  refine i_iconst (v := (0 : Int32)) (n := 1) C 0 rfl rfl rfl ?_
  refine i_istore_n (lv' := [(2, .int (0 : Int32)), (0, .ref (ad 0)), (1, .int a1)]) (n := 2) C 1 rfl rfl rfl hl (by decide) rfl (fun ls hl => ?_)
  refine i_iconst (v := (0 : Int32)) (n := 3) C 2 rfl rfl rfl ?_
  refine i_istore_n (lv' := [(3, .int (0 : Int32)), (2, .int (0 : Int32)), (0, .ref (ad 0)), (1, .int a1)]) (n := 4) C 3 rfl rfl rfl hl (by decide) rfl (fun ls hl => ?_)
  obtain ⟨n4, hw⟩ := hw
  refine e_Mo_cutOff_4 C h hret (fun x2_4 ls hl hw => ?_) n4 (0 : Int32) (0 : Int32) ls (lv_sub hl [2, 3, 1, 0] rfl) hw
  have hl : lv_has ls 6 [(0, .ref (ad 0)), (1, .int a1), (2, .int x2_4)] := hl
  refine i_bipush (v := (-6 : Int32)) (n := 39) C 23 rfl rfl rfl ?_
  refine i_istore_n (lv' := [(3, .int (-6 : Int32)), (0, .ref (ad 0)), (1, .int a1), (2, .int x2_4)]) (n := 40) C 24 rfl rfl rfl hl (by decide) rfl (fun ls hl => ?_)
  refine i_iconst (v := (0 : Int32)) (n := 41) C 25 rfl rfl rfl ?_
  refine i_istore (lv' := [(4, .int (0 : Int32)), (3, .int (-6 : Int32)), (0, .ref (ad 0)), (1, .int a1), (2, .int x2_4)]) (n := 43) C 26 rfl rfl hl (by decide) rfl (fun ls hl => ?_)
  obtain ⟨n14, hw⟩ := hw
  refine e_Mo_cutOff_43 C h hret (fun x3_14 ls hl hw => ?_) n14 x2_4 (-6 : Int32) (0 : Int32) ls (lv_sub hl [2, 3, 4, 1, 0] rfl) hw
  have hl : lv_has ls 6 [(3, .int x3_14)] := hl
  refine i_iload_n (n := 114) C 64 rfl rfl rfl hl 0 rfl ?_
  exact hret _ _ _ rfl hw (C.dg (k := 65) rfl)
end S231
theorem kV_Mo_251 {R : Room} {s : State} {args : Array Value} (hR : 3 + 1 ≤ R.frames ∧ 8 + (6 + 11) + 72 ≤ R.locals) (ht : ∀ w ∈ GW, w.before args s = true) : CallW R s args R_Mo R_Mo 251 y_Mo_cutOff c_Mo_cutOff 6 (some .int) (WL y_Mo_cutOff c_Mo_cutOff 6 (some .int)) { frames := 3, cells := 0, slots := 0, locals := 72 } 0 0 1 := cwV 1 ht (GW_v w_7_5 w_7_7 w_0_47 w_1_7 (GW_wl w_7_8)) rfl rfl rfl (by decide +kernel) hR
section S232
variable {p : Program} {l : Launch} {e : Env} {R : Room} {s : State} {m : MethodId} {args : Array Value} {below : List Frame} {meth : Method} {c : Code} {H : Heap} {locs : List Loc} {cells slots : Nat} {Q : State → Prop}
variable {cc : ByteArray} {pc n nL : Nat} {ls : Array Slot} {rest : List Value} {D : va_G} {cy : Nat → ClassId} {Z : Nat → Prop} {ad : Nat → Nat} {tb : List (Nat × Instr × Nat)} {lv : List (Nat × Value)}
set_option maxHeartbeats 4000000 in
set_option maxRecDepth 100000 in
theorem m_Mo_cut {l : Launch} {D : va_G} {cy : Nat → ClassId} {ad : Nat → Nat} {I : Nat → Int32} {A : Nat → Nat → Int32} {a1 : Int32} {P : Int32 → Prop} (hw : g_Mo_cut I A a1 P) : ∀ sz, Met l y_Mo_cut (WL y_Mo_cut c_Mo_cut 2 (some .int)) { frames := 4, cells := 0, slots := 0, locals := 97 } (va_Pc [.ref (ad 0), .int a1] (PreW D cy (wM cy ad I A) sz)) (vp_Si P) 0 0 (fun _ => False) := by
  refine met_p R_Mo .int db_Mo_cut (by decide) rfl rfl (Nat.le_of_ble_eq_true rfl) ?_
  intro p e s m below meth c Z Q ls C h hl hret
  have hl : lv_has ls 2 [(0, .ref (ad 0)), (1, .int a1)] := hl
  refine i_aload_n (n := 1) C 0 rfl rfl rfl hl 0 rfl ?_
  refine i_iload_n (n := 2) C 1 rfl rfl rfl hl 1 rfl ?_
  refine i_callVp (rest := []) (ci := 11) (qc := (R_Mo, T_Mo, 50)) (n := 5) C 2 rfl rfl hl h rfl (wM_get (h := 0) (by decide)) (kV_Mo_136 ⟨by decide, by decide⟩) (m_Mo_isNode hw) rfl rfl (Nat.le_of_ble_eq_true rfl) ⟨by decide, by decide⟩ (fun r1 hw => ?_)
  refine i_if_eq (tgt := 16) (n := 8) C 3 rfl rfl rfl (fun c2 => ?_) (fun c2 => ?_)
  · replace hw := hw.1 c2
    refine i_iconst (v := (-1 : Int32)) (n := 17) C 8 rfl rfl rfl ?_
    exact hret _ _ _ rfl hw (C.dg (k := 9) rfl)
  · replace hw := hw.2 c2
    refine i_aload_n (n := 9) C 4 rfl rfl rfl hl 0 rfl ?_
    refine i_iload_n (n := 10) C 5 rfl rfl rfl hl 1 rfl ?_
    refine i_callVp (rest := []) (ci := 11) (qc := (R_Mo, T_Mo, 50)) (n := 13) C 6 rfl rfl hl h rfl (wM_get (h := 0) (by decide)) (kV_Mo_251 ⟨by decide, by decide⟩) (m_Mo_cutOff hw) rfl rfl (Nat.le_of_ble_eq_true rfl) ⟨by decide, by decide⟩ (fun r3 hw => ?_)
    refine i_goto (tgt := 17) C 7 rfl rfl ?_
    exact hret _ _ _ rfl hw (C.dg (k := 9) rfl)
end S232
section S233
variable {p : Program} {l : Launch} {e : Env} {R : Room} {s : State} {m : MethodId} {args : Array Value} {below : List Frame} {meth : Method} {c : Code} {H : Heap} {locs : List Loc} {cells slots : Nat} {Q : State → Prop}
variable {cc : ByteArray} {pc n nL : Nat} {ls : Array Slot} {rest : List Value} {D : va_G} {cy : Nat → ClassId} {Z : Nat → Prop} {ad : Nat → Nat} {tb : List (Nat × Instr × Nat)} {lv : List (Nat × Value)}
set_option maxHeartbeats 4000000 in
set_option maxRecDepth 100000 in
theorem m_Mo_dry {l : Launch} {D : va_G} {cy : Nat → ClassId} {ad : Nat → Nat} {I : Nat → Int32} {A : Nat → Nat → Int32} {a1 : Int32} {P : Int32 → Prop} (hw : g_Mo_dry I A a1 P) : ∀ sz, Met l y_Mo_dry (WL y_Mo_dry c_Mo_dry 3 (some .int)) { frames := 4, cells := 0, slots := 0, locals := 97 } (va_Pc [.ref (ad 0), .int a1] (PreW D cy (wM cy ad I A) sz)) (vp_Si P) 0 0 (fun _ => False) := by
  refine met_p R_Mo .int db_Mo_dry (by decide) rfl rfl (Nat.le_of_ble_eq_true rfl) ?_
  intro p e s m below meth c Z Q ls C h hl hret
  have hl : lv_has ls 3 [(0, .ref (ad 0)), (1, .int a1)] := hl
  refine i_aload_n (n := 1) C 0 rfl rfl rfl hl 0 rfl ?_
  refine i_iload_n (n := 2) C 1 rfl rfl rfl hl 1 rfl ?_
  refine i_callVp (rest := []) (ci := 11) (qc := (R_Mo, T_Mo, 50)) (n := 5) C 2 rfl rfl hl h rfl (wM_get (h := 0) (by decide)) (kV_Mo_136 ⟨by decide, by decide⟩) (m_Mo_isNode hw) rfl rfl (Nat.le_of_ble_eq_true rfl) ⟨by decide, by decide⟩ (fun r1 hw => ?_)
  refine i_if_ne (tgt := 10) (n := 8) C 3 rfl rfl rfl (fun c2 => ?_) (fun c2 => ?_)
  · replace hw := hw.1 c2
    refine i_aload_n (n := 11) C 6 rfl rfl rfl hl 0 rfl ?_
    refine i_iload_n (n := 12) C 7 rfl rfl rfl hl 1 rfl ?_
    refine i_callVp (rest := []) (ci := 11) (qc := (R_Mo, T_Mo, 50)) (n := 15) C 8 rfl rfl hl h rfl (wM_get (h := 0) (by decide)) (kV_Mo_251 ⟨by decide, by decide⟩) (m_Mo_cutOff hw) rfl rfl (Nat.le_of_ble_eq_true rfl) ⟨by decide, by decide⟩ (fun r3 hw => ?_)
    refine i_istore_n (lv' := [(2, .int r3), (0, .ref (ad 0)), (1, .int a1)]) (n := 16) C 9 rfl rfl rfl hl (by decide) rfl (fun ls hl => ?_)
    refine i_iload_n (n := 17) C 10 rfl rfl rfl hl 0 rfl ?_
    refine i_if_ge (tgt := 25) (n := 20) C 11 rfl rfl rfl (fun c4 => ?_) (fun c4 => ?_)
    · replace hw := hw.1 c4
      refine i_aload_n (n := 26) C 14 rfl rfl rfl hl 1 rfl ?_
      refine i_iconst (v := (0 : Int32)) (n := 27) C 15 rfl rfl rfl ?_
      refine i_callVp (rest := []) (ci := 11) (qc := (R_Mo, T_Mo, 50)) (n := 30) C 16 rfl rfl hl h rfl (wM_get (h := 0) (by decide)) (kV_Mo_248 ⟨by decide, by decide⟩) (m_Mo_joined hw) rfl rfl (Nat.le_of_ble_eq_true rfl) ⟨by decide, by decide⟩ (fun r5 hw => ?_)
      refine i_aload_n (n := 31) C 17 rfl rfl rfl hl 1 rfl ?_
      refine i_iload_n (n := 32) C 18 rfl rfl rfl hl 0 rfl ?_
      refine i_callVp (rest := [.int r5]) (ci := 11) (qc := (R_Mo, T_Mo, 50)) (n := 35) C 19 rfl rfl hl h rfl (wM_get (h := 0) (by decide)) (kV_Mo_248 ⟨by decide, by decide⟩) (m_Mo_joined hw) rfl rfl (Nat.le_of_ble_eq_true rfl) ⟨by decide, by decide⟩ (fun r6 hw => ?_)
      refine i_iconst (v := (-1 : Int32)) (n := 36) C 20 rfl rfl rfl ?_
      refine i_ixor (n := 37) C 21 rfl rfl ?_
      refine i_iand (n := 38) C 22 rfl rfl ?_
      exact hret _ _ _ rfl hw (C.dg (k := 23) rfl)
    · replace hw := hw.2 c4
      refine i_bipush (v := (-6 : Int32)) (n := 22) C 12 rfl rfl rfl ?_
      refine i_goto (tgt := 38) C 13 rfl rfl ?_
      exact hret _ _ _ rfl hw (C.dg (k := 23) rfl)
  · replace hw := hw.2 c2
    refine i_iconst (v := (-1 : Int32)) (n := 9) C 4 rfl rfl rfl ?_
    exact hret _ _ _ rfl hw (C.dg (k := 5) rfl)
end S233
section S234
variable {p : Program} {l : Launch} {e : Env} {R : Room} {s : State} {m : MethodId} {args : Array Value} {below : List Frame} {meth : Method} {c : Code} {H : Heap} {locs : List Loc} {cells slots : Nat} {Q : State → Prop}
variable {cc : ByteArray} {pc n nL : Nat} {ls : Array Slot} {rest : List Value} {D : va_G} {cy : Nat → ClassId} {Z : Nat → Prop} {ad : Nat → Nat} {tb : List (Nat × Instr × Nat)} {lv : List (Nat × Value)}
set_option maxHeartbeats 4000000 in
set_option maxRecDepth 100000 in
theorem e_Mo_seek_32  {a1 : Int32} {a2 : Int32} {a3 : Int32} {P : Int32 → ((Nat → Int32) × (Nat → Nat → Int32)) → Prop} {kx32 : (Nat → Int32) → (Nat → Nat → Int32) → Int32 → Prop} (C : CX D cy R_Mo c_Mo_seek tb_Mo_seek 10 p s m args c Z) (hret : RetI p l e { frames := 4, cells := 0, slots := 0, locals := 95 } s m args below meth c c_Mo_seek .int D Z Q (fun (u : (Nat → Int32) × (Nat → Nat → Int32)) => wM cy ad u.1 u.2) P 0 0)
    (hx32 : ∀ (I : Nat → Int32) (A : Nat → Nat → Int32) (x4 : Int32) (ls : Array Slot) (H : Heap) (locs : List Loc), lv_has ls 10 [(0, .ref (ad 0)), (1, .int a1), (2, .int a2), (3, .int a3), (4, .int x4)] → HXw D Z s.heap H locs (wM cy ad I A) → kx32 I A x4 → W p l e { frames := 4, cells := 0, slots := 0, locals := 95 } s m args below meth c H locs 0 0 Q (F0 m 61 ls [])) :
    ∀ (n : Nat) (I : Nat → Int32) (A : Nat → Nat → Int32) (x4 : Int32) (x5 : Int32) (ls : Array Slot) (H : Heap) (locs : List Loc), lv_has ls 10 [(0, .ref (ad 0)), (1, .int a1), (2, .int a2), (3, .int a3), (4, .int x4), (5, .int x5)] → HXw D Z s.heap H locs (wM cy ad I A) → g_Mo_seek_32 a1 a2 a3 P kx32 n I A x4 x5 → W p l e { frames := 4, cells := 0, slots := 0, locals := 95 } s m args below meth c H locs 0 0 Q (F0 m 32 ls []) := by
  intro n
  induction n with
  | zero => intro I A x4 x5 ls H locs hl h hw; exact hw.elim
  | succ n ih =>
    intro I A x4 x5 ls H locs hl h hw
    refine i_iload (n := 34) C 17 rfl rfl hl 5 rfl ?_
    refine i_aload_n (n := 35) C 18 rfl rfl rfl hl 0 rfl ?_
    refine fgM_Mo_122 (n := 38) C 19 rfl rfl h ?_
    refine i_icmp_ge (tgt := 61) (n := 41) C 20 rfl rfl rfl (fun c6 => ?_) (fun c6 => ?_)
    · replace hw := hw.1 c6
      exact hx32 I A x4 ls _ _ (lv_sub hl [0, 1, 2, 3, 4] rfl) h hw
    · replace hw := hw.2 c6
      refine i_aload_n (n := 42) C 21 rfl rfl rfl hl 0 rfl ?_
      refine fgM_Mo_116 (n := 45) C 22 rfl rfl h ?_
      refine i_iload (n := 47) C 23 rfl rfl hl 5 rfl ?_
      refine i_aload_n (n := 48) C 24 rfl rfl rfl hl 0 rfl ?_
      refine fgM_Mo_50 (n := 51) C 25 rfl rfl h ?_
      refine i_iload (n := 53) C 26 rfl rfl hl 5 rfl ?_
      obtain ⟨hb, hw⟩ := hw
      refine i_iald (n := 54) C 27 rfl rfl h (wM_arr 13 (by decide) rfl) hb ?_
      obtain ⟨hb, hw⟩ := hw
      refine i_iast (n := 55) C 28 rfl rfl h (wM_arr 35 (by decide) rfl) hb (wM_sA 35 (by decide) rfl _ _) (fun H locs h => ?_)
      refine i_iinc (v := x5 + (1 : Int32)) (lv' := [(5, .int (x5 + (1 : Int32))), (0, .ref (ad 0)), (1, .int a1), (2, .int a2), (3, .int a3), (4, .int x4)]) (n := 58) C 29 rfl rfl hl 5 rfl rfl (by decide) rfl (fun ls hl => ?_)
      refine i_goto (tgt := 32) C 30 rfl rfl ?_
      exact ih I (sA A 35 x5 (A 13 x5.toNatClampNeg)) x4 (x5 + (1 : Int32)) ls _ _ (lv_sub hl [1, 2, 3, 4, 5, 0] rfl) h hw
set_option maxHeartbeats 4000000 in
set_option maxRecDepth 100000 in
theorem e_Mo_seek_253  {a1 : Int32} {a2 : Int32} {a3 : Int32} {P : Int32 → ((Nat → Int32) × (Nat → Nat → Int32)) → Prop} {kb67 : (Nat → Int32) → (Nat → Nat → Int32) → Int32 → Int32 → Int32 → Prop} (C : CX D cy R_Mo c_Mo_seek tb_Mo_seek 10 p s m args c Z) (hret : RetI p l e { frames := 4, cells := 0, slots := 0, locals := 95 } s m args below meth c c_Mo_seek .int D Z Q (fun (u : (Nat → Int32) × (Nat → Nat → Int32)) => wM cy ad u.1 u.2) P 0 0)
    (hb67 : ∀ (I : Nat → Int32) (A : Nat → Nat → Int32) (x4 : Int32) (x5 : Int32) (x6 : Int32) (ls : Array Slot) (H : Heap) (locs : List Loc), lv_has ls 10 [(0, .ref (ad 0)), (1, .int a1), (2, .int a2), (3, .int a3), (4, .int x4), (5, .int x5), (6, .int x6)] → HXw D Z s.heap H locs (wM cy ad I A) → kb67 I A x4 x5 x6 → W p l e { frames := 4, cells := 0, slots := 0, locals := 95 } s m args below meth c H locs 0 0 Q (F0 m 67 ls [])) :
    ∀ (I : Nat → Int32) (A : Nat → Nat → Int32) (x4 : Int32) (x5 : Int32) (x6 : Int32) (ls : Array Slot) (H : Heap) (locs : List Loc), lv_has ls 10 [(0, .ref (ad 0)), (1, .int a1), (2, .int a2), (3, .int a3), (4, .int x4), (5, .int x5), (6, .int x6)] → HXw D Z s.heap H locs (wM cy ad I A) → g_Mo_seek_253 a1 a2 a3 P kb67 I A x4 x5 x6 → W p l e { frames := 4, cells := 0, slots := 0, locals := 95 } s m args below meth c H locs 0 0 Q (F0 m 253 ls []) := by
  intro I A x4 x5 x6 ls H locs hl h hw
  refine i_iinc (v := x6 + (1 : Int32)) (lv' := [(6, .int (x6 + (1 : Int32))), (0, .ref (ad 0)), (1, .int a1), (2, .int a2), (3, .int a3), (4, .int x4), (5, .int x5)]) (n := 256) C 135 rfl rfl hl 6 rfl rfl (by decide) rfl (fun ls hl => ?_)
  refine i_goto (tgt := 67) C 136 rfl rfl ?_
  exact hb67 I A x4 x5 (x6 + (1 : Int32)) ls _ _ (lv_sub hl [1, 2, 3, 4, 5, 6, 0] rfl) h hw
set_option maxHeartbeats 4000000 in
set_option maxRecDepth 100000 in
theorem e_Mo_seek_162  {a1 : Int32} {a2 : Int32} {a3 : Int32} {P : Int32 → ((Nat → Int32) × (Nat → Nat → Int32)) → Prop} {kb122 : (Nat → Int32) → (Nat → Nat → Int32) → Int32 → Int32 → Int32 → Int32 → Int32 → Prop} (C : CX D cy R_Mo c_Mo_seek tb_Mo_seek 10 p s m args c Z) (hret : RetI p l e { frames := 4, cells := 0, slots := 0, locals := 95 } s m args below meth c c_Mo_seek .int D Z Q (fun (u : (Nat → Int32) × (Nat → Nat → Int32)) => wM cy ad u.1 u.2) P 0 0)
    (hb122 : ∀ (I : Nat → Int32) (A : Nat → Nat → Int32) (x4 : Int32) (x5 : Int32) (x6 : Int32) (x7 : Int32) (x8 : Int32) (ls : Array Slot) (H : Heap) (locs : List Loc), lv_has ls 10 [(0, .ref (ad 0)), (1, .int a1), (2, .int a2), (3, .int a3), (4, .int x4), (5, .int x5), (6, .int x6), (7, .int x7), (8, .int x8)] → HXw D Z s.heap H locs (wM cy ad I A) → kb122 I A x4 x5 x6 x7 x8 → W p l e { frames := 4, cells := 0, slots := 0, locals := 95 } s m args below meth c H locs 0 0 Q (F0 m 122 ls [])) :
    ∀ (I : Nat → Int32) (A : Nat → Nat → Int32) (x4 : Int32) (x5 : Int32) (x6 : Int32) (x8 : Int32) (s0 : Int32) (s1 : Int32) (ls : Array Slot) (H : Heap) (locs : List Loc), lv_has ls 10 [(0, .ref (ad 0)), (1, .int a1), (2, .int a2), (3, .int a3), (4, .int x4), (5, .int x5), (6, .int x6), (8, .int x8)] → HXw D Z s.heap H locs (wM cy ad I A) → g_Mo_seek_162 a1 a2 a3 P kb122 I A x4 x5 x6 x8 s0 s1 → W p l e { frames := 4, cells := 0, slots := 0, locals := 95 } s m args below meth c H locs 0 0 Q (F0 m 162 ls [.int s1, .int s0]) := by
  intro I A x4 x5 x6 x8 s0 s1 ls H locs hl h hw
  refine i_iadd (n := 163) C 86 rfl rfl ?_
  refine lv_topi (fun y16 ey16 => ?_)
  replace hw := hw y16 ey16
  refine i_istore (lv' := [(7, .int y16), (0, .ref (ad 0)), (1, .int a1), (2, .int a2), (3, .int a3), (4, .int x4), (5, .int x5), (6, .int x6), (8, .int x8)]) (n := 165) C 87 rfl rfl hl (by decide) rfl (fun ls hl => ?_)
  refine i_iinc (v := x8 + (1 : Int32)) (lv' := [(8, .int (x8 + (1 : Int32))), (7, .int y16), (0, .ref (ad 0)), (1, .int a1), (2, .int a2), (3, .int a3), (4, .int x4), (5, .int x5), (6, .int x6)]) (n := 168) C 88 rfl rfl hl 8 rfl rfl (by decide) rfl (fun ls hl => ?_)
  refine i_goto (tgt := 122) C 89 rfl rfl ?_
  exact hb122 I A x4 x5 x6 y16 (x8 + (1 : Int32)) ls _ _ (lv_sub hl [2, 3, 4, 5, 6, 7, 8, 1, 0] rfl) h hw
set_option maxHeartbeats 4000000 in
set_option maxRecDepth 100000 in
theorem e_Mo_seek_122  {a1 : Int32} {a2 : Int32} {a3 : Int32} {P : Int32 → ((Nat → Int32) × (Nat → Nat → Int32)) → Prop} {kx122 : (Nat → Int32) → (Nat → Nat → Int32) → Int32 → Int32 → Int32 → Int32 → Prop} (C : CX D cy R_Mo c_Mo_seek tb_Mo_seek 10 p s m args c Z) (hret : RetI p l e { frames := 4, cells := 0, slots := 0, locals := 95 } s m args below meth c c_Mo_seek .int D Z Q (fun (u : (Nat → Int32) × (Nat → Nat → Int32)) => wM cy ad u.1 u.2) P 0 0)
    (hx122 : ∀ (I : Nat → Int32) (A : Nat → Nat → Int32) (x4 : Int32) (x5 : Int32) (x6 : Int32) (x7 : Int32) (ls : Array Slot) (H : Heap) (locs : List Loc), lv_has ls 10 [(0, .ref (ad 0)), (1, .int a1), (2, .int a2), (3, .int a3), (4, .int x4), (5, .int x5), (6, .int x6), (7, .int x7)] → HXw D Z s.heap H locs (wM cy ad I A) → kx122 I A x4 x5 x6 x7 → W p l e { frames := 4, cells := 0, slots := 0, locals := 95 } s m args below meth c H locs 0 0 Q (F0 m 171 ls [])) :
    ∀ (n : Nat) (I : Nat → Int32) (A : Nat → Nat → Int32) (x4 : Int32) (x5 : Int32) (x6 : Int32) (x7 : Int32) (x8 : Int32) (ls : Array Slot) (H : Heap) (locs : List Loc), lv_has ls 10 [(0, .ref (ad 0)), (1, .int a1), (2, .int a2), (3, .int a3), (4, .int x4), (5, .int x5), (6, .int x6), (7, .int x7), (8, .int x8)] → HXw D Z s.heap H locs (wM cy ad I A) → g_Mo_seek_122 a1 a2 a3 P kx122 n I A x4 x5 x6 x7 x8 → W p l e { frames := 4, cells := 0, slots := 0, locals := 95 } s m args below meth c H locs 0 0 Q (F0 m 122 ls []) := by
  intro n
  induction n with
  | zero => intro I A x4 x5 x6 x7 x8 ls H locs hl h hw; exact hw.elim
  | succ n ih =>
    intro I A x4 x5 x6 x7 x8 ls H locs hl h hw
    refine i_iload (n := 124) C 66 rfl rfl hl 8 rfl ?_
    refine i_aload_n (n := 125) C 67 rfl rfl rfl hl 0 rfl ?_
    refine fgM_Mo_122 (n := 128) C 68 rfl rfl h ?_
    refine i_icmp_ge (tgt := 171) (n := 131) C 69 rfl rfl rfl (fun c12 => ?_) (fun c12 => ?_)
    · replace hw := hw.1 c12
      exact hx122 I A x4 x5 x6 x7 ls _ _ (lv_sub hl [0, 1, 2, 3, 4, 5, 6, 7] rfl) h hw
    · replace hw := hw.2 c12
      refine i_aload_n (n := 132) C 70 rfl rfl rfl hl 0 rfl ?_
      refine i_iload (n := 134) C 71 rfl rfl hl 8 rfl ?_
      refine i_callVp (rest := []) (ci := 11) (qc := (R_Mo, T_Mo, 50)) (n := 137) C 72 rfl rfl hl h rfl (wM_get (h := 0) (by decide)) (kV_Mo_168 ⟨by decide, by decide⟩) (m_Mo_pressOf hw) rfl rfl (Nat.le_of_ble_eq_true rfl) ⟨by decide, by decide⟩ (fun r13 hw => ?_)
      refine i_aload_n (n := 138) C 73 rfl rfl rfl hl 0 rfl ?_
      refine fgM_Mo_47 (n := 141) C 74 rfl rfl h ?_
      refine i_iload (n := 143) C 75 rfl rfl hl 8 rfl ?_
      obtain ⟨hb, hw⟩ := hw
      refine i_iald (n := 144) C 76 rfl rfl h (wM_arr 12 (by decide) rfl) hb ?_
      refine i_isub (n := 145) C 77 rfl rfl ?_
      refine lv_topi (fun y14 ey14 => ?_)
      replace hw := hw y14 ey14
      refine i_istore (lv' := [(9, .int y14), (0, .ref (ad 0)), (1, .int a1), (2, .int a2), (3, .int a3), (4, .int x4), (5, .int x5), (6, .int x6), (7, .int x7), (8, .int x8)]) (n := 147) C 78 rfl rfl hl (by decide) rfl (fun ls hl => ?_)
      refine i_iload (n := 149) C 79 rfl rfl hl 8 rfl ?_
      refine i_iload (n := 151) C 80 rfl rfl hl 0 rfl ?_
      refine i_if_ge (tgt := 160) (n := 154) C 81 rfl rfl rfl (fun c15 => ?_) (fun c15 => ?_)
      · replace hw := hw.1 c15
        refine i_iload (n := 162) C 85 rfl rfl hl 0 rfl ?_
        exact e_Mo_seek_162 C hret ih I A x4 x5 x6 x8 x7 y14 ls _ _ (lv_sub hl [1, 2, 3, 4, 5, 6, 7, 9] rfl) h hw
      · replace hw := hw.2 c15
        refine i_iload (n := 156) C 82 rfl rfl hl 0 rfl ?_
        refine i_ineg (n := 157) C 83 rfl rfl ?_
        refine i_goto (tgt := 162) C 84 rfl rfl ?_
        exact e_Mo_seek_162 C hret ih I A x4 x5 x6 x8 x7 (-y14) ls _ _ (lv_sub hl [1, 2, 3, 4, 5, 6, 7, 9] rfl) h hw
set_option maxHeartbeats 4000000 in
set_option maxRecDepth 100000 in
theorem e_Mo_seek_175  {a1 : Int32} {a2 : Int32} {a3 : Int32} {P : Int32 → ((Nat → Int32) × (Nat → Nat → Int32)) → Prop} {kx175 : (Nat → Int32) → (Nat → Nat → Int32) → Int32 → Int32 → Int32 → Int32 → Int32 → Prop} (C : CX D cy R_Mo c_Mo_seek tb_Mo_seek 10 p s m args c Z) (hret : RetI p l e { frames := 4, cells := 0, slots := 0, locals := 95 } s m args below meth c c_Mo_seek .int D Z Q (fun (u : (Nat → Int32) × (Nat → Nat → Int32)) => wM cy ad u.1 u.2) P 0 0)
    (hx175 : ∀ (I : Nat → Int32) (A : Nat → Nat → Int32) (x4 : Int32) (x5 : Int32) (x6 : Int32) (x7 : Int32) (x8 : Int32) (ls : Array Slot) (H : Heap) (locs : List Loc), lv_has ls 10 [(0, .ref (ad 0)), (1, .int a1), (2, .int a2), (3, .int a3), (4, .int x4), (5, .int x5), (6, .int x6), (7, .int x7), (8, .int x8)] → HXw D Z s.heap H locs (wM cy ad I A) → kx175 I A x4 x5 x6 x7 x8 → W p l e { frames := 4, cells := 0, slots := 0, locals := 95 } s m args below meth c H locs 0 0 Q (F0 m 232 ls [])) :
    ∀ (n : Nat) (I : Nat → Int32) (A : Nat → Nat → Int32) (x4 : Int32) (x5 : Int32) (x6 : Int32) (x7 : Int32) (x8 : Int32) (ls : Array Slot) (H : Heap) (locs : List Loc), lv_has ls 10 [(0, .ref (ad 0)), (1, .int a1), (2, .int a2), (3, .int a3), (4, .int x4), (5, .int x5), (6, .int x6), (7, .int x7), (8, .int x8)] → HXw D Z s.heap H locs (wM cy ad I A) → g_Mo_seek_175 a1 a2 a3 P kx175 n I A x4 x5 x6 x7 x8 → W p l e { frames := 4, cells := 0, slots := 0, locals := 95 } s m args below meth c H locs 0 0 Q (F0 m 175 ls []) := by
  intro n
  induction n with
  | zero => intro I A x4 x5 x6 x7 x8 ls H locs hl h hw; exact hw.elim
  | succ n ih =>
    intro I A x4 x5 x6 x7 x8 ls H locs hl h hw
    refine i_iload (n := 177) C 92 rfl rfl hl 8 rfl ?_
    refine i_if_le (tgt := 232) (n := 180) C 93 rfl rfl rfl (fun c18 => ?_) (fun c18 => ?_)
    · replace hw := hw.1 c18
      exact hx175 I A x4 x5 x6 x7 x8 ls _ _ hl h hw
    · replace hw := hw.2 c18
      refine i_aload_n (n := 181) C 94 rfl rfl rfl hl 0 rfl ?_
      refine fgM_Mo_113 (n := 184) C 95 rfl rfl h ?_
      refine i_iload (n := 186) C 96 rfl rfl hl 8 rfl ?_
      refine i_iconst (v := (1 : Int32)) (n := 187) C 97 rfl rfl rfl ?_
      refine i_isub (n := 188) C 98 rfl rfl ?_
      obtain ⟨hb, hw⟩ := hw
      refine i_iald (n := 189) C 99 rfl rfl h (wM_arr 34 (by decide) rfl) hb ?_
      refine i_iload (n := 191) C 100 rfl rfl hl 7 rfl ?_
      refine i_icmp_le (tgt := 232) (n := 194) C 101 rfl rfl rfl (fun c19 => ?_) (fun c19 => ?_)
      · replace hw := hw.1 c19
        exact hx175 I A x4 x5 x6 x7 x8 ls _ _ hl h hw
      · replace hw := hw.2 c19
        refine i_aload_n (n := 195) C 102 rfl rfl rfl hl 0 rfl ?_
        refine fgM_Mo_113 (n := 198) C 103 rfl rfl h ?_
        refine i_iload (n := 200) C 104 rfl rfl hl 8 rfl ?_
        refine i_aload_n (n := 201) C 105 rfl rfl rfl hl 0 rfl ?_
        refine fgM_Mo_113 (n := 204) C 106 rfl rfl h ?_
        refine i_iload (n := 206) C 107 rfl rfl hl 8 rfl ?_
        refine i_iconst (v := (1 : Int32)) (n := 207) C 108 rfl rfl rfl ?_
        refine i_isub (n := 208) C 109 rfl rfl ?_
        obtain ⟨hb, hw⟩ := hw
        refine i_iald (n := 209) C 110 rfl rfl h (wM_arr 34 (by decide) rfl) hb ?_
        obtain ⟨hb, hw⟩ := hw
        refine i_iast (n := 210) C 111 rfl rfl h (wM_arr 34 (by decide) rfl) hb (wM_sA 34 (by decide) rfl _ _) (fun H locs h => ?_)
        refine i_aload_n (n := 211) C 112 rfl rfl rfl hl 0 rfl ?_
        refine fgM_Mo_110 (n := 214) C 113 rfl rfl h ?_
        refine i_iload (n := 216) C 114 rfl rfl hl 8 rfl ?_
        refine i_aload_n (n := 217) C 115 rfl rfl rfl hl 0 rfl ?_
        refine fgM_Mo_110 (n := 220) C 116 rfl rfl h ?_
        refine i_iload (n := 222) C 117 rfl rfl hl 8 rfl ?_
        refine i_iconst (v := (1 : Int32)) (n := 223) C 118 rfl rfl rfl ?_
        refine i_isub (n := 224) C 119 rfl rfl ?_
        obtain ⟨hb, hw⟩ := hw
        refine i_iald (n := 225) C 120 rfl rfl h (wM_arr 33 (by decide) rfl) hb ?_
        obtain ⟨hb, hw⟩ := hw
        refine i_iast (n := 226) C 121 rfl rfl h (wM_arr 33 (by decide) rfl) hb (wM_sA 33 (by decide) rfl _ _) (fun H locs h => ?_)
        refine i_iinc (v := x8 + (-1 : Int32)) (lv' := [(8, .int (x8 + (-1 : Int32))), (0, .ref (ad 0)), (1, .int a1), (2, .int a2), (3, .int a3), (4, .int x4), (5, .int x5), (6, .int x6), (7, .int x7)]) (n := 229) C 122 rfl rfl hl 8 rfl rfl (by decide) rfl (fun ls hl => ?_)
        refine i_goto (tgt := 175) C 123 rfl rfl ?_
        exact ih I (sA (sA A 34 x8 (A 34 (x8 - (1 : Int32)).toNatClampNeg)) 33 x8 ((sA A 34 x8 (A 34 (x8 - (1 : Int32)).toNatClampNeg)) 33 (x8 - (1 : Int32)).toNatClampNeg)) x4 x5 x6 x7 (x8 + (-1 : Int32)) ls _ _ (lv_sub hl [1, 2, 3, 4, 5, 6, 7, 8, 0] rfl) h hw
set_option maxHeartbeats 4000000 in
set_option maxRecDepth 100000 in
theorem e_Mo_seek_232  {a1 : Int32} {a2 : Int32} {a3 : Int32} {P : Int32 → ((Nat → Int32) × (Nat → Nat → Int32)) → Prop} {kb67 : (Nat → Int32) → (Nat → Nat → Int32) → Int32 → Int32 → Int32 → Prop} (C : CX D cy R_Mo c_Mo_seek tb_Mo_seek 10 p s m args c Z) (hret : RetI p l e { frames := 4, cells := 0, slots := 0, locals := 95 } s m args below meth c c_Mo_seek .int D Z Q (fun (u : (Nat → Int32) × (Nat → Nat → Int32)) => wM cy ad u.1 u.2) P 0 0)
    (hb67 : ∀ (I : Nat → Int32) (A : Nat → Nat → Int32) (x4 : Int32) (x5 : Int32) (x6 : Int32) (ls : Array Slot) (H : Heap) (locs : List Loc), lv_has ls 10 [(0, .ref (ad 0)), (1, .int a1), (2, .int a2), (3, .int a3), (4, .int x4), (5, .int x5), (6, .int x6)] → HXw D Z s.heap H locs (wM cy ad I A) → kb67 I A x4 x5 x6 → W p l e { frames := 4, cells := 0, slots := 0, locals := 95 } s m args below meth c H locs 0 0 Q (F0 m 67 ls [])) :
    ∀ (I : Nat → Int32) (A : Nat → Nat → Int32) (x4 : Int32) (x5 : Int32) (x6 : Int32) (x7 : Int32) (x8 : Int32) (ls : Array Slot) (H : Heap) (locs : List Loc), lv_has ls 10 [(0, .ref (ad 0)), (1, .int a1), (2, .int a2), (3, .int a3), (4, .int x4), (5, .int x5), (6, .int x6), (7, .int x7), (8, .int x8)] → HXw D Z s.heap H locs (wM cy ad I A) → g_Mo_seek_232 a1 a2 a3 P kb67 I A x4 x5 x6 x7 x8 → W p l e { frames := 4, cells := 0, slots := 0, locals := 95 } s m args below meth c H locs 0 0 Q (F0 m 232 ls []) := by
  intro I A x4 x5 x6 x7 x8 ls H locs hl h hw
  refine i_aload_n (n := 233) C 124 rfl rfl rfl hl 0 rfl ?_
  refine fgM_Mo_113 (n := 236) C 125 rfl rfl h ?_
  refine i_iload (n := 238) C 126 rfl rfl hl 8 rfl ?_
  refine i_iload (n := 240) C 127 rfl rfl hl 7 rfl ?_
  obtain ⟨hb, hw⟩ := hw
  refine i_iast (n := 241) C 128 rfl rfl h (wM_arr 34 (by decide) rfl) hb (wM_sA 34 (by decide) rfl _ _) (fun H locs h => ?_)
  refine i_aload_n (n := 242) C 129 rfl rfl rfl hl 0 rfl ?_
  refine fgM_Mo_110 (n := 245) C 130 rfl rfl h ?_
  refine i_iload (n := 247) C 131 rfl rfl hl 8 rfl ?_
  refine i_iload (n := 249) C 132 rfl rfl hl 6 rfl ?_
  obtain ⟨hb, hw⟩ := hw
  refine i_iast (n := 250) C 133 rfl rfl h (wM_arr 33 (by decide) rfl) hb (wM_sA 33 (by decide) rfl _ _) (fun H locs h => ?_)
  refine i_iinc (v := x5 + (1 : Int32)) (lv' := [(5, .int (x5 + (1 : Int32))), (0, .ref (ad 0)), (1, .int a1), (2, .int a2), (3, .int a3), (4, .int x4), (6, .int x6), (7, .int x7), (8, .int x8)]) (n := 253) C 134 rfl rfl hl 5 rfl rfl (by decide) rfl (fun ls hl => ?_)
  exact e_Mo_seek_253 C hret hb67 I (sA (sA A 34 x8 x7) 33 x8 x6) x4 (x5 + (1 : Int32)) x6 ls _ _ (lv_sub hl [1, 2, 3, 4, 5, 0, 6] rfl) h hw
set_option maxHeartbeats 4000000 in
set_option maxRecDepth 100000 in
theorem e_Mo_seek_67  {a1 : Int32} {a2 : Int32} {a3 : Int32} {P : Int32 → ((Nat → Int32) × (Nat → Nat → Int32)) → Prop} {kx67 : (Nat → Int32) → (Nat → Nat → Int32) → Int32 → Int32 → Prop} (C : CX D cy R_Mo c_Mo_seek tb_Mo_seek 10 p s m args c Z) (hret : RetI p l e { frames := 4, cells := 0, slots := 0, locals := 95 } s m args below meth c c_Mo_seek .int D Z Q (fun (u : (Nat → Int32) × (Nat → Nat → Int32)) => wM cy ad u.1 u.2) P 0 0)
    (hx67 : ∀ (I : Nat → Int32) (A : Nat → Nat → Int32) (x4 : Int32) (x5 : Int32) (ls : Array Slot) (H : Heap) (locs : List Loc), lv_has ls 10 [(0, .ref (ad 0)), (2, .int a2), (3, .int a3), (4, .int x4), (5, .int x5)] → HXw D Z s.heap H locs (wM cy ad I A) → kx67 I A x4 x5 → W p l e { frames := 4, cells := 0, slots := 0, locals := 95 } s m args below meth c H locs 0 0 Q (F0 m 259 ls [])) :
    ∀ (n : Nat) (I : Nat → Int32) (A : Nat → Nat → Int32) (x4 : Int32) (x5 : Int32) (x6 : Int32) (ls : Array Slot) (H : Heap) (locs : List Loc), lv_has ls 10 [(0, .ref (ad 0)), (1, .int a1), (2, .int a2), (3, .int a3), (4, .int x4), (5, .int x5), (6, .int x6)] → HXw D Z s.heap H locs (wM cy ad I A) → g_Mo_seek_67 a1 a2 a3 P kx67 n I A x4 x5 x6 → W p l e { frames := 4, cells := 0, slots := 0, locals := 95 } s m args below meth c H locs 0 0 Q (F0 m 67 ls []) := by
  intro n
  induction n with
  | zero => intro I A x4 x5 x6 ls H locs hl h hw; exact hw.elim
  | succ n ih =>
    intro I A x4 x5 x6 ls H locs hl h hw
    refine i_iload (n := 69) C 35 rfl rfl hl 6 rfl ?_
    refine i_aload_n (n := 70) C 36 rfl rfl rfl hl 0 rfl ?_
    refine fgM_Mo_122 (n := 73) C 37 rfl rfl h ?_
    refine i_icmp_ge (tgt := 259) (n := 76) C 38 rfl rfl rfl (fun c8 => ?_) (fun c8 => ?_)
    · replace hw := hw.1 c8
      exact hx67 I A x4 x5 ls _ _ (lv_sub hl [0, 2, 3, 4, 5] rfl) h hw
    · replace hw := hw.2 c8
      refine i_aload_n (n := 77) C 39 rfl rfl rfl hl 0 rfl ?_
      refine fgM_Mo_16 (n := 80) C 40 rfl rfl h ?_
      refine i_iload (n := 82) C 41 rfl rfl hl 6 rfl ?_
      obtain ⟨hb, hw⟩ := hw
      refine i_iald (n := 83) C 42 rfl rfl h (wM_arr 2 (by decide) rfl) hb ?_
      refine i_if_ne (tgt := 253) (n := 86) C 43 rfl rfl rfl (fun c9 => ?_) (fun c9 => ?_)
      · replace hw := hw.1 c9
        exact e_Mo_seek_253 C hret ih I A x4 x5 x6 ls _ _ hl h hw
      · replace hw := hw.2 c9
        refine i_aload_n (n := 87) C 44 rfl rfl rfl hl 0 rfl ?_
        refine fgM_Mo_16 (n := 90) C 45 rfl rfl h ?_
        refine i_iload (n := 92) C 46 rfl rfl hl 6 rfl ?_
        refine i_bipush (v := (7 : Int32)) (n := 94) C 47 rfl rfl rfl ?_
        obtain ⟨hb, hw⟩ := hw
        refine i_iast (n := 95) C 48 rfl rfl h (wM_arr 2 (by decide) rfl) hb (wM_sA 2 (by decide) rfl _ _) (fun H locs h => ?_)
        refine i_aload_n (n := 96) C 49 rfl rfl rfl hl 0 rfl ?_
        refine fgM_Mo_19 (n := 99) C 50 rfl rfl h ?_
        refine i_iload (n := 101) C 51 rfl rfl hl 6 rfl ?_
        refine i_iload_n (n := 102) C 52 rfl rfl rfl hl 1 rfl ?_
        obtain ⟨hb, hw⟩ := hw
        refine i_iast (n := 103) C 53 rfl rfl h (wM_arr 3 (by decide) rfl) hb (wM_sA 3 (by decide) rfl _ _) (fun H locs h => ?_)
        refine i_aload_n (n := 104) C 54 rfl rfl rfl hl 0 rfl ?_
        refine i_callVi (rest := []) (ci := 11) (qc := (R_Mo, T_Mo, 50)) (n := 107) C 55 rfl rfl hl h rfl (wM_get (h := 0) (by decide)) (kV_Mo_190 ⟨by decide, by decide⟩) (m_Mo_workNet hw) rfl rfl (Nat.le_of_ble_eq_true rfl) ⟨by decide, by decide⟩ (fun r10 u11 H locs hw h => ?_)
        refine i_pop (n := 108) C 56 rfl rfl rfl ?_
        refine i_aload_n (n := 109) C 57 rfl rfl rfl hl 0 rfl ?_
        refine fgM_Mo_16 (n := 112) C 58 rfl rfl h ?_
        refine i_iload (n := 114) C 59 rfl rfl hl 6 rfl ?_
        refine i_iconst (v := (0 : Int32)) (n := 115) C 60 rfl rfl rfl ?_
        obtain ⟨hb, hw⟩ := hw
        refine i_iast (n := 116) C 61 rfl rfl h (wM_arr 2 (by decide) rfl) hb (wM_sA 2 (by decide) rfl _ _) (fun H locs h => ?_)
        refine i_iconst (v := (0 : Int32)) (n := 117) C 62 rfl rfl rfl ?_
        refine i_istore (lv' := [(7, .int (0 : Int32)), (0, .ref (ad 0)), (1, .int a1), (2, .int a2), (3, .int a3), (4, .int x4), (5, .int x5), (6, .int x6)]) (n := 119) C 63 rfl rfl hl (by decide) rfl (fun ls hl => ?_)
        refine i_iconst (v := (0 : Int32)) (n := 120) C 64 rfl rfl rfl ?_
        refine i_istore (lv' := [(8, .int (0 : Int32)), (7, .int (0 : Int32)), (0, .ref (ad 0)), (1, .int a1), (2, .int a2), (3, .int a3), (4, .int x4), (5, .int x5), (6, .int x6)]) (n := 122) C 65 rfl rfl hl (by decide) rfl (fun ls hl => ?_)
        obtain ⟨n17, hw⟩ := hw
        refine e_Mo_seek_122 C hret (fun I_17 A_17 x4_17 x5_17 x6_17 x7_17 ls H locs hl h hw => ?_) n17 u11.1 (sA u11.2 2 x6 (0 : Int32)) x4 x5 x6 (0 : Int32) (0 : Int32) ls _ _ (lv_sub hl [2, 3, 4, 5, 6, 7, 8, 1, 0] rfl) h hw
        have hl : lv_has ls 10 [(0, .ref (ad 0)), (1, .int a1), (2, .int a2), (3, .int a3), (4, .int x4_17), (5, .int x5_17), (6, .int x6_17), (7, .int x7_17)] := hl
        refine i_iload (n := 173) C 90 rfl rfl hl 5 rfl ?_
        refine i_istore (lv' := [(8, .int x5_17), (0, .ref (ad 0)), (1, .int a1), (2, .int a2), (3, .int a3), (4, .int x4_17), (5, .int x5_17), (6, .int x6_17), (7, .int x7_17)]) (n := 175) C 91 rfl rfl hl (by decide) rfl (fun ls hl => ?_)
        obtain ⟨n20, hw⟩ := hw
        refine e_Mo_seek_175 C hret (fun I_20 A_20 x4_20 x5_20 x6_20 x7_20 x8_20 ls H locs hl h hw => ?_) n20 I_17 A_17 x4_17 x5_17 x6_17 x7_17 x5_17 ls _ _ (lv_sub hl [1, 2, 3, 4, 5, 6, 7, 8, 0] rfl) h hw
        have hl : lv_has ls 10 [(0, .ref (ad 0)), (1, .int a1), (2, .int a2), (3, .int a3), (4, .int x4_20), (5, .int x5_20), (6, .int x6_20), (7, .int x7_20), (8, .int x8_20)] := hl
        exact e_Mo_seek_232 C hret ih I_20 A_20 x4_20 x5_20 x6_20 x7_20 x8_20 ls _ _ hl h hw
set_option maxHeartbeats 4000000 in
set_option maxRecDepth 100000 in
theorem e_Mo_seek_268  {a1 : Int32} {a2 : Int32} {a3 : Int32} {P : Int32 → ((Nat → Int32) × (Nat → Nat → Int32)) → Prop} {kx268 : (Nat → Int32) → (Nat → Nat → Int32) → Int32 → Prop} (C : CX D cy R_Mo c_Mo_seek tb_Mo_seek 10 p s m args c Z) (hret : RetI p l e { frames := 4, cells := 0, slots := 0, locals := 95 } s m args below meth c c_Mo_seek .int D Z Q (fun (u : (Nat → Int32) × (Nat → Nat → Int32)) => wM cy ad u.1 u.2) P 0 0)
    (hx268 : ∀ (I : Nat → Int32) (A : Nat → Nat → Int32) (x5 : Int32) (ls : Array Slot) (H : Heap) (locs : List Loc), lv_has ls 10 [(0, .ref (ad 0)), (2, .int a2), (3, .int a3), (5, .int x5)] → HXw D Z s.heap H locs (wM cy ad I A) → kx268 I A x5 → W p l e { frames := 4, cells := 0, slots := 0, locals := 95 } s m args below meth c H locs 0 0 Q (F0 m 297 ls [])) :
    ∀ (n : Nat) (I : Nat → Int32) (A : Nat → Nat → Int32) (x5 : Int32) (x6 : Int32) (ls : Array Slot) (H : Heap) (locs : List Loc), lv_has ls 10 [(0, .ref (ad 0)), (2, .int a2), (3, .int a3), (5, .int x5), (6, .int x6)] → HXw D Z s.heap H locs (wM cy ad I A) → g_Mo_seek_268 a1 a2 a3 P kx268 n I A x5 x6 → W p l e { frames := 4, cells := 0, slots := 0, locals := 95 } s m args below meth c H locs 0 0 Q (F0 m 268 ls []) := by
  intro n
  induction n with
  | zero => intro I A x5 x6 ls H locs hl h hw; exact hw.elim
  | succ n ih =>
    intro I A x5 x6 ls H locs hl h hw
    refine i_iload (n := 270) C 142 rfl rfl hl 4 rfl ?_
    refine i_aload_n (n := 271) C 143 rfl rfl rfl hl 0 rfl ?_
    refine fgM_Mo_122 (n := 274) C 144 rfl rfl h ?_
    refine i_icmp_ge (tgt := 297) (n := 277) C 145 rfl rfl rfl (fun c22 => ?_) (fun c22 => ?_)
    · replace hw := hw.1 c22
      exact hx268 I A x5 ls _ _ (lv_sub hl [0, 1, 2, 3] rfl) h hw
    · replace hw := hw.2 c22
      refine i_aload_n (n := 278) C 146 rfl rfl rfl hl 0 rfl ?_
      refine fgM_Mo_50 (n := 281) C 147 rfl rfl h ?_
      refine i_iload (n := 283) C 148 rfl rfl hl 4 rfl ?_
      refine i_aload_n (n := 284) C 149 rfl rfl rfl hl 0 rfl ?_
      refine fgM_Mo_116 (n := 287) C 150 rfl rfl h ?_
      refine i_iload (n := 289) C 151 rfl rfl hl 4 rfl ?_
      obtain ⟨hb, hw⟩ := hw
      refine i_iald (n := 290) C 152 rfl rfl h (wM_arr 35 (by decide) rfl) hb ?_
      obtain ⟨hb, hw⟩ := hw
      refine i_iast (n := 291) C 153 rfl rfl h (wM_arr 13 (by decide) rfl) hb (wM_sA 13 (by decide) rfl _ _) (fun H locs h => ?_)
      refine i_iinc (v := x6 + (1 : Int32)) (lv' := [(6, .int (x6 + (1 : Int32))), (0, .ref (ad 0)), (2, .int a2), (3, .int a3), (5, .int x5)]) (n := 294) C 154 rfl rfl hl 4 rfl rfl (by decide) rfl (fun ls hl => ?_)
      refine i_goto (tgt := 268) C 155 rfl rfl ?_
      exact ih I (sA A 13 x6 (A 35 x6.toNatClampNeg)) x5 (x6 + (1 : Int32)) ls _ _ (lv_sub hl [1, 2, 3, 4, 0] rfl) h hw
set_option maxHeartbeats 4000000 in
set_option maxRecDepth 100000 in
theorem m_Mo_seek {l : Launch} {D : va_G} {cy : Nat → ClassId} {ad : Nat → Nat} {I : Nat → Int32} {A : Nat → Nat → Int32} {a1 : Int32} {a2 : Int32} {a3 : Int32} {P : Int32 → ((Nat → Int32) × (Nat → Nat → Int32)) → Prop} (hw : g_Mo_seek I A a1 a2 a3 P) : ∀ sz, Met l y_Mo_seek (WL y_Mo_seek c_Mo_seek 10 (some .int)) { frames := 4, cells := 0, slots := 0, locals := 95 } (va_Pc [.ref (ad 0), .int a1, .int a2, .int a3] (PreW D cy (wM cy ad I A) sz)) (va_Qi P (fun u t => PostW D (va_A (wM cy ad I A) sz) ((fun (u : (Nat → Int32) × (Nat → Nat → Int32)) => wM cy ad u.1 u.2) u) t) (va_A (wM cy ad I A) sz)) 0 0 (va_A (wM cy ad I A) sz) := by
  refine met_i (wf := fun (u : (Nat → Int32) × (Nat → Nat → Int32)) => wM cy ad u.1 u.2) R_Mo .int db_Mo_seek (by decide) rfl rfl (Nat.le_of_ble_eq_true rfl) ?_
  intro p e s m below meth c Z Q ls C h hl hret
  have hl : lv_has ls 10 [(0, .ref (ad 0)), (1, .int a1), (2, .int a2), (3, .int a3)] := hl
  refine i_iload_n (n := 1) C 0 rfl rfl rfl hl 1 rfl ?_
  refine i_iconst (v := (1 : Int32)) (n := 2) C 1 rfl rfl rfl ?_
  refine i_sipush (v := (1000 : Int32)) (n := 5) C 2 rfl rfl rfl ?_
  refine i_callSp (rest := []) (n := 8) C 3 rfl rfl hl h (kS_Mo_126 ⟨by decide, by decide⟩) (m_Mo_in hw) rfl rfl (Nat.le_of_ble_eq_true rfl) ⟨by decide, by decide⟩ (fun r1 hw => ?_)
  refine i_if_eq (tgt := 20) (n := 11) C 4 rfl rfl rfl (fun c2 => ?_) (fun c2 => ?_)
  · replace hw := hw.1 c2
    refine i_bipush (v := (-2 : Int32)) (n := 22) C 10 rfl rfl rfl ?_
    exact hret _ (I, A) _ _ _ _ rfl hw h (C.dg (k := 11) rfl)
  · replace hw := hw.2 c2
    refine i_iload_n (n := 12) C 5 rfl rfl rfl hl 3 rfl ?_
    refine i_iconst (v := (0 : Int32)) (n := 13) C 6 rfl rfl rfl ?_
    refine i_iconst (v := (1 : Int32)) (n := 14) C 7 rfl rfl rfl ?_
    refine i_callSp (rest := []) (n := 17) C 8 rfl rfl hl h (kS_Mo_126 ⟨by decide, by decide⟩) (m_Mo_in hw) rfl rfl (Nat.le_of_ble_eq_true rfl) ⟨by decide, by decide⟩ (fun r3 hw => ?_)
    refine i_if_ne (tgt := 23) (n := 20) C 9 rfl rfl rfl (fun c4 => ?_) (fun c4 => ?_)
    · replace hw := hw.1 c4
      refine i_aload_n (n := 24) C 12 rfl rfl rfl hl 0 rfl ?_
      refine fgM_Mo_181 (n := 27) C 13 rfl rfl h ?_
      refine lv_topi (fun y5 ey5 => ?_)
      replace hw := hw y5 ey5
      refine i_istore (lv' := [(4, .int y5), (0, .ref (ad 0)), (1, .int a1), (2, .int a2), (3, .int a3)]) (n := 29) C 14 rfl rfl hl (by decide) rfl (fun ls hl => ?_)
      refine i_iconst (v := (0 : Int32)) (n := 30) C 15 rfl rfl rfl ?_
      refine i_istore (lv' := [(5, .int (0 : Int32)), (4, .int y5), (0, .ref (ad 0)), (1, .int a1), (2, .int a2), (3, .int a3)]) (n := 32) C 16 rfl rfl hl (by decide) rfl (fun ls hl => ?_)
      obtain ⟨n7, hw⟩ := hw
      refine e_Mo_seek_32 C hret (fun I_7 A_7 x4_7 ls H locs hl h hw => ?_) n7 I A y5 (0 : Int32) ls _ _ (lv_sub hl [2, 3, 4, 5, 1, 0] rfl) h hw
      have hl : lv_has ls 10 [(0, .ref (ad 0)), (1, .int a1), (2, .int a2), (3, .int a3), (4, .int x4_7)] := hl
      refine i_iconst (v := (0 : Int32)) (n := 62) C 31 rfl rfl rfl ?_
      refine i_istore (lv' := [(5, .int (0 : Int32)), (0, .ref (ad 0)), (1, .int a1), (2, .int a2), (3, .int a3), (4, .int x4_7)]) (n := 64) C 32 rfl rfl hl (by decide) rfl (fun ls hl => ?_)
      refine i_iconst (v := (0 : Int32)) (n := 65) C 33 rfl rfl rfl ?_
      refine i_istore (lv' := [(6, .int (0 : Int32)), (5, .int (0 : Int32)), (0, .ref (ad 0)), (1, .int a1), (2, .int a2), (3, .int a3), (4, .int x4_7)]) (n := 67) C 34 rfl rfl hl (by decide) rfl (fun ls hl => ?_)
      obtain ⟨n21, hw⟩ := hw
      refine e_Mo_seek_67 C hret (fun I_21 A_21 x4_21 x5_21 ls H locs hl h hw => ?_) n21 I_7 A_7 x4_7 (0 : Int32) (0 : Int32) ls _ _ (lv_sub hl [2, 3, 4, 5, 6, 1, 0] rfl) h hw
      have hl : lv_has ls 10 [(0, .ref (ad 0)), (2, .int a2), (3, .int a3), (4, .int x4_21), (5, .int x5_21)] := hl
      refine i_aload_n (n := 260) C 137 rfl rfl rfl hl 0 rfl ?_
      refine i_iload (n := 262) C 138 rfl rfl hl 3 rfl ?_
      refine fpM_Mo_181 (n := 265) C 139 rfl rfl h (fun H locs h => ?_)
      refine i_iconst (v := (0 : Int32)) (n := 266) C 140 rfl rfl rfl ?_
      refine i_istore (lv' := [(6, .int (0 : Int32)), (0, .ref (ad 0)), (2, .int a2), (3, .int a3), (4, .int x4_21), (5, .int x5_21)]) (n := 268) C 141 rfl rfl hl (by decide) rfl (fun ls hl => ?_)
      obtain ⟨n23, hw⟩ := hw
      refine e_Mo_seek_268 C hret (fun I_23 A_23 x5_23 ls H locs hl h hw => ?_) n23 (va_up I_21 5 x4_21) A_21 x5_21 (0 : Int32) ls _ _ (lv_sub hl [1, 2, 3, 5, 0] rfl) h hw
      have hl : lv_has ls 10 [(0, .ref (ad 0)), (2, .int a2), (3, .int a3), (5, .int x5_23)] := hl
      refine i_iload_n (n := 298) C 156 rfl rfl rfl hl 1 rfl ?_
      refine i_iconst (v := (0 : Int32)) (n := 299) C 157 rfl rfl rfl ?_
      refine i_iload (n := 301) C 158 rfl rfl hl 3 rfl ?_
      refine i_iconst (v := (1 : Int32)) (n := 302) C 159 rfl rfl rfl ?_
      refine i_isub (n := 303) C 160 rfl rfl ?_
      refine i_callSp (rest := []) (n := 306) C 161 rfl rfl hl h (kS_Mo_126 ⟨by decide, by decide⟩) (m_Mo_in hw) rfl rfl (Nat.le_of_ble_eq_true rfl) ⟨by decide, by decide⟩ (fun r24 hw => ?_)
      refine i_if_ne (tgt := 314) (n := 309) C 162 rfl rfl rfl (fun c25 => ?_) (fun c25 => ?_)
      · replace hw := hw.1 c25
        refine i_iload_n (n := 315) C 165 rfl rfl rfl hl 2 rfl ?_
        refine i_if_ne (tgt := 327) (n := 318) C 166 rfl rfl rfl (fun c26 => ?_) (fun c26 => ?_)
        · replace hw := hw.1 c26
          refine i_aload_n (n := 328) C 172 rfl rfl rfl hl 0 rfl ?_
          refine fgM_Mo_113 (n := 331) C 173 rfl rfl h ?_
          refine i_iload_n (n := 332) C 174 rfl rfl rfl hl 1 rfl ?_
          obtain ⟨hb, hw⟩ := hw
          refine i_iald (n := 333) C 175 rfl rfl h (wM_arr 34 (by decide) rfl) hb ?_
          exact hret _ (I_23, A_23) _ _ _ _ rfl hw h (C.dg (k := 176) rfl)
        · replace hw := hw.2 c26
          refine i_aload_n (n := 319) C 167 rfl rfl rfl hl 0 rfl ?_
          refine fgM_Mo_110 (n := 322) C 168 rfl rfl h ?_
          refine i_iload_n (n := 323) C 169 rfl rfl rfl hl 1 rfl ?_
          obtain ⟨hb, hw⟩ := hw
          refine i_iald (n := 324) C 170 rfl rfl h (wM_arr 33 (by decide) rfl) hb ?_
          refine i_goto (tgt := 333) C 171 rfl rfl ?_
          exact hret _ (I_23, A_23) _ _ _ _ rfl hw h (C.dg (k := 176) rfl)
      · replace hw := hw.2 c25
        refine i_bipush (v := (-6 : Int32)) (n := 311) C 163 rfl rfl rfl ?_
        refine i_goto (tgt := 333) C 164 rfl rfl ?_
        exact hret _ (I_23, A_23) _ _ _ _ rfl hw h (C.dg (k := 176) rfl)
    · replace hw := hw.2 c4
      refine i_bipush (v := (-2 : Int32)) (n := 22) C 10 rfl rfl rfl ?_
      exact hret _ (I, A) _ _ _ _ rfl hw h (C.dg (k := 11) rfl)
end S234
