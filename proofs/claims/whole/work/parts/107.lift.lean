section S97
variable {p : Program} {l : Launch} {e : Env} {R : Room} {s : State} {m : MethodId} {args : Array Value} {below : List Frame} {meth : Method} {c : Code} {H : Heap} {locs : List Loc} {cells slots : Nat} {Q : State → Prop}
variable {cc : ByteArray} {pc n nL : Nat} {ls : Array Slot} {rest : List Value} {D : va_G} {cy : Nat → ClassId} {Z : Nat → Prop} {ad : Nat → Nat} {tb : List (Nat × Instr × Nat)} {lv : List (Nat × Value)}
set_option maxHeartbeats 4000000 in
set_option maxRecDepth 100000 in
theorem m_Dr_strokesOf {l : Launch} {D : va_G} {cy : Nat → ClassId}   {a1 : Int32} {b : Nat} {w : va_W} {P : Int32 → Prop} (hw : g_Dr_strokesOf a1 P) : ∀ sz, Met l y_Dr_strokesOf (WL y_Dr_strokesOf c_Dr_strokesOf 2 (some .int)) { frames := 0, cells := 0, slots := 0, locals := 0 } (va_Pc [.ref b, .int a1] (PreW D cy (w) sz)) (vp_Si P) 0 0 (fun _ => False) := by
  refine met_p R_Dr .int db_Dr_strokesOf (by decide) rfl rfl (Nat.le_of_ble_eq_true rfl) ?_
  intro p e s m below meth c Z Q ls C h hl hret
  have hl : lv_has ls 2 [(0, .ref b), (1, .int a1)] := hl
  refine i_iload_n (n := 1) C 0 rfl rfl rfl hl 1 rfl ?_
  exact hret _ _ _ rfl hw (C.dg (k := 1) rfl)
end S97
section S98
variable {p : Program} {l : Launch} {e : Env} {R : Room} {s : State} {m : MethodId} {args : Array Value} {below : List Frame} {meth : Method} {c : Code} {H : Heap} {locs : List Loc} {cells slots : Nat} {Q : State → Prop}
variable {cc : ByteArray} {pc n nL : Nat} {ls : Array Slot} {rest : List Value} {D : va_G} {cy : Nat → ClassId} {Z : Nat → Prop} {ad : Nat → Nat} {tb : List (Nat × Instr × Nat)} {lv : List (Nat × Value)}
set_option maxHeartbeats 4000000 in
set_option maxRecDepth 100000 in
theorem m_Th_strokesOf {l : Launch} {D : va_G} {cy : Nat → ClassId}   {a1 : Int32} {b : Nat} {w : va_W} {P : Int32 → Prop} (hw : g_Th_strokesOf a1 P) : ∀ sz, Met l y_Th_strokesOf (WL y_Th_strokesOf c_Th_strokesOf 2 (some .int)) { frames := 0, cells := 0, slots := 0, locals := 0 } (va_Pc [.ref b, .int a1] (PreW D cy (w) sz)) (vp_Si P) 0 0 (fun _ => False) := by
  refine met_p R_Th .int db_Th_strokesOf (by decide) rfl rfl (Nat.le_of_ble_eq_true rfl) ?_
  intro p e s m below meth c Z Q ls C h hl hret
  have hl : lv_has ls 2 [(0, .ref b), (1, .int a1)] := hl
  refine i_iconst (v := (0 : Int32)) (n := 1) C 0 rfl rfl rfl ?_
  exact hret _ _ _ rfl hw (C.dg (k := 1) rfl)
end S98
section S99
variable {p : Program} {l : Launch} {e : Env} {R : Room} {s : State} {m : MethodId} {args : Array Value} {below : List Frame} {meth : Method} {c : Code} {H : Heap} {locs : List Loc} {cells slots : Nat} {Q : State → Prop}
variable {cc : ByteArray} {pc n nL : Nat} {ls : Array Slot} {rest : List Value} {D : va_G} {cy : Nat → ClassId} {Z : Nat → Prop} {ad : Nat → Nat} {tb : List (Nat × Instr × Nat)} {lv : List (Nat × Value)}
set_option maxHeartbeats 4000000 in
set_option maxRecDepth 100000 in
theorem m_Th_givesAndTakes {l : Launch} {D : va_G} {cy : Nat → ClassId}    {b : Nat} {w : va_W} {P : Int32 → Prop} (hw : g_Th_givesAndTakes  P) : ∀ sz, Met l y_Th_givesAndTakes (WL y_Th_givesAndTakes c_Th_givesAndTakes 1 (some .boolean)) { frames := 0, cells := 0, slots := 0, locals := 0 } (va_Pc [.ref b] (PreW D cy (w) sz)) (vp_Si P) 0 0 (fun _ => False) := by
  refine met_p R_Th .boolean db_Th_givesAndTakes (by decide) rfl rfl (Nat.le_of_ble_eq_true rfl) ?_
  intro p e s m below meth c Z Q ls C h hl hret
  have hl : lv_has ls 1 [(0, .ref b)] := hl
  refine i_iconst (v := (0 : Int32)) (n := 1) C 0 rfl rfl rfl ?_
  exact hret _ _ _ rfl hw (C.dg (k := 1) rfl)
end S99
section S100
variable {p : Program} {l : Launch} {e : Env} {R : Room} {s : State} {m : MethodId} {args : Array Value} {below : List Frame} {meth : Method} {c : Code} {H : Heap} {locs : List Loc} {cells slots : Nat} {Q : State → Prop}
variable {cc : ByteArray} {pc n nL : Nat} {ls : Array Slot} {rest : List Value} {D : va_G} {cy : Nat → ClassId} {Z : Nat → Prop} {ad : Nat → Nat} {tb : List (Nat × Instr × Nat)} {lv : List (Nat × Value)}
set_option maxHeartbeats 4000000 in
set_option maxRecDepth 100000 in
theorem m_Ho_givesAndTakes {l : Launch} {D : va_G} {cy : Nat → ClassId}    {b : Nat} {w : va_W} {P : Int32 → Prop} (hw : g_Ho_givesAndTakes  P) : ∀ sz, Met l y_Ho_givesAndTakes (WL y_Ho_givesAndTakes c_Ho_givesAndTakes 1 (some .boolean)) { frames := 0, cells := 0, slots := 0, locals := 0 } (va_Pc [.ref b] (PreW D cy (w) sz)) (vp_Si P) 0 0 (fun _ => False) := by
  refine met_p R_Ho .boolean db_Ho_givesAndTakes (by decide) rfl rfl (Nat.le_of_ble_eq_true rfl) ?_
  intro p e s m below meth c Z Q ls C h hl hret
  have hl : lv_has ls 1 [(0, .ref b)] := hl
  refine i_iconst (v := (0 : Int32)) (n := 1) C 0 rfl rfl rfl ?_
  exact hret _ _ _ rfl hw (C.dg (k := 1) rfl)
end S100
section S101
variable {p : Program} {l : Launch} {e : Env} {R : Room} {s : State} {m : MethodId} {args : Array Value} {below : List Frame} {meth : Method} {c : Code} {H : Heap} {locs : List Loc} {cells slots : Nat} {Q : State → Prop}
variable {cc : ByteArray} {pc n nL : Nat} {ls : Array Slot} {rest : List Value} {D : va_G} {cy : Nat → ClassId} {Z : Nat → Prop} {ad : Nat → Nat} {tb : List (Nat × Instr × Nat)} {lv : List (Nat × Value)}
set_option maxHeartbeats 4000000 in
set_option maxRecDepth 100000 in
theorem m_To_givesAndTakes {l : Launch} {D : va_G} {cy : Nat → ClassId}    {b : Nat} {w : va_W} {P : Int32 → Prop} (hw : g_To_givesAndTakes  P) : ∀ sz, Met l y_To_givesAndTakes (WL y_To_givesAndTakes c_To_givesAndTakes 1 (some .boolean)) { frames := 0, cells := 0, slots := 0, locals := 0 } (va_Pc [.ref b] (PreW D cy (w) sz)) (vp_Si P) 0 0 (fun _ => False) := by
  refine met_p R_To .boolean db_To_givesAndTakes (by decide) rfl rfl (Nat.le_of_ble_eq_true rfl) ?_
  intro p e s m below meth c Z Q ls C h hl hret
  have hl : lv_has ls 1 [(0, .ref b)] := hl
  refine i_iconst (v := (1 : Int32)) (n := 1) C 0 rfl rfl rfl ?_
  exact hret _ _ _ rfl hw (C.dg (k := 1) rfl)
end S101
theorem kV_Ne_94 {R : Room} {s : State} {args : Array Value} (hR : 0 + 1 ≤ R.frames ∧ 8 + (2 + 11) + 0 ≤ R.locals) (ht : ∀ w ∈ GW, w.before args s = true) : CallW R s args R_Ne R_Ne 94 y_Ne_flowOf c_Ne_flowOf 2 (some .int) (WL y_Ne_flowOf c_Ne_flowOf 2 (some .int)) { frames := 0, cells := 0, slots := 0, locals := 0 } 0 0 1 := cwV 1 ht (GW_v w_4_38 w_3_236 w_3_237 w_1_2 (GW_wl w_3_238)) rfl rfl rfl (by decide +kernel) hR
section S102
variable {p : Program} {l : Launch} {e : Env} {R : Room} {s : State} {m : MethodId} {args : Array Value} {below : List Frame} {meth : Method} {c : Code} {H : Heap} {locs : List Loc} {cells slots : Nat} {Q : State → Prop}
variable {cc : ByteArray} {pc n nL : Nat} {ls : Array Slot} {rest : List Value} {D : va_G} {cy : Nat → ClassId} {Z : Nat → Prop} {ad : Nat → Nat} {tb : List (Nat × Instr × Nat)} {lv : List (Nat × Value)}
set_option maxHeartbeats 4000000 in
set_option maxRecDepth 100000 in
theorem e_Ne_flowOut_77 {I : Nat → Int32} {A : Nat → Nat → Int32} {T : Nat → Option Nat} {L : List Nat} {K : Nat → Nat} {F : Nat → Nat → Int32} {a1 : Int32} {a2 : Int32} {P : Int32 → Prop} {kb5 : Int32 → Int32 → Prop} (C : CX D cy R_Ne c_Ne_flowOut tb_Ne_flowOut 5 p s m args c Z) (h : HXw D Z s.heap H locs (wC cy ad I A T L K F)) (hret : RetP p l e { frames := 1, cells := 0, slots := 0, locals := 21 } s m args below meth c c_Ne_flowOut .int H locs Q P)
    (hb5 : ∀ (x3 : Int32) (x4 : Int32) (ls : Array Slot), lv_has ls 5 [(0, .ref (ad 1)), (1, .int a1), (2, .int a2), (3, .int x3), (4, .int x4)] → kb5 x3 x4 → W p l e { frames := 1, cells := 0, slots := 0, locals := 21 } s m args below meth c H locs 0 0 Q (F0 m 5 ls [])) :
    ∀ (x3 : Int32) (x4 : Int32) (ls : Array Slot), lv_has ls 5 [(0, .ref (ad 1)), (1, .int a1), (2, .int a2), (3, .int x3), (4, .int x4)] → g_Ne_flowOut_77 I A a1 a2 P kb5 x3 x4 → W p l e { frames := 1, cells := 0, slots := 0, locals := 21 } s m args below meth c H locs 0 0 Q (F0 m 77 ls []) := by
  intro x3 x4 ls hl hw
  refine i_iinc (v := x4 + (1 : Int32)) (lv' := [(4, .int (x4 + (1 : Int32))), (0, .ref (ad 1)), (1, .int a1), (2, .int a2), (3, .int x3)]) (n := 80) C 40 rfl rfl hl 4 rfl rfl (by decide) rfl (fun ls hl => ?_)
  refine i_goto (tgt := 5) C 41 rfl rfl ?_
  exact hb5 x3 (x4 + (1 : Int32)) ls (lv_sub hl [1, 2, 3, 4, 0] rfl) hw
set_option maxHeartbeats 4000000 in
set_option maxRecDepth 100000 in
theorem e_Ne_flowOut_75 {I : Nat → Int32} {A : Nat → Nat → Int32} {T : Nat → Option Nat} {L : List Nat} {K : Nat → Nat} {F : Nat → Nat → Int32} {a1 : Int32} {a2 : Int32} {P : Int32 → Prop} {kb5 : Int32 → Int32 → Prop} (C : CX D cy R_Ne c_Ne_flowOut tb_Ne_flowOut 5 p s m args c Z) (h : HXw D Z s.heap H locs (wC cy ad I A T L K F)) (hret : RetP p l e { frames := 1, cells := 0, slots := 0, locals := 21 } s m args below meth c c_Ne_flowOut .int H locs Q P)
    (hb5 : ∀ (x3 : Int32) (x4 : Int32) (ls : Array Slot), lv_has ls 5 [(0, .ref (ad 1)), (1, .int a1), (2, .int a2), (3, .int x3), (4, .int x4)] → kb5 x3 x4 → W p l e { frames := 1, cells := 0, slots := 0, locals := 21 } s m args below meth c H locs 0 0 Q (F0 m 5 ls [])) :
    ∀ (x4 : Int32) (s0 : Int32) (s1 : Int32) (ls : Array Slot), lv_has ls 5 [(0, .ref (ad 1)), (1, .int a1), (2, .int a2), (4, .int x4)] → g_Ne_flowOut_75 I A a1 a2 P kb5 x4 s0 s1 → W p l e { frames := 1, cells := 0, slots := 0, locals := 21 } s m args below meth c H locs 0 0 Q (F0 m 75 ls [.int s1, .int s0]) := by
  intro x4 s0 s1 ls hl hw
  refine i_iadd (n := 76) C 38 rfl rfl ?_
  refine lv_topi (fun y6 ey6 => ?_)
  replace hw := hw y6 ey6
  refine i_istore_n (lv' := [(3, .int y6), (0, .ref (ad 1)), (1, .int a1), (2, .int a2), (4, .int x4)]) (n := 77) C 39 rfl rfl rfl hl (by decide) rfl (fun ls hl => ?_)
  exact e_Ne_flowOut_77 C h hret hb5 y6 x4 ls (lv_sub hl [1, 2, 3, 0, 4] rfl) hw
set_option maxHeartbeats 4000000 in
set_option maxRecDepth 100000 in
theorem e_Ne_flowOut_5 {I : Nat → Int32} {A : Nat → Nat → Int32} {T : Nat → Option Nat} {L : List Nat} {K : Nat → Nat} {F : Nat → Nat → Int32} {a1 : Int32} {a2 : Int32} {P : Int32 → Prop} {kx5 : Int32 → Prop} (C : CX D cy R_Ne c_Ne_flowOut tb_Ne_flowOut 5 p s m args c Z) (h : HXw D Z s.heap H locs (wC cy ad I A T L K F)) (hret : RetP p l e { frames := 1, cells := 0, slots := 0, locals := 21 } s m args below meth c c_Ne_flowOut .int H locs Q P)
    (hx5 : ∀ (x3 : Int32) (ls : Array Slot), lv_has ls 5 [(3, .int x3)] → kx5 x3 → W p l e { frames := 1, cells := 0, slots := 0, locals := 21 } s m args below meth c H locs 0 0 Q (F0 m 83 ls [])) :
    ∀ (n : Nat) (x3 : Int32) (x4 : Int32) (ls : Array Slot), lv_has ls 5 [(0, .ref (ad 1)), (1, .int a1), (2, .int a2), (3, .int x3), (4, .int x4)] → g_Ne_flowOut_5 I A a1 a2 P kx5 n x3 x4 → W p l e { frames := 1, cells := 0, slots := 0, locals := 21 } s m args below meth c H locs 0 0 Q (F0 m 5 ls []) := by
  intro n
  induction n with
  | zero => intro x3 x4 ls hl hw; exact hw.elim
  | succ n ih =>
    intro x3 x4 ls hl hw
    refine i_iload (n := 7) C 4 rfl rfl hl 4 rfl ?_
    refine i_aload_n (n := 8) C 5 rfl rfl rfl hl 0 rfl ?_
    refine fgC_Ne_12 (n := 11) C 6 rfl rfl h ?_
    refine fgC_Ne_88 (n := 14) C 7 rfl rfl h ?_
    refine i_icmp_ge (tgt := 83) (n := 17) C 8 rfl rfl rfl (fun c1 => ?_) (fun c1 => ?_)
    · replace hw := hw.1 c1
      exact hx5 x3 ls (lv_sub hl [3] rfl) hw
    · replace hw := hw.2 c1
      refine i_iload_n (n := 18) C 9 rfl rfl rfl hl 2 rfl ?_
      refine i_iload (n := 20) C 10 rfl rfl hl 4 rfl ?_
      refine i_callSNp (rest := []) (n := 23) C 11 rfl rfl hl h (kSN_Ne_91 ⟨by decide, by decide⟩) (m_Pw_hasBit hw) rfl rfl (Nat.le_of_ble_eq_true rfl) ⟨by decide, by decide⟩ (fun r2 hw => ?_)
      refine i_if_eq (tgt := 77) (n := 26) C 12 rfl rfl rfl (fun c3 => ?_) (fun c3 => ?_)
      · replace hw := hw.1 c3
        exact e_Ne_flowOut_77 C h hret ih x3 x4 ls hl hw
      · replace hw := hw.2 c3
        refine i_iload_n (n := 27) C 13 rfl rfl rfl hl 3 rfl ?_
        refine i_aload_n (n := 28) C 14 rfl rfl rfl hl 0 rfl ?_
        refine fgC_Ne_12 (n := 31) C 15 rfl rfl h ?_
        refine fgC_Ne_82 (n := 34) C 16 rfl rfl h ?_
        refine i_iload (n := 36) C 17 rfl rfl hl 4 rfl ?_
        obtain ⟨hb, hw⟩ := hw
        refine i_iald (n := 37) C 18 rfl rfl h (wC_arr 17 (by decide) rfl) hb ?_
        refine i_iload_n (n := 38) C 19 rfl rfl rfl hl 1 rfl ?_
        refine i_icmp_ne (tgt := 50) (n := 41) C 20 rfl rfl rfl (fun c4 => ?_) (fun c4 => ?_)
        · replace hw := hw.1 c4
          refine i_aload_n (n := 51) C 25 rfl rfl rfl hl 0 rfl ?_
          refine fgC_Ne_12 (n := 54) C 26 rfl rfl h ?_
          refine fgC_Ne_85 (n := 57) C 27 rfl rfl h ?_
          refine i_iload (n := 59) C 28 rfl rfl hl 4 rfl ?_
          obtain ⟨hb, hw⟩ := hw
          refine i_iald (n := 60) C 29 rfl rfl h (wC_arr 18 (by decide) rfl) hb ?_
          refine i_iload_n (n := 61) C 30 rfl rfl rfl hl 1 rfl ?_
          refine i_icmp_ne (tgt := 74) (n := 64) C 31 rfl rfl rfl (fun c5 => ?_) (fun c5 => ?_)
          · replace hw := hw.1 c5
            refine i_iconst (v := (0 : Int32)) (n := 75) C 37 rfl rfl rfl ?_
            exact e_Ne_flowOut_75 C h hret ih x4 x3 (0 : Int32) ls (lv_sub hl [0, 1, 2, 4] rfl) hw
          · replace hw := hw.2 c5
            refine i_aload_n (n := 65) C 32 rfl rfl rfl hl 0 rfl ?_
            refine i_iload (n := 67) C 33 rfl rfl hl 4 rfl ?_
            refine i_callVp (rest := [.int x3]) (ci := 5) (qc := (R_Ne, T_Ne, 17)) (n := 70) C 34 rfl rfl hl h rfl (wC_get (h := 1) (by decide)) (kV_Ne_94 ⟨by decide, by decide⟩) (m_Ne_flowOf hw) rfl rfl (Nat.le_of_ble_eq_true rfl) ⟨by decide, by decide⟩ (fun r7 hw => ?_)
            refine i_ineg (n := 71) C 35 rfl rfl ?_
            refine i_goto (tgt := 75) C 36 rfl rfl ?_
            exact e_Ne_flowOut_75 C h hret ih x4 x3 (-r7) ls (lv_sub hl [0, 1, 2, 4] rfl) hw
        · replace hw := hw.2 c4
          refine i_aload_n (n := 42) C 21 rfl rfl rfl hl 0 rfl ?_
          refine i_iload (n := 44) C 22 rfl rfl hl 4 rfl ?_
          refine i_callVp (rest := [.int x3]) (ci := 5) (qc := (R_Ne, T_Ne, 17)) (n := 47) C 23 rfl rfl hl h rfl (wC_get (h := 1) (by decide)) (kV_Ne_94 ⟨by decide, by decide⟩) (m_Ne_flowOf hw) rfl rfl (Nat.le_of_ble_eq_true rfl) ⟨by decide, by decide⟩ (fun r8 hw => ?_)
          refine i_goto (tgt := 75) C 24 rfl rfl ?_
          exact e_Ne_flowOut_75 C h hret ih x4 x3 r8 ls (lv_sub hl [0, 1, 2, 4] rfl) hw
set_option maxHeartbeats 4000000 in
set_option maxRecDepth 100000 in
theorem m_Ne_flowOut {l : Launch} {D : va_G} {cy : Nat → ClassId} {ad : Nat → Nat} {I : Nat → Int32} {A : Nat → Nat → Int32} {T : Nat → Option Nat} {L : List Nat} {K : Nat → Nat} {F : Nat → Nat → Int32} {a1 : Int32} {a2 : Int32} {P : Int32 → Prop} (hw : g_Ne_flowOut I A a1 a2 P) : ∀ sz, Met l y_Ne_flowOut (WL y_Ne_flowOut c_Ne_flowOut 5 (some .int)) { frames := 1, cells := 0, slots := 0, locals := 21 } (va_Pc [.ref (ad 1), .int a1, .int a2] (PreW D cy (wC cy ad I A T L K F) sz)) (vp_Si P) 0 0 (fun _ => False) := by
  refine met_p R_Ne .int db_Ne_flowOut (by decide) rfl rfl (Nat.le_of_ble_eq_true rfl) ?_
  intro p e s m below meth c Z Q ls C h hl hret
  have hl : lv_has ls 5 [(0, .ref (ad 1)), (1, .int a1), (2, .int a2)] := hl
  refine i_iconst (v := (0 : Int32)) (n := 1) C 0 rfl rfl rfl ?_
  refine i_istore_n (lv' := [(3, .int (0 : Int32)), (0, .ref (ad 1)), (1, .int a1), (2, .int a2)]) (n := 2) C 1 rfl rfl rfl hl (by decide) rfl (fun ls hl => ?_)
  refine i_iconst (v := (0 : Int32)) (n := 3) C 2 rfl rfl rfl ?_
  refine i_istore (lv' := [(4, .int (0 : Int32)), (3, .int (0 : Int32)), (0, .ref (ad 1)), (1, .int a1), (2, .int a2)]) (n := 5) C 3 rfl rfl hl (by decide) rfl (fun ls hl => ?_)
  obtain ⟨n9, hw⟩ := hw
  refine e_Ne_flowOut_5 C h hret (fun x3_9 ls hl hw => ?_) n9 (0 : Int32) (0 : Int32) ls (lv_sub hl [2, 3, 4, 1, 0] rfl) hw
  have hl : lv_has ls 5 [(3, .int x3_9)] := hl
  refine i_iload_n (n := 84) C 42 rfl rfl rfl hl 0 rfl ?_
  exact hret _ _ _ rfl hw (C.dg (k := 43) rfl)
end S102
section S103
variable {p : Program} {l : Launch} {e : Env} {R : Room} {s : State} {m : MethodId} {args : Array Value} {below : List Frame} {meth : Method} {c : Code} {H : Heap} {locs : List Loc} {cells slots : Nat} {Q : State → Prop}
variable {cc : ByteArray} {pc n nL : Nat} {ls : Array Slot} {rest : List Value} {D : va_G} {cy : Nat → ClassId} {Z : Nat → Prop} {ad : Nat → Nat} {tb : List (Nat × Instr × Nat)} {lv : List (Nat × Value)}
set_option maxHeartbeats 4000000 in
set_option maxRecDepth 100000 in
theorem m_Th_fill {l : Launch} {D : va_G} {cy : Nat → ClassId}   {a1 : Int32} {a2 : Int32} {b : Nat} {w : va_W} {P : Int32 → Prop} (hw : g_Th_fill a1 a2 P) : ∀ sz, Met l y_Th_fill (WL y_Th_fill c_Th_fill 3 (some .int)) { frames := 0, cells := 0, slots := 0, locals := 0 } (va_Pc [.ref b, .int a1, .int a2] (PreW D cy (w) sz)) (vp_Si P) 0 0 (fun _ => False) := by
  refine met_p R_Th .int db_Th_fill (by decide) rfl rfl (Nat.le_of_ble_eq_true rfl) ?_
  intro p e s m below meth c Z Q ls C h hl hret
  have hl : lv_has ls 3 [(0, .ref b), (1, .int a1), (2, .int a2)] := hl
  refine i_iconst (v := (0 : Int32)) (n := 1) C 0 rfl rfl rfl ?_
  exact hret _ _ _ rfl hw (C.dg (k := 1) rfl)
end S103
section S104
variable {p : Program} {l : Launch} {e : Env} {R : Room} {s : State} {m : MethodId} {args : Array Value} {below : List Frame} {meth : Method} {c : Code} {H : Heap} {locs : List Loc} {cells slots : Nat} {Q : State → Prop}
variable {cc : ByteArray} {pc n nL : Nat} {ls : Array Slot} {rest : List Value} {D : va_G} {cy : Nat → ClassId} {Z : Nat → Prop} {ad : Nat → Nat} {tb : List (Nat × Instr × Nat)} {lv : List (Nat × Value)}
set_option maxHeartbeats 4000000 in
set_option maxRecDepth 100000 in
theorem e_To_fill_Ho_17 {I : Nat → Int32} {A : Nat → Nat → Int32} {T : Nat → Option Nat} {L : List Nat} {K : Nat → Nat} {b : Nat} {a1 : Int32} {a2 : Int32} {P : Int32 → ((Nat → Nat → Int32)) → Prop}  (C : CX D cy R_To c_To_fill tb_To_fill 4 p s m args c Z) (hbq : b ∈ L) (hbk : K b = 2) (hret : RetI p l e { frames := 1, cells := 0, slots := 0, locals := 21 } s m args below meth c c_To_fill .int D Z Q (fun (u : (Nat → Nat → Int32)) => wC cy ad I A T L K u) P 0 0) :
    ∀ (F : Nat → Nat → Int32) (s0 : Int32) (ls : Array Slot) (H : Heap) (locs : List Loc), lv_has ls 4 [(0, .ref b)] → HXw D Z s.heap H locs (wC cy ad I A T L K F) → g_To_fill_Ho_17 b a1 a2 P  F s0 → W p l e { frames := 1, cells := 0, slots := 0, locals := 21 } s m args below meth c H locs 0 0 Q (F0 m 17 ls [.int s0]) := by
  intro F s0 ls H locs hl h hw
  refine i_istore_n (lv' := [(3, .int s0), (0, .ref b)]) (n := 18) C 9 rfl rfl rfl hl (by decide) rfl (fun ls hl => ?_)
  refine i_aload_n (n := 19) C 10 rfl rfl rfl hl 1 rfl ?_
  refine i_iconst (v := (0 : Int32)) (n := 20) C 11 rfl rfl rfl ?_
  refine i_aload_n (n := 21) C 12 rfl rfl rfl hl 1 rfl ?_
  refine tg_To_13_Ho (n := 24) C 13 rfl rfl h hbq hbk ?_
  refine i_iload_n (n := 25) C 14 rfl rfl rfl hl 0 rfl ?_
  refine i_mmin (n := 28) C 15 rfl rfl hl w_4_47 (by decide) (Nat.le_of_ble_eq_true rfl) (Nat.le_of_ble_eq_true rfl) (Nat.le_of_ble_eq_true rfl) ?_
  refine i_mmax (n := 31) C 16 rfl rfl hl w_4_50 (by decide) (Nat.le_of_ble_eq_true rfl) (Nat.le_of_ble_eq_true rfl) (Nat.le_of_ble_eq_true rfl) ?_
  refine tp_To_16_Ho (n := 34) C 17 rfl rfl h hbq hbk (fun H locs h => ?_)
  refine i_iconst (v := (0 : Int32)) (n := 35) C 18 rfl rfl rfl ?_
  refine i_iload_n (n := 36) C 19 rfl rfl rfl hl 0 rfl ?_
  refine i_aload_n (n := 37) C 20 rfl rfl rfl hl 1 rfl ?_
  refine tg_To_13_Ho (n := 40) C 21 rfl rfl h hbq hbk ?_
  refine i_isub (n := 41) C 22 rfl rfl ?_
  refine i_mmax (n := 44) C 23 rfl rfl hl w_4_50 (by decide) (Nat.le_of_ble_eq_true rfl) (Nat.le_of_ble_eq_true rfl) (Nat.le_of_ble_eq_true rfl) ?_
  exact hret _ (sF F b 2 (if (0 : Int32) < (if s0 < (F b 1) then s0 else (F b 1)) then (if s0 < (F b 1) then s0 else (F b 1)) else (0 : Int32))) _ _ _ _ rfl hw h (C.dg (k := 24) rfl)
set_option maxHeartbeats 4000000 in
set_option maxRecDepth 100000 in
theorem m_To_fill_Ho {l : Launch} {D : va_G} {cy : Nat → ClassId} {ad : Nat → Nat} {I : Nat → Int32} {A : Nat → Nat → Int32} {T : Nat → Option Nat} {L : List Nat} {K : Nat → Nat} {F : Nat → Nat → Int32} {b : Nat} {a1 : Int32} {a2 : Int32} {P : Int32 → ((Nat → Nat → Int32)) → Prop} (hbq : b ∈ L) (hbk : K b = 2) (hw : g_To_fill_Ho F b a1 a2 P) : ∀ sz, Met l y_To_fill (WL y_To_fill c_To_fill 4 (some .int)) { frames := 1, cells := 0, slots := 0, locals := 21 } (va_Pc [.ref b, .int a1, .int a2] (PreW D cy (wC cy ad I A T L K F) sz)) (va_Qi P (fun u t => PostW D (va_A (wC cy ad I A T L K F) sz) ((fun (u : (Nat → Nat → Int32)) => wC cy ad I A T L K u) u) t) (va_A (wC cy ad I A T L K F) sz)) 0 0 (va_A (wC cy ad I A T L K F) sz) := by
  refine met_i (wf := fun (u : (Nat → Nat → Int32)) => wC cy ad I A T L K u) R_To .int db_To_fill (by decide) rfl rfl (Nat.le_of_ble_eq_true rfl) ?_
  intro p e s m below meth c Z Q ls C h hl hret
  have hl : lv_has ls 4 [(0, .ref b), (1, .int a1), (2, .int a2)] := hl
  refine i_aload_n (n := 1) C 0 rfl rfl rfl hl 0 rfl ?_
  refine tg_To_16_Ho (n := 4) C 1 rfl rfl h hbq hbk ?_
  refine i_if_le (tgt := 16) (n := 7) C 2 rfl rfl rfl (fun c1 => ?_) (fun c1 => ?_)
  · replace hw := hw.1 c1
    refine i_iload_n (n := 17) C 8 rfl rfl rfl hl 1 rfl ?_
    exact e_To_fill_Ho_17 C hbq hbk hret  F a1 ls _ _ (lv_sub hl [0] rfl) h hw
  · replace hw := hw.2 c1
    refine i_aload_n (n := 8) C 3 rfl rfl rfl hl 0 rfl ?_
    refine tg_To_16_Ho (n := 11) C 4 rfl rfl h hbq hbk ?_
    refine i_iload_n (n := 12) C 5 rfl rfl rfl hl 2 rfl ?_
    refine i_isub (n := 13) C 6 rfl rfl ?_
    refine i_goto (tgt := 17) C 7 rfl rfl ?_
    exact e_To_fill_Ho_17 C hbq hbk hret  F ((F b 2) - a2) ls _ _ (lv_sub hl [0] rfl) h hw
end S104
section S105
variable {p : Program} {l : Launch} {e : Env} {R : Room} {s : State} {m : MethodId} {args : Array Value} {below : List Frame} {meth : Method} {c : Code} {H : Heap} {locs : List Loc} {cells slots : Nat} {Q : State → Prop}
variable {cc : ByteArray} {pc n nL : Nat} {ls : Array Slot} {rest : List Value} {D : va_G} {cy : Nat → ClassId} {Z : Nat → Prop} {ad : Nat → Nat} {tb : List (Nat × Instr × Nat)} {lv : List (Nat × Value)}
set_option maxHeartbeats 4000000 in
set_option maxRecDepth 100000 in
theorem e_To_fill_To_17 {I : Nat → Int32} {A : Nat → Nat → Int32} {T : Nat → Option Nat} {L : List Nat} {K : Nat → Nat} {b : Nat} {a1 : Int32} {a2 : Int32} {P : Int32 → ((Nat → Nat → Int32)) → Prop}  (C : CX D cy R_To c_To_fill tb_To_fill 4 p s m args c Z) (hbq : b ∈ L) (hbk : K b = 9) (hret : RetI p l e { frames := 1, cells := 0, slots := 0, locals := 21 } s m args below meth c c_To_fill .int D Z Q (fun (u : (Nat → Nat → Int32)) => wC cy ad I A T L K u) P 0 0) :
    ∀ (F : Nat → Nat → Int32) (s0 : Int32) (ls : Array Slot) (H : Heap) (locs : List Loc), lv_has ls 4 [(0, .ref b)] → HXw D Z s.heap H locs (wC cy ad I A T L K F) → g_To_fill_To_17 b a1 a2 P  F s0 → W p l e { frames := 1, cells := 0, slots := 0, locals := 21 } s m args below meth c H locs 0 0 Q (F0 m 17 ls [.int s0]) := by
  intro F s0 ls H locs hl h hw
  refine i_istore_n (lv' := [(3, .int s0), (0, .ref b)]) (n := 18) C 9 rfl rfl rfl hl (by decide) rfl (fun ls hl => ?_)
  refine i_aload_n (n := 19) C 10 rfl rfl rfl hl 1 rfl ?_
  refine i_iconst (v := (0 : Int32)) (n := 20) C 11 rfl rfl rfl ?_
  refine i_aload_n (n := 21) C 12 rfl rfl rfl hl 1 rfl ?_
  refine tg_To_13_To (n := 24) C 13 rfl rfl h hbq hbk ?_
  refine i_iload_n (n := 25) C 14 rfl rfl rfl hl 0 rfl ?_
  refine i_mmin (n := 28) C 15 rfl rfl hl w_4_47 (by decide) (Nat.le_of_ble_eq_true rfl) (Nat.le_of_ble_eq_true rfl) (Nat.le_of_ble_eq_true rfl) ?_
  refine i_mmax (n := 31) C 16 rfl rfl hl w_4_50 (by decide) (Nat.le_of_ble_eq_true rfl) (Nat.le_of_ble_eq_true rfl) (Nat.le_of_ble_eq_true rfl) ?_
  refine tp_To_16_To (n := 34) C 17 rfl rfl h hbq hbk (fun H locs h => ?_)
  refine i_iconst (v := (0 : Int32)) (n := 35) C 18 rfl rfl rfl ?_
  refine i_iload_n (n := 36) C 19 rfl rfl rfl hl 0 rfl ?_
  refine i_aload_n (n := 37) C 20 rfl rfl rfl hl 1 rfl ?_
  refine tg_To_13_To (n := 40) C 21 rfl rfl h hbq hbk ?_
  refine i_isub (n := 41) C 22 rfl rfl ?_
  refine i_mmax (n := 44) C 23 rfl rfl hl w_4_50 (by decide) (Nat.le_of_ble_eq_true rfl) (Nat.le_of_ble_eq_true rfl) (Nat.le_of_ble_eq_true rfl) ?_
  exact hret _ (sF F b 2 (if (0 : Int32) < (if s0 < (F b 1) then s0 else (F b 1)) then (if s0 < (F b 1) then s0 else (F b 1)) else (0 : Int32))) _ _ _ _ rfl hw h (C.dg (k := 24) rfl)
set_option maxHeartbeats 4000000 in
set_option maxRecDepth 100000 in
theorem m_To_fill_To {l : Launch} {D : va_G} {cy : Nat → ClassId} {ad : Nat → Nat} {I : Nat → Int32} {A : Nat → Nat → Int32} {T : Nat → Option Nat} {L : List Nat} {K : Nat → Nat} {F : Nat → Nat → Int32} {b : Nat} {a1 : Int32} {a2 : Int32} {P : Int32 → ((Nat → Nat → Int32)) → Prop} (hbq : b ∈ L) (hbk : K b = 9) (hw : g_To_fill_To F b a1 a2 P) : ∀ sz, Met l y_To_fill (WL y_To_fill c_To_fill 4 (some .int)) { frames := 1, cells := 0, slots := 0, locals := 21 } (va_Pc [.ref b, .int a1, .int a2] (PreW D cy (wC cy ad I A T L K F) sz)) (va_Qi P (fun u t => PostW D (va_A (wC cy ad I A T L K F) sz) ((fun (u : (Nat → Nat → Int32)) => wC cy ad I A T L K u) u) t) (va_A (wC cy ad I A T L K F) sz)) 0 0 (va_A (wC cy ad I A T L K F) sz) := by
  refine met_i (wf := fun (u : (Nat → Nat → Int32)) => wC cy ad I A T L K u) R_To .int db_To_fill (by decide) rfl rfl (Nat.le_of_ble_eq_true rfl) ?_
  intro p e s m below meth c Z Q ls C h hl hret
  have hl : lv_has ls 4 [(0, .ref b), (1, .int a1), (2, .int a2)] := hl
  refine i_aload_n (n := 1) C 0 rfl rfl rfl hl 0 rfl ?_
  refine tg_To_16_To (n := 4) C 1 rfl rfl h hbq hbk ?_
  refine i_if_le (tgt := 16) (n := 7) C 2 rfl rfl rfl (fun c1 => ?_) (fun c1 => ?_)
  · replace hw := hw.1 c1
    refine i_iload_n (n := 17) C 8 rfl rfl rfl hl 1 rfl ?_
    exact e_To_fill_To_17 C hbq hbk hret  F a1 ls _ _ (lv_sub hl [0] rfl) h hw
  · replace hw := hw.2 c1
    refine i_aload_n (n := 8) C 3 rfl rfl rfl hl 0 rfl ?_
    refine tg_To_16_To (n := 11) C 4 rfl rfl h hbq hbk ?_
    refine i_iload_n (n := 12) C 5 rfl rfl rfl hl 2 rfl ?_
    refine i_isub (n := 13) C 6 rfl rfl ?_
    refine i_goto (tgt := 17) C 7 rfl rfl ?_
    exact e_To_fill_To_17 C hbq hbk hret  F ((F b 2) - a2) ls _ _ (lv_sub hl [0] rfl) h hw
end S105
section S106
variable {p : Program} {l : Launch} {e : Env} {R : Room} {s : State} {m : MethodId} {args : Array Value} {below : List Frame} {meth : Method} {c : Code} {H : Heap} {locs : List Loc} {cells slots : Nat} {Q : State → Prop}
variable {cc : ByteArray} {pc n nL : Nat} {ls : Array Slot} {rest : List Value} {D : va_G} {cy : Nat → ClassId} {Z : Nat → Prop} {ad : Nat → Nat} {tb : List (Nat × Instr × Nat)} {lv : List (Nat × Value)}
set_option maxHeartbeats 4000000 in
set_option maxRecDepth 100000 in
theorem m_Th_burns {l : Launch} {D : va_G} {cy : Nat → ClassId}   {a1 : Int32} {b : Nat} {w : va_W} {P : Int32 → Prop} (hw : g_Th_burns a1 P) : ∀ sz, Met l y_Th_burns (WL y_Th_burns c_Th_burns 2 (some .int)) { frames := 0, cells := 0, slots := 0, locals := 0 } (va_Pc [.ref b, .int a1] (PreW D cy (w) sz)) (vp_Si P) 0 0 (fun _ => False) := by
  refine met_p R_Th .int db_Th_burns (by decide) rfl rfl (Nat.le_of_ble_eq_true rfl) ?_
  intro p e s m below meth c Z Q ls C h hl hret
  have hl : lv_has ls 2 [(0, .ref b), (1, .int a1)] := hl
  refine i_iconst (v := (0 : Int32)) (n := 1) C 0 rfl rfl rfl ?_
  exact hret _ _ _ rfl hw (C.dg (k := 1) rfl)
end S106
section S107
variable {p : Program} {l : Launch} {e : Env} {R : Room} {s : State} {m : MethodId} {args : Array Value} {below : List Frame} {meth : Method} {c : Code} {H : Heap} {locs : List Loc} {cells slots : Nat} {Q : State → Prop}
variable {cc : ByteArray} {pc n nL : Nat} {ls : Array Slot} {rest : List Value} {D : va_G} {cy : Nat → ClassId} {Z : Nat → Prop} {ad : Nat → Nat} {tb : List (Nat × Instr × Nat)} {lv : List (Nat × Value)}
set_option maxHeartbeats 4000000 in
set_option maxRecDepth 100000 in
theorem m_Ho_burns_Ho {l : Launch} {D : va_G} {cy : Nat → ClassId} {ad : Nat → Nat} {I : Nat → Int32} {A : Nat → Nat → Int32} {T : Nat → Option Nat} {L : List Nat} {K : Nat → Nat} {F : Nat → Nat → Int32} {b : Nat} {a1 : Int32} {P : Int32 → Prop} (hbq : b ∈ L) (hbk : K b = 2) (hw : g_Ho_burns_Ho F b a1 P) : ∀ sz, Met l y_Ho_burns (WL y_Ho_burns c_Ho_burns 2 (some .int)) { frames := 0, cells := 0, slots := 0, locals := 0 } (va_Pc [.ref b, .int a1] (PreW D cy (wC cy ad I A T L K F) sz)) (vp_Si P) 0 0 (fun _ => False) := by
  refine met_p R_Ho .int db_Ho_burns (by decide) rfl rfl (Nat.le_of_ble_eq_true rfl) ?_
  intro p e s m below meth c Z Q ls C h hl hret
  have hl : lv_has ls 2 [(0, .ref b), (1, .int a1)] := hl
  refine i_aload_n (n := 1) C 0 rfl rfl rfl hl 0 rfl ?_
  refine tg_Ho_18_Ho (n := 4) C 1 rfl rfl h hbq hbk ?_
  refine i_if_eq (tgt := 21) (n := 7) C 2 rfl rfl rfl (fun c1 => ?_) (fun c1 => ?_)
  · replace hw := hw.1 c1
    refine i_iconst (v := (0 : Int32)) (n := 22) C 11 rfl rfl rfl ?_
    exact hret _ _ _ rfl hw (C.dg (k := 12) rfl)
  · replace hw := hw.2 c1
    refine i_iload_n (n := 8) C 3 rfl rfl rfl hl 1 rfl ?_
    refine i_iconst (v := (4 : Int32)) (n := 9) C 4 rfl rfl rfl ?_
    refine i_irem (n := 10) C 5 rfl rfl (by decide) ?_
    refine i_iconst (v := (3 : Int32)) (n := 11) C 6 rfl rfl rfl ?_
    refine i_icmp_ne (tgt := 21) (n := 14) C 7 rfl rfl rfl (fun c2 => ?_) (fun c2 => ?_)
    · replace hw := hw.1 c2
      refine i_iconst (v := (0 : Int32)) (n := 22) C 11 rfl rfl rfl ?_
      exact hret _ _ _ rfl hw (C.dg (k := 12) rfl)
    · replace hw := hw.2 c2
      refine i_aload_n (n := 15) C 8 rfl rfl rfl hl 0 rfl ?_
      refine tg_Ho_15_Ho (n := 18) C 9 rfl rfl h hbq hbk ?_
      refine i_goto (tgt := 22) C 10 rfl rfl ?_
      exact hret _ _ _ rfl hw (C.dg (k := 12) rfl)
end S107
theorem kU_Pw_353_Br {R : Room} {s : State} {args : Array Value} (hR : 0 + 1 ≤ R.frames ∧ 8 + (1 + 11) + 0 ≤ R.locals) (ht : ∀ w ∈ GW, w.before args s = true) (hN : NX s) : va_CU R s args R_Pw R_Br "PipeWorks$Thing" 353 ⟨"PipeWorks$Thing", "givesAndTakes", "()Z"⟩ y_Th_givesAndTakes c_Th_givesAndTakes 1 (some .boolean) (WL y_Th_givesAndTakes c_Th_givesAndTakes 1 (some .boolean)) { frames := 0, cells := 0, slots := 0, locals := 0 } 0 0 0 := va_cwU (x := ⟨"PipeWorks$Thing", "givesAndTakes", "()Z"⟩) 0 ht (GW_u (x := ⟨"PipeWorks$Thing", "givesAndTakes", "()Z"⟩) w_4_20 w_4_22 w_4_23 w_4_21 w_1_8 (GW_wl w_4_33)) rfl rfl rfl rfl (by decide +kernel) hR
theorem kU_Pw_353_Dr {R : Room} {s : State} {args : Array Value} (hR : 0 + 1 ≤ R.frames ∧ 8 + (1 + 11) + 0 ≤ R.locals) (ht : ∀ w ∈ GW, w.before args s = true) (hN : NX s) : va_CU R s args R_Pw R_Dr "PipeWorks$Thing" 353 ⟨"PipeWorks$Thing", "givesAndTakes", "()Z"⟩ y_Th_givesAndTakes c_Th_givesAndTakes 1 (some .boolean) (WL y_Th_givesAndTakes c_Th_givesAndTakes 1 (some .boolean)) { frames := 0, cells := 0, slots := 0, locals := 0 } 0 0 0 := va_cwU (x := ⟨"PipeWorks$Thing", "givesAndTakes", "()Z"⟩) 0 ht (GW_u (x := ⟨"PipeWorks$Thing", "givesAndTakes", "()Z"⟩) w_4_20 w_4_22 w_4_24 w_4_21 w_1_8 (GW_wl w_4_33)) rfl rfl rfl rfl (by decide +kernel) hR
theorem kU_Pw_353_Ho {R : Room} {s : State} {args : Array Value} (hR : 0 + 1 ≤ R.frames ∧ 8 + (1 + 11) + 0 ≤ R.locals) (ht : ∀ w ∈ GW, w.before args s = true) (hN : NX s) : va_CU R s args R_Pw R_Ho "PipeWorks$Thing" 353 ⟨"PipeWorks$Thing", "givesAndTakes", "()Z"⟩ y_Ho_givesAndTakes c_Ho_givesAndTakes 1 (some .boolean) (WL y_Ho_givesAndTakes c_Ho_givesAndTakes 1 (some .boolean)) { frames := 0, cells := 0, slots := 0, locals := 0 } 0 0 0 := va_cwO (x := ⟨"PipeWorks$Thing", "givesAndTakes", "()Z"⟩) 0 ht (GW_o (x := ⟨"PipeWorks$Thing", "givesAndTakes", "()Z"⟩) w_4_20 w_4_22 w_4_21 w_4_25 w_4_26 w_1_13 (GW_wl w_4_27)) rfl rfl rfl w_4_33 (by decide +kernel) hR
theorem kU_Pw_353_Le {R : Room} {s : State} {args : Array Value} (hR : 0 + 1 ≤ R.frames ∧ 8 + (1 + 11) + 0 ≤ R.locals) (ht : ∀ w ∈ GW, w.before args s = true) (hN : NX s) : va_CU R s args R_Pw R_Le "PipeWorks$Thing" 353 ⟨"PipeWorks$Thing", "givesAndTakes", "()Z"⟩ y_Th_givesAndTakes c_Th_givesAndTakes 1 (some .boolean) (WL y_Th_givesAndTakes c_Th_givesAndTakes 1 (some .boolean)) { frames := 0, cells := 0, slots := 0, locals := 0 } 0 0 0 := va_cwU (x := ⟨"PipeWorks$Thing", "givesAndTakes", "()Z"⟩) 0 ht (GW_u (x := ⟨"PipeWorks$Thing", "givesAndTakes", "()Z"⟩) w_4_20 w_4_22 w_4_28 w_4_21 w_1_8 (GW_wl w_4_33)) rfl rfl rfl rfl (by decide +kernel) hR
theorem kU_Pw_353_Li {R : Room} {s : State} {args : Array Value} (hR : 0 + 1 ≤ R.frames ∧ 8 + (1 + 11) + 0 ≤ R.locals) (ht : ∀ w ∈ GW, w.before args s = true) (hN : NX s) : va_CU R s args R_Pw R_Li "PipeWorks$Thing" 353 ⟨"PipeWorks$Thing", "givesAndTakes", "()Z"⟩ y_Th_givesAndTakes c_Th_givesAndTakes 1 (some .boolean) (WL y_Th_givesAndTakes c_Th_givesAndTakes 1 (some .boolean)) { frames := 0, cells := 0, slots := 0, locals := 0 } 0 0 0 := va_cwU (x := ⟨"PipeWorks$Thing", "givesAndTakes", "()Z"⟩) 0 ht (GW_u (x := ⟨"PipeWorks$Thing", "givesAndTakes", "()Z"⟩) w_4_20 w_4_22 w_4_29 w_4_21 w_1_8 (GW_wl w_4_33)) rfl rfl rfl rfl (by decide +kernel) hR
theorem kU_Pw_353_To {R : Room} {s : State} {args : Array Value} (hR : 0 + 1 ≤ R.frames ∧ 8 + (1 + 11) + 0 ≤ R.locals) (ht : ∀ w ∈ GW, w.before args s = true) (hN : NX s) : va_CU R s args R_Pw R_To "PipeWorks$Thing" 353 ⟨"PipeWorks$Thing", "givesAndTakes", "()Z"⟩ y_To_givesAndTakes c_To_givesAndTakes 1 (some .boolean) (WL y_To_givesAndTakes c_To_givesAndTakes 1 (some .boolean)) { frames := 0, cells := 0, slots := 0, locals := 0 } 0 0 0 := va_cwO (x := ⟨"PipeWorks$Thing", "givesAndTakes", "()Z"⟩) 0 ht (GW_o (x := ⟨"PipeWorks$Thing", "givesAndTakes", "()Z"⟩) w_4_20 w_4_22 w_4_21 w_4_30 w_4_31 w_1_12 (GW_wl w_4_32)) rfl rfl rfl w_4_33 (by decide +kernel) hR
theorem kU_Pw_361_Br {R : Room} {s : State} {args : Array Value} (hR : 0 + 1 ≤ R.frames ∧ 8 + (2 + 11) + 0 ≤ R.locals) (ht : ∀ w ∈ GW, w.before args s = true) (hN : NX s) : va_CU R s args R_Pw R_Br "PipeWorks$Thing" 361 ⟨"PipeWorks$Thing", "burns", "(I)I"⟩ y_Th_burns c_Th_burns 2 (some .int) (WL y_Th_burns c_Th_burns 2 (some .int)) { frames := 0, cells := 0, slots := 0, locals := 0 } 0 0 1 := va_cwU (x := ⟨"PipeWorks$Thing", "burns", "(I)I"⟩) 1 ht (GW_u (x := ⟨"PipeWorks$Thing", "burns", "(I)I"⟩) w_4_55 w_4_57 w_4_58 w_4_56 w_1_8 (GW_wl w_4_66)) rfl rfl rfl rfl (by decide +kernel) hR
theorem kU_Pw_361_Dr {R : Room} {s : State} {args : Array Value} (hR : 0 + 1 ≤ R.frames ∧ 8 + (2 + 11) + 0 ≤ R.locals) (ht : ∀ w ∈ GW, w.before args s = true) (hN : NX s) : va_CU R s args R_Pw R_Dr "PipeWorks$Thing" 361 ⟨"PipeWorks$Thing", "burns", "(I)I"⟩ y_Th_burns c_Th_burns 2 (some .int) (WL y_Th_burns c_Th_burns 2 (some .int)) { frames := 0, cells := 0, slots := 0, locals := 0 } 0 0 1 := va_cwU (x := ⟨"PipeWorks$Thing", "burns", "(I)I"⟩) 1 ht (GW_u (x := ⟨"PipeWorks$Thing", "burns", "(I)I"⟩) w_4_55 w_4_57 w_4_59 w_4_56 w_1_8 (GW_wl w_4_66)) rfl rfl rfl rfl (by decide +kernel) hR
theorem kU_Pw_361_Ho {R : Room} {s : State} {args : Array Value} (hR : 0 + 1 ≤ R.frames ∧ 8 + (2 + 11) + 0 ≤ R.locals) (ht : ∀ w ∈ GW, w.before args s = true) (hN : NX s) : va_CU R s args R_Pw R_Ho "PipeWorks$Thing" 361 ⟨"PipeWorks$Thing", "burns", "(I)I"⟩ y_Ho_burns c_Ho_burns 2 (some .int) (WL y_Ho_burns c_Ho_burns 2 (some .int)) { frames := 0, cells := 0, slots := 0, locals := 0 } 0 0 1 := va_cwO (x := ⟨"PipeWorks$Thing", "burns", "(I)I"⟩) 1 ht (GW_o (x := ⟨"PipeWorks$Thing", "burns", "(I)I"⟩) w_4_55 w_4_57 w_4_56 w_4_60 w_4_61 w_1_13 (GW_wl w_4_62)) rfl rfl rfl w_4_66 (by decide +kernel) hR
theorem kU_Pw_361_Le {R : Room} {s : State} {args : Array Value} (hR : 0 + 1 ≤ R.frames ∧ 8 + (2 + 11) + 0 ≤ R.locals) (ht : ∀ w ∈ GW, w.before args s = true) (hN : NX s) : va_CU R s args R_Pw R_Le "PipeWorks$Thing" 361 ⟨"PipeWorks$Thing", "burns", "(I)I"⟩ y_Th_burns c_Th_burns 2 (some .int) (WL y_Th_burns c_Th_burns 2 (some .int)) { frames := 0, cells := 0, slots := 0, locals := 0 } 0 0 1 := va_cwU (x := ⟨"PipeWorks$Thing", "burns", "(I)I"⟩) 1 ht (GW_u (x := ⟨"PipeWorks$Thing", "burns", "(I)I"⟩) w_4_55 w_4_57 w_4_63 w_4_56 w_1_8 (GW_wl w_4_66)) rfl rfl rfl rfl (by decide +kernel) hR
theorem kU_Pw_361_Li {R : Room} {s : State} {args : Array Value} (hR : 0 + 1 ≤ R.frames ∧ 8 + (2 + 11) + 0 ≤ R.locals) (ht : ∀ w ∈ GW, w.before args s = true) (hN : NX s) : va_CU R s args R_Pw R_Li "PipeWorks$Thing" 361 ⟨"PipeWorks$Thing", "burns", "(I)I"⟩ y_Th_burns c_Th_burns 2 (some .int) (WL y_Th_burns c_Th_burns 2 (some .int)) { frames := 0, cells := 0, slots := 0, locals := 0 } 0 0 1 := va_cwU (x := ⟨"PipeWorks$Thing", "burns", "(I)I"⟩) 1 ht (GW_u (x := ⟨"PipeWorks$Thing", "burns", "(I)I"⟩) w_4_55 w_4_57 w_4_64 w_4_56 w_1_8 (GW_wl w_4_66)) rfl rfl rfl rfl (by decide +kernel) hR
theorem kU_Pw_361_To {R : Room} {s : State} {args : Array Value} (hR : 0 + 1 ≤ R.frames ∧ 8 + (2 + 11) + 0 ≤ R.locals) (ht : ∀ w ∈ GW, w.before args s = true) (hN : NX s) : va_CU R s args R_Pw R_To "PipeWorks$Thing" 361 ⟨"PipeWorks$Thing", "burns", "(I)I"⟩ y_Th_burns c_Th_burns 2 (some .int) (WL y_Th_burns c_Th_burns 2 (some .int)) { frames := 0, cells := 0, slots := 0, locals := 0 } 0 0 1 := va_cwU (x := ⟨"PipeWorks$Thing", "burns", "(I)I"⟩) 1 ht (GW_u (x := ⟨"PipeWorks$Thing", "burns", "(I)I"⟩) w_4_55 w_4_57 w_4_65 w_4_56 w_1_8 (GW_wl w_4_66)) rfl rfl rfl rfl (by decide +kernel) hR
theorem kV_Pw_356 {R : Room} {s : State} {args : Array Value} (hR : 1 + 1 ≤ R.frames ∧ 8 + (5 + 11) + 21 ≤ R.locals) (ht : ∀ w ∈ GW, w.before args s = true) : CallW R s args R_Pw R_Ne 356 y_Ne_flowOut c_Ne_flowOut 5 (some .int) (WL y_Ne_flowOut c_Ne_flowOut 5 (some .int)) { frames := 1, cells := 0, slots := 0, locals := 21 } 0 0 2 := cwV 2 ht (GW_v w_4_34 w_4_35 w_4_36 w_1_2 (GW_wl w_4_37)) rfl rfl rfl (by decide +kernel) hR
theorem kU_Pw_359_Br {R : Room} {s : State} {args : Array Value} (hR : 0 + 1 ≤ R.frames ∧ 8 + (3 + 11) + 0 ≤ R.locals) (ht : ∀ w ∈ GW, w.before args s = true) (hN : NX s) : va_CU R s args R_Pw R_Br "PipeWorks$Thing" 359 ⟨"PipeWorks$Thing", "fill", "(II)I"⟩ y_Th_fill c_Th_fill 3 (some .int) (WL y_Th_fill c_Th_fill 3 (some .int)) { frames := 0, cells := 0, slots := 0, locals := 0 } 0 0 2 := va_cwU (x := ⟨"PipeWorks$Thing", "fill", "(II)I"⟩) 2 ht (GW_u (x := ⟨"PipeWorks$Thing", "fill", "(II)I"⟩) w_4_39 w_4_41 w_4_42 w_4_40 w_1_8 (GW_wl w_4_54)) rfl rfl rfl rfl (by decide +kernel) hR
theorem kU_Pw_359_Dr {R : Room} {s : State} {args : Array Value} (hR : 0 + 1 ≤ R.frames ∧ 8 + (3 + 11) + 0 ≤ R.locals) (ht : ∀ w ∈ GW, w.before args s = true) (hN : NX s) : va_CU R s args R_Pw R_Dr "PipeWorks$Thing" 359 ⟨"PipeWorks$Thing", "fill", "(II)I"⟩ y_Th_fill c_Th_fill 3 (some .int) (WL y_Th_fill c_Th_fill 3 (some .int)) { frames := 0, cells := 0, slots := 0, locals := 0 } 0 0 2 := va_cwU (x := ⟨"PipeWorks$Thing", "fill", "(II)I"⟩) 2 ht (GW_u (x := ⟨"PipeWorks$Thing", "fill", "(II)I"⟩) w_4_39 w_4_41 w_4_43 w_4_40 w_1_8 (GW_wl w_4_54)) rfl rfl rfl rfl (by decide +kernel) hR
theorem kU_Pw_359_Ho {R : Room} {s : State} {args : Array Value} (hR : 1 + 1 ≤ R.frames ∧ 8 + (4 + 11) + 21 ≤ R.locals) (ht : ∀ w ∈ GW, w.before args s = true) (hN : NX s) : va_CU R s args R_Pw R_Ho "PipeWorks$Thing" 359 ⟨"PipeWorks$Thing", "fill", "(II)I"⟩ y_To_fill c_To_fill 4 (some .int) (WL y_To_fill c_To_fill 4 (some .int)) { frames := 1, cells := 0, slots := 0, locals := 21 } 0 0 2 := va_cwO (x := ⟨"PipeWorks$Thing", "fill", "(II)I"⟩) 2 ht (GW_o (x := ⟨"PipeWorks$Thing", "fill", "(II)I"⟩) w_4_39 w_4_41 w_4_40 w_4_44 w_4_45 w_1_12 (GW_wl w_4_46)) rfl rfl rfl w_4_54 (by decide +kernel) hR
theorem kU_Pw_359_Le {R : Room} {s : State} {args : Array Value} (hR : 0 + 1 ≤ R.frames ∧ 8 + (3 + 11) + 0 ≤ R.locals) (ht : ∀ w ∈ GW, w.before args s = true) (hN : NX s) : va_CU R s args R_Pw R_Le "PipeWorks$Thing" 359 ⟨"PipeWorks$Thing", "fill", "(II)I"⟩ y_Th_fill c_Th_fill 3 (some .int) (WL y_Th_fill c_Th_fill 3 (some .int)) { frames := 0, cells := 0, slots := 0, locals := 0 } 0 0 2 := va_cwU (x := ⟨"PipeWorks$Thing", "fill", "(II)I"⟩) 2 ht (GW_u (x := ⟨"PipeWorks$Thing", "fill", "(II)I"⟩) w_4_39 w_4_41 w_4_51 w_4_40 w_1_8 (GW_wl w_4_54)) rfl rfl rfl rfl (by decide +kernel) hR
theorem kU_Pw_359_Li {R : Room} {s : State} {args : Array Value} (hR : 0 + 1 ≤ R.frames ∧ 8 + (3 + 11) + 0 ≤ R.locals) (ht : ∀ w ∈ GW, w.before args s = true) (hN : NX s) : va_CU R s args R_Pw R_Li "PipeWorks$Thing" 359 ⟨"PipeWorks$Thing", "fill", "(II)I"⟩ y_Th_fill c_Th_fill 3 (some .int) (WL y_Th_fill c_Th_fill 3 (some .int)) { frames := 0, cells := 0, slots := 0, locals := 0 } 0 0 2 := va_cwU (x := ⟨"PipeWorks$Thing", "fill", "(II)I"⟩) 2 ht (GW_u (x := ⟨"PipeWorks$Thing", "fill", "(II)I"⟩) w_4_39 w_4_41 w_4_52 w_4_40 w_1_8 (GW_wl w_4_54)) rfl rfl rfl rfl (by decide +kernel) hR
theorem kU_Pw_359_To {R : Room} {s : State} {args : Array Value} (hR : 1 + 1 ≤ R.frames ∧ 8 + (4 + 11) + 21 ≤ R.locals) (ht : ∀ w ∈ GW, w.before args s = true) (hN : NX s) : va_CU R s args R_Pw R_To "PipeWorks$Thing" 359 ⟨"PipeWorks$Thing", "fill", "(II)I"⟩ y_To_fill c_To_fill 4 (some .int) (WL y_To_fill c_To_fill 4 (some .int)) { frames := 1, cells := 0, slots := 0, locals := 21 } 0 0 2 := va_cwO (x := ⟨"PipeWorks$Thing", "fill", "(II)I"⟩) 2 ht (GW_o (x := ⟨"PipeWorks$Thing", "fill", "(II)I"⟩) w_4_39 w_4_41 w_4_40 w_4_53 w_4_45 w_1_12 (GW_wl w_4_46)) rfl rfl rfl w_4_54 (by decide +kernel) hR
theorem kU_Pw_350_Br {R : Room} {s : State} {args : Array Value} (hR : 0 + 1 ≤ R.frames ∧ 8 + (2 + 11) + 0 ≤ R.locals) (ht : ∀ w ∈ GW, w.before args s = true) (hN : NX s) : va_CU R s args R_Pw R_Br "PipeWorks$Thing" 350 ⟨"PipeWorks$Thing", "strokesOf", "(I)I"⟩ y_Dr_strokesOf c_Dr_strokesOf 2 (some .int) (WL y_Dr_strokesOf c_Dr_strokesOf 2 (some .int)) { frames := 0, cells := 0, slots := 0, locals := 0 } 0 0 1 := va_cwO (x := ⟨"PipeWorks$Thing", "strokesOf", "(I)I"⟩) 1 ht (GW_o (x := ⟨"PipeWorks$Thing", "strokesOf", "(I)I"⟩) w_4_8 w_4_10 w_4_9 w_4_11 w_4_12 w_1_9 (GW_wl w_4_13)) rfl rfl rfl w_4_19 (by decide +kernel) hR
theorem kU_Pw_350_Dr {R : Room} {s : State} {args : Array Value} (hR : 0 + 1 ≤ R.frames ∧ 8 + (2 + 11) + 0 ≤ R.locals) (ht : ∀ w ∈ GW, w.before args s = true) (hN : NX s) : va_CU R s args R_Pw R_Dr "PipeWorks$Thing" 350 ⟨"PipeWorks$Thing", "strokesOf", "(I)I"⟩ y_Dr_strokesOf c_Dr_strokesOf 2 (some .int) (WL y_Dr_strokesOf c_Dr_strokesOf 2 (some .int)) { frames := 0, cells := 0, slots := 0, locals := 0 } 0 0 1 := va_cwO (x := ⟨"PipeWorks$Thing", "strokesOf", "(I)I"⟩) 1 ht (GW_o (x := ⟨"PipeWorks$Thing", "strokesOf", "(I)I"⟩) w_4_8 w_4_10 w_4_9 w_4_14 w_4_12 w_1_9 (GW_wl w_4_13)) rfl rfl rfl w_4_19 (by decide +kernel) hR
theorem kU_Pw_350_Ho {R : Room} {s : State} {args : Array Value} (hR : 0 + 1 ≤ R.frames ∧ 8 + (2 + 11) + 0 ≤ R.locals) (ht : ∀ w ∈ GW, w.before args s = true) (hN : NX s) : va_CU R s args R_Pw R_Ho "PipeWorks$Thing" 350 ⟨"PipeWorks$Thing", "strokesOf", "(I)I"⟩ y_Th_strokesOf c_Th_strokesOf 2 (some .int) (WL y_Th_strokesOf c_Th_strokesOf 2 (some .int)) { frames := 0, cells := 0, slots := 0, locals := 0 } 0 0 1 := va_cwU (x := ⟨"PipeWorks$Thing", "strokesOf", "(I)I"⟩) 1 ht (GW_u (x := ⟨"PipeWorks$Thing", "strokesOf", "(I)I"⟩) w_4_8 w_4_10 w_4_15 w_4_9 w_1_8 (GW_wl w_4_19)) rfl rfl rfl rfl (by decide +kernel) hR
theorem kU_Pw_350_Le {R : Room} {s : State} {args : Array Value} (hR : 0 + 1 ≤ R.frames ∧ 8 + (2 + 11) + 0 ≤ R.locals) (ht : ∀ w ∈ GW, w.before args s = true) (hN : NX s) : va_CU R s args R_Pw R_Le "PipeWorks$Thing" 350 ⟨"PipeWorks$Thing", "strokesOf", "(I)I"⟩ y_Th_strokesOf c_Th_strokesOf 2 (some .int) (WL y_Th_strokesOf c_Th_strokesOf 2 (some .int)) { frames := 0, cells := 0, slots := 0, locals := 0 } 0 0 1 := va_cwU (x := ⟨"PipeWorks$Thing", "strokesOf", "(I)I"⟩) 1 ht (GW_u (x := ⟨"PipeWorks$Thing", "strokesOf", "(I)I"⟩) w_4_8 w_4_10 w_4_16 w_4_9 w_1_8 (GW_wl w_4_19)) rfl rfl rfl rfl (by decide +kernel) hR
theorem kU_Pw_350_Li {R : Room} {s : State} {args : Array Value} (hR : 0 + 1 ≤ R.frames ∧ 8 + (2 + 11) + 0 ≤ R.locals) (ht : ∀ w ∈ GW, w.before args s = true) (hN : NX s) : va_CU R s args R_Pw R_Li "PipeWorks$Thing" 350 ⟨"PipeWorks$Thing", "strokesOf", "(I)I"⟩ y_Dr_strokesOf c_Dr_strokesOf 2 (some .int) (WL y_Dr_strokesOf c_Dr_strokesOf 2 (some .int)) { frames := 0, cells := 0, slots := 0, locals := 0 } 0 0 1 := va_cwO (x := ⟨"PipeWorks$Thing", "strokesOf", "(I)I"⟩) 1 ht (GW_o (x := ⟨"PipeWorks$Thing", "strokesOf", "(I)I"⟩) w_4_8 w_4_10 w_4_9 w_4_17 w_4_12 w_1_9 (GW_wl w_4_13)) rfl rfl rfl w_4_19 (by decide +kernel) hR
theorem kU_Pw_350_To {R : Room} {s : State} {args : Array Value} (hR : 0 + 1 ≤ R.frames ∧ 8 + (2 + 11) + 0 ≤ R.locals) (ht : ∀ w ∈ GW, w.before args s = true) (hN : NX s) : va_CU R s args R_Pw R_To "PipeWorks$Thing" 350 ⟨"PipeWorks$Thing", "strokesOf", "(I)I"⟩ y_Th_strokesOf c_Th_strokesOf 2 (some .int) (WL y_Th_strokesOf c_Th_strokesOf 2 (some .int)) { frames := 0, cells := 0, slots := 0, locals := 0 } 0 0 1 := va_cwU (x := ⟨"PipeWorks$Thing", "strokesOf", "(I)I"⟩) 1 ht (GW_u (x := ⟨"PipeWorks$Thing", "strokesOf", "(I)I"⟩) w_4_8 w_4_10 w_4_18 w_4_9 w_1_8 (GW_wl w_4_19)) rfl rfl rfl rfl (by decide +kernel) hR
section S108
variable {p : Program} {l : Launch} {e : Env} {R : Room} {s : State} {m : MethodId} {args : Array Value} {below : List Frame} {meth : Method} {c : Code} {H : Heap} {locs : List Loc} {cells slots : Nat} {Q : State → Prop}
variable {cc : ByteArray} {pc n nL : Nat} {ls : Array Slot} {rest : List Value} {D : va_G} {cy : Nat → ClassId} {Z : Nat → Prop} {ad : Nat → Nat} {tb : List (Nat × Instr × Nat)} {lv : List (Nat × Value)}
section G108
variable {I : Nat → Int32} {A : Nat → Nat → Int32} {T : Nat → Option Nat} {L : List Nat} {K : Nat → Nat} {F : Nat → Nat → Int32}
set_option maxHeartbeats 4000000 in
set_option maxRecDepth 100000 in
theorem gdc_Pw_353 {q : Nat}  {P : Int32 → Prop} (C : CX D cy R_Pw cc tb nL p s m args c Z) (k : Nat) (hk : tb[k]? = some (pc, .invokevirtual 353, 3)) (hn : pc + 3 = n) (hl : lv_has ls nL lv) (h : HXw D Z s.heap H locs (wC cy ad I A T L K F)) (hw : gd_givesAndTakes L K q  P) (hfr : 1 ≤ R.frames) (hlo : 20 ≤ R.locals) (hs : (rest.map fun v => v.category).sum ≤ 8) (hc : cells ≤ R.cells ∧ slots ≤ R.slots) (kk : ∀ r : Int32, P r → W p l e R s m args below meth c H locs cells slots Q (F0 m n ls (.int r :: rest))) : W p l e R s m args below meth c H locs cells slots Q (F0 m pc ls (.ref q :: rest)) := by
  obtain ⟨hq, hw⟩ := hw
  rcases hw with ⟨hk0, hw⟩ | ⟨hk0, hw⟩ | ⟨hk0, hw⟩ | ⟨hk0, hw⟩ | ⟨hk0, hw⟩ | ⟨hk0, hw⟩
  · obtain ⟨q0, he, -⟩ := wC_th (cy := cy) (ad := ad) (I := I) (A := A) (T := T) (F := F) hq hk0
    exact i_callUp (rest := rest) (ci := 0) (qc := (R_Br, T_Br, 6)) C k hk hn hl h rfl he (kU_Pw_353_Br ⟨by omega, by omega⟩) (m_Th_givesAndTakes hw) rfl rfl hs hc kk
  · obtain ⟨q0, he, -⟩ := wC_th (cy := cy) (ad := ad) (I := I) (A := A) (T := T) (F := F) hq hk0
    exact i_callUp (rest := rest) (ci := 1) (qc := (R_Dr, T_Dr, 3)) C k hk hn hl h rfl he (kU_Pw_353_Dr ⟨by omega, by omega⟩) (m_Th_givesAndTakes hw) rfl rfl hs hc kk
  · obtain ⟨q0, he, -⟩ := wC_th (cy := cy) (ad := ad) (I := I) (A := A) (T := T) (F := F) hq hk0
    exact i_callUp (rest := rest) (ci := 2) (qc := (R_Ho, T_Ho, 7)) C k hk hn hl h rfl he (kU_Pw_353_Ho ⟨by omega, by omega⟩) (m_Ho_givesAndTakes hw) rfl rfl hs hc kk
  · obtain ⟨q0, he, -⟩ := wC_th (cy := cy) (ad := ad) (I := I) (A := A) (T := T) (F := F) hq hk0
    exact i_callUp (rest := rest) (ci := 3) (qc := (R_Le, T_Le, 3)) C k hk hn hl h rfl he (kU_Pw_353_Le ⟨by omega, by omega⟩) (m_Th_givesAndTakes hw) rfl rfl hs hc kk
  · obtain ⟨q0, he, -⟩ := wC_th (cy := cy) (ad := ad) (I := I) (A := A) (T := T) (F := F) hq hk0
    exact i_callUp (rest := rest) (ci := 4) (qc := (R_Li, T_Li, 4)) C k hk hn hl h rfl he (kU_Pw_353_Li ⟨by omega, by omega⟩) (m_Th_givesAndTakes hw) rfl rfl hs hc kk
  · obtain ⟨q0, he, -⟩ := wC_th (cy := cy) (ad := ad) (I := I) (A := A) (T := T) (F := F) hq hk0
    exact i_callUp (rest := rest) (ci := 9) (qc := (R_To, T_To, 3)) C k hk hn hl h rfl he (kU_Pw_353_To ⟨by omega, by omega⟩) (m_To_givesAndTakes hw) rfl rfl hs hc kk
set_option maxHeartbeats 4000000 in
set_option maxRecDepth 100000 in
theorem gdc_Pw_361 {q : Nat} {a1 : Int32} {P : Int32 → Prop} (C : CX D cy R_Pw cc tb nL p s m args c Z) (k : Nat) (hk : tb[k]? = some (pc, .invokevirtual 361, 3)) (hn : pc + 3 = n) (hl : lv_has ls nL lv) (h : HXw D Z s.heap H locs (wC cy ad I A T L K F)) (hw : gd_burns L K F q a1 P) (hfr : 1 ≤ R.frames) (hlo : 21 ≤ R.locals) (hs : (rest.map fun v => v.category).sum ≤ 8) (hc : cells ≤ R.cells ∧ slots ≤ R.slots) (kk : ∀ r : Int32, P r → W p l e R s m args below meth c H locs cells slots Q (F0 m n ls (.int r :: rest))) : W p l e R s m args below meth c H locs cells slots Q (F0 m pc ls (.int a1 :: .ref q :: rest)) := by
  obtain ⟨hq, hw⟩ := hw
  rcases hw with ⟨hk0, hw⟩ | ⟨hk0, hw⟩ | ⟨hk0, hw⟩ | ⟨hk0, hw⟩ | ⟨hk0, hw⟩ | ⟨hk0, hw⟩
  · obtain ⟨q0, he, -⟩ := wC_th (cy := cy) (ad := ad) (I := I) (A := A) (T := T) (F := F) hq hk0
    exact i_callUp (rest := rest) (ci := 0) (qc := (R_Br, T_Br, 6)) C k hk hn hl h rfl he (kU_Pw_361_Br ⟨by omega, by omega⟩) (m_Th_burns hw) rfl rfl hs hc kk
  · obtain ⟨q0, he, -⟩ := wC_th (cy := cy) (ad := ad) (I := I) (A := A) (T := T) (F := F) hq hk0
    exact i_callUp (rest := rest) (ci := 1) (qc := (R_Dr, T_Dr, 3)) C k hk hn hl h rfl he (kU_Pw_361_Dr ⟨by omega, by omega⟩) (m_Th_burns hw) rfl rfl hs hc kk
  · obtain ⟨q0, he, -⟩ := wC_th (cy := cy) (ad := ad) (I := I) (A := A) (T := T) (F := F) hq hk0
    exact i_callUp (rest := rest) (ci := 2) (qc := (R_Ho, T_Ho, 7)) C k hk hn hl h rfl he (kU_Pw_361_Ho ⟨by omega, by omega⟩) (m_Ho_burns_Ho hq hk0 hw) rfl rfl hs hc kk
  · obtain ⟨q0, he, -⟩ := wC_th (cy := cy) (ad := ad) (I := I) (A := A) (T := T) (F := F) hq hk0
    exact i_callUp (rest := rest) (ci := 3) (qc := (R_Le, T_Le, 3)) C k hk hn hl h rfl he (kU_Pw_361_Le ⟨by omega, by omega⟩) (m_Th_burns hw) rfl rfl hs hc kk
  · obtain ⟨q0, he, -⟩ := wC_th (cy := cy) (ad := ad) (I := I) (A := A) (T := T) (F := F) hq hk0
    exact i_callUp (rest := rest) (ci := 4) (qc := (R_Li, T_Li, 4)) C k hk hn hl h rfl he (kU_Pw_361_Li ⟨by omega, by omega⟩) (m_Th_burns hw) rfl rfl hs hc kk
  · obtain ⟨q0, he, -⟩ := wC_th (cy := cy) (ad := ad) (I := I) (A := A) (T := T) (F := F) hq hk0
    exact i_callUp (rest := rest) (ci := 9) (qc := (R_To, T_To, 3)) C k hk hn hl h rfl he (kU_Pw_361_To ⟨by omega, by omega⟩) (m_Th_burns hw) rfl rfl hs hc kk
set_option maxHeartbeats 4000000 in
set_option maxRecDepth 100000 in
theorem gdc_Pw_359 {q : Nat} {a1 : Int32} {a2 : Int32} {P : Int32 → ((Nat → Nat → Int32)) → Prop} (C : CX D cy R_Pw cc tb nL p s m args c Z) (k : Nat) (hk : tb[k]? = some (pc, .invokevirtual 359, 3)) (hn : pc + 3 = n) (hl : lv_has ls nL lv) (h : HXw D Z s.heap H locs (wC cy ad I A T L K F)) (hw : gd_fill L K F q a1 a2 P) (hfr : 2 ≤ R.frames) (hlo : 44 ≤ R.locals) (hs : (rest.map fun v => v.category).sum ≤ 8) (hc : cells ≤ R.cells ∧ slots ≤ R.slots) (kk : ∀ (r : Int32) (u : (Nat → Nat → Int32)) (H : Heap) (locs : List Loc), P r u → HXw D Z s.heap H locs (wC cy ad I A T L K u) → W p l e R s m args below meth c H locs cells slots Q (F0 m n ls (.int r :: rest))) : W p l e R s m args below meth c H locs cells slots Q (F0 m pc ls (.int a2 :: .int a1 :: .ref q :: rest)) := by
  obtain ⟨hq, hw⟩ := hw
  rcases hw with ⟨hk0, hw⟩ | ⟨hk0, hw⟩ | ⟨hk0, hw⟩ | ⟨hk0, hw⟩ | ⟨hk0, hw⟩ | ⟨hk0, hw⟩
  · obtain ⟨q0, he, -⟩ := wC_th (cy := cy) (ad := ad) (I := I) (A := A) (T := T) (F := F) hq hk0
    exact i_callUp (rest := rest) (ci := 0) (qc := (R_Br, T_Br, 6)) C k hk hn hl h rfl he (kU_Pw_359_Br ⟨by omega, by omega⟩) (m_Th_fill hw) rfl rfl hs hc (fun r hw => kk r F H locs hw h)
  · obtain ⟨q0, he, -⟩ := wC_th (cy := cy) (ad := ad) (I := I) (A := A) (T := T) (F := F) hq hk0
    exact i_callUp (rest := rest) (ci := 1) (qc := (R_Dr, T_Dr, 3)) C k hk hn hl h rfl he (kU_Pw_359_Dr ⟨by omega, by omega⟩) (m_Th_fill hw) rfl rfl hs hc (fun r hw => kk r F H locs hw h)
  · obtain ⟨q0, he, -⟩ := wC_th (cy := cy) (ad := ad) (I := I) (A := A) (T := T) (F := F) hq hk0
    exact i_callUi (rest := rest) (ci := 2) (qc := (R_Ho, T_Ho, 7)) C k hk hn hl h rfl he (kU_Pw_359_Ho ⟨by omega, by omega⟩) (m_To_fill_Ho hq hk0 hw) rfl rfl hs hc kk
  · obtain ⟨q0, he, -⟩ := wC_th (cy := cy) (ad := ad) (I := I) (A := A) (T := T) (F := F) hq hk0
    exact i_callUp (rest := rest) (ci := 3) (qc := (R_Le, T_Le, 3)) C k hk hn hl h rfl he (kU_Pw_359_Le ⟨by omega, by omega⟩) (m_Th_fill hw) rfl rfl hs hc (fun r hw => kk r F H locs hw h)
  · obtain ⟨q0, he, -⟩ := wC_th (cy := cy) (ad := ad) (I := I) (A := A) (T := T) (F := F) hq hk0
    exact i_callUp (rest := rest) (ci := 4) (qc := (R_Li, T_Li, 4)) C k hk hn hl h rfl he (kU_Pw_359_Li ⟨by omega, by omega⟩) (m_Th_fill hw) rfl rfl hs hc (fun r hw => kk r F H locs hw h)
  · obtain ⟨q0, he, -⟩ := wC_th (cy := cy) (ad := ad) (I := I) (A := A) (T := T) (F := F) hq hk0
    exact i_callUi (rest := rest) (ci := 9) (qc := (R_To, T_To, 3)) C k hk hn hl h rfl he (kU_Pw_359_To ⟨by omega, by omega⟩) (m_To_fill_To hq hk0 hw) rfl rfl hs hc kk
set_option maxHeartbeats 4000000 in
set_option maxRecDepth 100000 in
theorem gdc_Pw_350 {q : Nat} {a1 : Int32} {P : Int32 → Prop} (C : CX D cy R_Pw cc tb nL p s m args c Z) (k : Nat) (hk : tb[k]? = some (pc, .invokevirtual 350, 3)) (hn : pc + 3 = n) (hl : lv_has ls nL lv) (h : HXw D Z s.heap H locs (wC cy ad I A T L K F)) (hw : gd_strokesOf L K q a1 P) (hfr : 1 ≤ R.frames) (hlo : 21 ≤ R.locals) (hs : (rest.map fun v => v.category).sum ≤ 8) (hc : cells ≤ R.cells ∧ slots ≤ R.slots) (kk : ∀ r : Int32, P r → W p l e R s m args below meth c H locs cells slots Q (F0 m n ls (.int r :: rest))) : W p l e R s m args below meth c H locs cells slots Q (F0 m pc ls (.int a1 :: .ref q :: rest)) := by
  obtain ⟨hq, hw⟩ := hw
  rcases hw with ⟨hk0, hw⟩ | ⟨hk0, hw⟩ | ⟨hk0, hw⟩ | ⟨hk0, hw⟩ | ⟨hk0, hw⟩ | ⟨hk0, hw⟩
  · obtain ⟨q0, he, -⟩ := wC_th (cy := cy) (ad := ad) (I := I) (A := A) (T := T) (F := F) hq hk0
    exact i_callUp (rest := rest) (ci := 0) (qc := (R_Br, T_Br, 6)) C k hk hn hl h rfl he (kU_Pw_350_Br ⟨by omega, by omega⟩) (m_Dr_strokesOf hw) rfl rfl hs hc kk
  · obtain ⟨q0, he, -⟩ := wC_th (cy := cy) (ad := ad) (I := I) (A := A) (T := T) (F := F) hq hk0
    exact i_callUp (rest := rest) (ci := 1) (qc := (R_Dr, T_Dr, 3)) C k hk hn hl h rfl he (kU_Pw_350_Dr ⟨by omega, by omega⟩) (m_Dr_strokesOf hw) rfl rfl hs hc kk
  · obtain ⟨q0, he, -⟩ := wC_th (cy := cy) (ad := ad) (I := I) (A := A) (T := T) (F := F) hq hk0
    exact i_callUp (rest := rest) (ci := 2) (qc := (R_Ho, T_Ho, 7)) C k hk hn hl h rfl he (kU_Pw_350_Ho ⟨by omega, by omega⟩) (m_Th_strokesOf hw) rfl rfl hs hc kk
  · obtain ⟨q0, he, -⟩ := wC_th (cy := cy) (ad := ad) (I := I) (A := A) (T := T) (F := F) hq hk0
    exact i_callUp (rest := rest) (ci := 3) (qc := (R_Le, T_Le, 3)) C k hk hn hl h rfl he (kU_Pw_350_Le ⟨by omega, by omega⟩) (m_Th_strokesOf hw) rfl rfl hs hc kk
  · obtain ⟨q0, he, -⟩ := wC_th (cy := cy) (ad := ad) (I := I) (A := A) (T := T) (F := F) hq hk0
    exact i_callUp (rest := rest) (ci := 4) (qc := (R_Li, T_Li, 4)) C k hk hn hl h rfl he (kU_Pw_350_Li ⟨by omega, by omega⟩) (m_Dr_strokesOf hw) rfl rfl hs hc kk
  · obtain ⟨q0, he, -⟩ := wC_th (cy := cy) (ad := ad) (I := I) (A := A) (T := T) (F := F) hq hk0
    exact i_callUp (rest := rest) (ci := 9) (qc := (R_To, T_To, 3)) C k hk hn hl h rfl he (kU_Pw_350_To ⟨by omega, by omega⟩) (m_Th_strokesOf hw) rfl rfl hs hc kk
end G108
set_option maxHeartbeats 4000000 in
set_option maxRecDepth 100000 in
theorem e_Pw_stepThings_146 {T : Nat → Option Nat} {L : List Nat} {K : Nat → Nat} {a1 : Int32} {P : ((Nat → Int32) × (Nat → Nat → Int32) × (Nat → Nat → Int32)) → Prop} {kb2 : (Nat → Int32) → (Nat → Nat → Int32) → (Nat → Nat → Int32) → Int32 → Prop} (C : CX D cy R_Pw c_Pw_stepThings tb_Pw_stepThings 5 p s m args c Z) (hret : RetV p l e { frames := 3, cells := 0, slots := 0, locals := 68 } s m args below meth c c_Pw_stepThings D Z Q (fun (u : (Nat → Int32) × (Nat → Nat → Int32) × (Nat → Nat → Int32)) => wC cy ad u.1 u.2.1 T L K u.2.2) P 0 0)
    (hb2 : ∀ (I : Nat → Int32) (A : Nat → Nat → Int32) (F : Nat → Nat → Int32) (x2 : Int32) (ls : Array Slot) (H : Heap) (locs : List Loc), lv_has ls 5 [(0, .ref (ad 0)), (1, .int a1), (2, .int x2)] → HXw D Z s.heap H locs (wC cy ad I A T L K F) → kb2 I A F x2 → W p l e { frames := 3, cells := 0, slots := 0, locals := 68 } s m args below meth c H locs 0 0 Q (F0 m 2 ls [])) :
    ∀ (I : Nat → Int32) (A : Nat → Nat → Int32) (F : Nat → Nat → Int32) (x2 : Int32) (ls : Array Slot) (H : Heap) (locs : List Loc), lv_has ls 5 [(0, .ref (ad 0)), (1, .int a1), (2, .int x2)] → HXw D Z s.heap H locs (wC cy ad I A T L K F) → g_Pw_stepThings_146 T L K a1 P kb2 I A F x2 → W p l e { frames := 3, cells := 0, slots := 0, locals := 68 } s m args below meth c H locs 0 0 Q (F0 m 146 ls []) := by
  intro I A F x2 ls H locs hl h hw
  refine i_iinc (v := x2 + (1 : Int32)) (lv' := [(2, .int (x2 + (1 : Int32))), (0, .ref (ad 0)), (1, .int a1)]) (n := 149) C 79 rfl rfl hl 2 rfl rfl (by decide) rfl (fun ls hl => ?_)
  refine i_goto (tgt := 2) C 80 rfl rfl ?_
  exact hb2 I A F (x2 + (1 : Int32)) ls _ _ (lv_sub hl [1, 2, 0] rfl) h hw
set_option maxHeartbeats 4000000 in
set_option maxRecDepth 100000 in
theorem e_Pw_stepThings_129 {T : Nat → Option Nat} {L : List Nat} {K : Nat → Nat} {a1 : Int32} {P : ((Nat → Int32) × (Nat → Nat → Int32) × (Nat → Nat → Int32)) → Prop} {kb2 : (Nat → Int32) → (Nat → Nat → Int32) → (Nat → Nat → Int32) → Int32 → Prop} (C : CX D cy R_Pw c_Pw_stepThings tb_Pw_stepThings 5 p s m args c Z) (hret : RetV p l e { frames := 3, cells := 0, slots := 0, locals := 68 } s m args below meth c c_Pw_stepThings D Z Q (fun (u : (Nat → Int32) × (Nat → Nat → Int32) × (Nat → Nat → Int32)) => wC cy ad u.1 u.2.1 T L K u.2.2) P 0 0)
    (hb2 : ∀ (I : Nat → Int32) (A : Nat → Nat → Int32) (F : Nat → Nat → Int32) (x2 : Int32) (ls : Array Slot) (H : Heap) (locs : List Loc), lv_has ls 5 [(0, .ref (ad 0)), (1, .int a1), (2, .int x2)] → HXw D Z s.heap H locs (wC cy ad I A T L K F) → kb2 I A F x2 → W p l e { frames := 3, cells := 0, slots := 0, locals := 68 } s m args below meth c H locs 0 0 Q (F0 m 2 ls [])) :
    ∀ (I : Nat → Int32) (A : Nat → Nat → Int32) (F : Nat → Nat → Int32) (x2 : Int32) (t3 : Nat) (ls : Array Slot) (H : Heap) (locs : List Loc), lv_has ls 5 [(0, .ref (ad 0)), (1, .int a1), (2, .int x2), (3, .ref t3)] → HXw D Z s.heap H locs (wC cy ad I A T L K F) → g_Pw_stepThings_129 T L K a1 P kb2 I A F x2 t3 → W p l e { frames := 3, cells := 0, slots := 0, locals := 68 } s m args below meth c H locs 0 0 Q (F0 m 129 ls []) := by
  intro I A F x2 t3 ls H locs hl h hw
  refine i_aload_n (n := 130) C 70 rfl rfl rfl hl 0 rfl ?_
  refine i_dup (n := 131) C 71 rfl rfl rfl ?_
  refine fgC_Pw_263 (n := 134) C 72 rfl rfl h ?_
  refine i_aload_n (n := 135) C 73 rfl rfl rfl hl 3 rfl ?_
  refine i_aload_n (n := 136) C 74 rfl rfl rfl hl 0 rfl ?_
  refine fgC_Pw_184 (n := 139) C 75 rfl rfl h ?_
  refine gdc_Pw_361 (rest := [.int (I 3), .ref (ad 0)]) (n := 142) C 76 rfl rfl hl h hw (by decide) (by decide) (Nat.le_of_ble_eq_true rfl) ⟨by decide, by decide⟩ (fun r9 hw => ?_)
  refine i_iadd (n := 143) C 77 rfl rfl ?_
  refine fpC_Pw_263 (n := 146) C 78 rfl rfl h (fun H locs h => ?_)
  exact e_Pw_stepThings_146 C hret hb2 (va_up I 3 ((I 3) + r9)) A F x2 ls _ _ (lv_sub hl [0, 1, 2] rfl) h hw
set_option maxHeartbeats 4000000 in
set_option maxRecDepth 100000 in
theorem e_Pw_stepThings_98 {T : Nat → Option Nat} {L : List Nat} {K : Nat → Nat} {a1 : Int32} {P : ((Nat → Int32) × (Nat → Nat → Int32) × (Nat → Nat → Int32)) → Prop} {kb2 : (Nat → Int32) → (Nat → Nat → Int32) → (Nat → Nat → Int32) → Int32 → Prop} (C : CX D cy R_Pw c_Pw_stepThings tb_Pw_stepThings 5 p s m args c Z) (hret : RetV p l e { frames := 3, cells := 0, slots := 0, locals := 68 } s m args below meth c c_Pw_stepThings D Z Q (fun (u : (Nat → Int32) × (Nat → Nat → Int32) × (Nat → Nat → Int32)) => wC cy ad u.1 u.2.1 T L K u.2.2) P 0 0)
    (hb2 : ∀ (I : Nat → Int32) (A : Nat → Nat → Int32) (F : Nat → Nat → Int32) (x2 : Int32) (ls : Array Slot) (H : Heap) (locs : List Loc), lv_has ls 5 [(0, .ref (ad 0)), (1, .int a1), (2, .int x2)] → HXw D Z s.heap H locs (wC cy ad I A T L K F) → kb2 I A F x2 → W p l e { frames := 3, cells := 0, slots := 0, locals := 68 } s m args below meth c H locs 0 0 Q (F0 m 2 ls [])) :
    ∀ (I : Nat → Int32) (A : Nat → Nat → Int32) (F : Nat → Nat → Int32) (x2 : Int32) (t3 : Nat) (x4 : Int32) (ls : Array Slot) (H : Heap) (locs : List Loc), lv_has ls 5 [(0, .ref (ad 0)), (1, .int a1), (2, .int x2), (3, .ref t3), (4, .int x4)] → HXw D Z s.heap H locs (wC cy ad I A T L K F) → g_Pw_stepThings_98 T L K a1 P kb2 I A F x2 t3 x4 → W p l e { frames := 3, cells := 0, slots := 0, locals := 68 } s m args below meth c H locs 0 0 Q (F0 m 98 ls []) := by
  intro I A F x2 t3 x4 ls H locs hl h hw
  refine i_aload_n (n := 99) C 54 rfl rfl rfl hl 3 rfl ?_
  refine gdc_Pw_353 (rest := []) (n := 102) C 55 rfl rfl hl h hw (by decide) (by decide) (Nat.le_of_ble_eq_true rfl) ⟨by decide, by decide⟩ (fun r7 hw => ?_)
  refine i_if_eq (tgt := 129) (n := 105) C 56 rfl rfl rfl (fun c8 => ?_) (fun c8 => ?_)
  · replace hw := hw.1 c8
    exact e_Pw_stepThings_129 C hret hb2 I A F x2 t3 ls _ _ (lv_sub hl [0, 1, 2, 3] rfl) h hw
  · replace hw := hw.2 c8
    refine i_aload_n (n := 106) C 57 rfl rfl rfl hl 0 rfl ?_
    refine i_dup (n := 107) C 58 rfl rfl rfl ?_
    refine fgC_Pw_260 (n := 110) C 59 rfl rfl h ?_
    refine i_aload_n (n := 111) C 60 rfl rfl rfl hl 3 rfl ?_
    refine i_iload (n := 113) C 61 rfl rfl hl 4 rfl ?_
    refine i_aload_n (n := 114) C 62 rfl rfl rfl hl 0 rfl ?_
    refine fgC_Pw_10 (n := 117) C 63 rfl rfl h ?_
    refine i_iload_n (n := 118) C 64 rfl rfl rfl hl 2 rfl ?_
    refine i_iload_n (n := 119) C 65 rfl rfl rfl hl 1 rfl ?_
    refine i_callVp (rest := [.int x4, .ref t3, .int (I 2), .ref (ad 0)]) (ci := 5) (qc := (R_Ne, T_Ne, 17)) (n := 122) C 66 rfl rfl hl h rfl (wC_get (h := 1) (by decide)) (kV_Pw_356 ⟨by decide, by decide⟩) (m_Ne_flowOut hw) rfl rfl (Nat.le_of_ble_eq_true rfl) ⟨by decide, by decide⟩ (fun r10 hw => ?_)
    refine gdc_Pw_359 (rest := [.int (I 2), .ref (ad 0)]) (n := 125) C 67 rfl rfl hl h hw (by decide) (by decide) (Nat.le_of_ble_eq_true rfl) ⟨by decide, by decide⟩ (fun r11 u12 H locs hw h => ?_)
    refine i_iadd (n := 126) C 68 rfl rfl ?_
    refine fpC_Pw_260 (n := 129) C 69 rfl rfl h (fun H locs h => ?_)
    exact e_Pw_stepThings_129 C hret hb2 (va_up I 2 ((I 2) + r11)) A u12 x2 t3 ls _ _ (lv_sub hl [0, 1, 2, 3] rfl) h hw
set_option maxHeartbeats 4000000 in
set_option maxRecDepth 100000 in
theorem e_Pw_stepThings_74 {T : Nat → Option Nat} {L : List Nat} {K : Nat → Nat} {a1 : Int32} {P : ((Nat → Int32) × (Nat → Nat → Int32) × (Nat → Nat → Int32)) → Prop} {kb2 : (Nat → Int32) → (Nat → Nat → Int32) → (Nat → Nat → Int32) → Int32 → Prop} (C : CX D cy R_Pw c_Pw_stepThings tb_Pw_stepThings 5 p s m args c Z) (hret : RetV p l e { frames := 3, cells := 0, slots := 0, locals := 68 } s m args below meth c c_Pw_stepThings D Z Q (fun (u : (Nat → Int32) × (Nat → Nat → Int32) × (Nat → Nat → Int32)) => wC cy ad u.1 u.2.1 T L K u.2.2) P 0 0)
    (hb2 : ∀ (I : Nat → Int32) (A : Nat → Nat → Int32) (F : Nat → Nat → Int32) (x2 : Int32) (ls : Array Slot) (H : Heap) (locs : List Loc), lv_has ls 5 [(0, .ref (ad 0)), (1, .int a1), (2, .int x2)] → HXw D Z s.heap H locs (wC cy ad I A T L K F) → kb2 I A F x2 → W p l e { frames := 3, cells := 0, slots := 0, locals := 68 } s m args below meth c H locs 0 0 Q (F0 m 2 ls [])) :
    ∀ (I : Nat → Int32) (A : Nat → Nat → Int32) (F : Nat → Nat → Int32) (x2 : Int32) (t3 : Nat) (x4 : Int32) (ls : Array Slot) (H : Heap) (locs : List Loc), lv_has ls 5 [(0, .ref (ad 0)), (1, .int a1), (2, .int x2), (3, .ref t3), (4, .int x4)] → HXw D Z s.heap H locs (wC cy ad I A T L K F) → g_Pw_stepThings_74 T L K a1 P kb2 I A F x2 t3 x4 → W p l e { frames := 3, cells := 0, slots := 0, locals := 68 } s m args below meth c H locs 0 0 Q (F0 m 74 ls []) := by
  intro I A F x2 t3 x4 ls H locs hl h hw
  refine i_aload_n (n := 75) C 39 rfl rfl rfl hl 0 rfl ?_
  refine fgC_Pw_39 (n := 78) C 40 rfl rfl h ?_
  refine i_iload_n (n := 79) C 41 rfl rfl rfl hl 2 rfl ?_
  obtain ⟨hb, hw⟩ := hw
  refine i_zald (n := 80) C 42 rfl rfl h (wC_arr 1 (by decide) rfl) hb ?_
  refine i_if_ne (tgt := 98) (n := 83) C 43 rfl rfl rfl (fun c6 => ?_) (fun c6 => ?_)
  · replace hw := hw.1 c6
    exact e_Pw_stepThings_98 C hret hb2 I A F x2 t3 x4 ls _ _ hl h hw
  · replace hw := hw.2 c6
    refine i_aload_n (n := 84) C 44 rfl rfl rfl hl 0 rfl ?_
    refine fgC_Pw_35 (n := 87) C 45 rfl rfl h ?_
    refine i_iload_n (n := 88) C 46 rfl rfl rfl hl 2 rfl ?_
    refine i_dup2 (n := 89) C 47 rfl rfl rfl rfl ?_
    obtain ⟨hb, hw⟩ := hw
    refine i_iald (n := 90) C 48 rfl rfl h (wC_arr 0 (by decide) rfl) hb ?_
    refine i_aload_n (n := 91) C 49 rfl rfl rfl hl 3 rfl ?_
    refine i_iload (n := 93) C 50 rfl rfl hl 4 rfl ?_
    refine gdc_Pw_350 (rest := [.int (A 0 x2.toNatClampNeg), .int x2, .ref (ad 8)]) (n := 96) C 51 rfl rfl hl h hw (by decide) (by decide) (Nat.le_of_ble_eq_true rfl) ⟨by decide, by decide⟩ (fun r13 hw => ?_)
    refine i_iadd (n := 97) C 52 rfl rfl ?_
    obtain ⟨hb, hw⟩ := hw
    refine i_iast (n := 98) C 53 rfl rfl h (wC_arr 0 (by decide) rfl) hb (wC_sA 0 (by decide) rfl _ _) (fun H locs h => ?_)
    exact e_Pw_stepThings_98 C hret hb2 I (sA A 0 x2 ((A 0 x2.toNatClampNeg) + r13)) F x2 t3 x4 ls _ _ hl h hw
set_option maxHeartbeats 4000000 in
set_option maxRecDepth 100000 in
theorem e_Pw_stepThings_2 {T : Nat → Option Nat} {L : List Nat} {K : Nat → Nat} {a1 : Int32} {P : ((Nat → Int32) × (Nat → Nat → Int32) × (Nat → Nat → Int32)) → Prop} {kx2 : (Nat → Int32) → (Nat → Nat → Int32) → (Nat → Nat → Int32) → Prop} (C : CX D cy R_Pw c_Pw_stepThings tb_Pw_stepThings 5 p s m args c Z) (hret : RetV p l e { frames := 3, cells := 0, slots := 0, locals := 68 } s m args below meth c c_Pw_stepThings D Z Q (fun (u : (Nat → Int32) × (Nat → Nat → Int32) × (Nat → Nat → Int32)) => wC cy ad u.1 u.2.1 T L K u.2.2) P 0 0)
    (hx2 : ∀ (I : Nat → Int32) (A : Nat → Nat → Int32) (F : Nat → Nat → Int32) (ls : Array Slot) (H : Heap) (locs : List Loc), lv_has ls 5 [] → HXw D Z s.heap H locs (wC cy ad I A T L K F) → kx2 I A F → W p l e { frames := 3, cells := 0, slots := 0, locals := 68 } s m args below meth c H locs 0 0 Q (F0 m 152 ls [])) :
    ∀ (n : Nat) (I : Nat → Int32) (A : Nat → Nat → Int32) (F : Nat → Nat → Int32) (x2 : Int32) (ls : Array Slot) (H : Heap) (locs : List Loc), lv_has ls 5 [(0, .ref (ad 0)), (1, .int a1), (2, .int x2)] → HXw D Z s.heap H locs (wC cy ad I A T L K F) → g_Pw_stepThings_2 T L K a1 P kx2 n I A F x2 → W p l e { frames := 3, cells := 0, slots := 0, locals := 68 } s m args below meth c H locs 0 0 Q (F0 m 2 ls []) := by
  intro n
  induction n with
  | zero => intro I A F x2 ls H locs hl h hw; exact hw.elim
  | succ n ih =>
    intro I A F x2 ls H locs hl h hw
    refine i_iload_n (n := 3) C 2 rfl rfl rfl hl 2 rfl ?_
    refine i_aload_n (n := 4) C 3 rfl rfl rfl hl 0 rfl ?_
    refine fgC_Pw_10 (n := 7) C 4 rfl rfl h ?_
    refine fgC_Pw_245 (n := 10) C 5 rfl rfl h ?_
    refine i_icmp_ge (tgt := 152) (n := 13) C 6 rfl rfl rfl (fun c1 => ?_) (fun c1 => ?_)
    · replace hw := hw.1 c1
      exact hx2 I A F ls _ _ (lv_sub hl [] rfl) h hw
    · replace hw := hw.2 c1
      refine i_aload_n (n := 14) C 7 rfl rfl rfl hl 0 rfl ?_
      refine fgC_Pw_10 (n := 17) C 8 rfl rfl h ?_
      refine fgC_Pw_168 (n := 20) C 9 rfl rfl h ?_
      refine i_iload_n (n := 21) C 10 rfl rfl rfl hl 2 rfl ?_
      obtain ⟨hb, hw⟩ := hw
      refine i_aldq (n := 22) C 11 rfl rfl h (wC_get (h := 5) (by decide)) hb (fun c3 => ?_) (fun q2 c3 => ?_)
      · replace hw := hw.1 c3
        refine i_astore_nN (lv' := [(3, .null), (0, .ref (ad 0)), (1, .int a1), (2, .int x2)]) (n := 23) C 12 rfl rfl rfl hl (by decide) rfl (fun ls hl => ?_)
        refine i_aload_nN (n := 24) C 13 rfl rfl rfl hl 0 rfl ?_
        refine i_ifnonnullN (n := 27) C 14 rfl rfl ?_
        refine i_goto (tgt := 146) C 15 rfl rfl ?_
        exact e_Pw_stepThings_146 C hret ih I A F x2 ls _ _ (lv_sub hl [1, 2, 3] rfl) h hw
      · replace hw := hw.2 q2 c3
        refine i_astore_n (lv' := [(3, .ref q2), (0, .ref (ad 0)), (1, .int a1), (2, .int x2)]) (n := 23) C 12 rfl rfl rfl hl (by decide) rfl (fun ls hl => ?_)
        refine i_aload_n (n := 24) C 13 rfl rfl rfl hl 0 rfl ?_
        refine i_ifnonnull (tgt := 30) C 14 rfl rfl ?_
        refine i_aload_n (n := 31) C 16 rfl rfl rfl hl 1 rfl ?_
        refine fgC_Pw_10 (n := 34) C 17 rfl rfl h ?_
        refine i_iload_n (n := 35) C 18 rfl rfl rfl hl 3 rfl ?_
        refine i_aload_n (n := 36) C 19 rfl rfl rfl hl 1 rfl ?_
        refine fgC_Pw_184 (n := 39) C 20 rfl rfl h ?_
        refine i_callVp (rest := []) (ci := 5) (qc := (R_Ne, T_Ne, 17)) (n := 42) C 21 rfl rfl hl h rfl (wC_get (h := 1) (by decide)) (kV_Pw_188 ⟨by decide, by decide⟩) (m_Ne_taken hw) rfl rfl (Nat.le_of_ble_eq_true rfl) ⟨by decide, by decide⟩ (fun r4 hw => ?_)
        refine i_istore (lv' := [(4, .int r4), (3, .ref q2), (0, .ref (ad 0)), (1, .int a1), (2, .int x2)]) (n := 44) C 22 rfl rfl hl (by decide) rfl (fun ls hl => ?_)
        refine i_iload (n := 46) C 23 rfl rfl hl 0 rfl ?_
        refine i_iconst (v := (1 : Int32)) (n := 47) C 24 rfl rfl rfl ?_
        refine i_icmp_lt (tgt := 74) (n := 50) C 25 rfl rfl rfl (fun c5 => ?_) (fun c5 => ?_)
        · replace hw := hw.1 c5
          exact e_Pw_stepThings_74 C hret ih I A F x2 q2 r4 ls _ _ (lv_sub hl [2, 3, 4, 1, 0] rfl) h hw
        · replace hw := hw.2 c5
          refine i_aload_n (n := 51) C 26 rfl rfl rfl hl 2 rfl ?_
          refine fgC_Pw_10 (n := 54) C 27 rfl rfl h ?_
          refine i_iload_n (n := 55) C 28 rfl rfl rfl hl 4 rfl ?_
          refine i_callVp (rest := []) (ci := 5) (qc := (R_Ne, T_Ne, 17)) (n := 58) C 29 rfl rfl hl h rfl (wC_get (h := 1) (by decide)) (kV_Pw_230 ⟨by decide, by decide⟩) (m_Ne_pressAt hw) rfl rfl (Nat.le_of_ble_eq_true rfl) ⟨by decide, by decide⟩ (fun r14 hw => ?_)
          refine i_if_ne (tgt := 74) (n := 61) C 30 rfl rfl rfl (fun c15 => ?_) (fun c15 => ?_)
          · replace hw := hw.1 c15
            exact e_Pw_stepThings_74 C hret ih I A F x2 q2 r4 ls _ _ (lv_sub hl [2, 3, 4, 1, 0] rfl) h hw
          · replace hw := hw.2 c15
            refine i_aload_n (n := 62) C 31 rfl rfl rfl hl 2 rfl ?_
            refine i_dup (n := 63) C 32 rfl rfl rfl ?_
            refine fgC_Pw_236 (n := 66) C 33 rfl rfl h ?_
            refine i_iconst (v := (1 : Int32)) (n := 67) C 34 rfl rfl rfl ?_
            refine i_iadd (n := 68) C 35 rfl rfl ?_
            refine fpC_Pw_236 (n := 71) C 36 rfl rfl h (fun H locs h => ?_)
            refine i_iconst (v := (0 : Int32)) (n := 72) C 37 rfl rfl rfl ?_
            refine i_istore (lv' := [(4, .int (0 : Int32)), (3, .ref q2), (0, .ref (ad 0)), (1, .int a1), (2, .int x2)]) (n := 74) C 38 rfl rfl hl (by decide) rfl (fun ls hl => ?_)
            exact e_Pw_stepThings_74 C hret ih (va_up I 1 ((I 1) + (1 : Int32))) A F x2 q2 (0 : Int32) ls _ _ (lv_sub hl [2, 3, 4, 1, 0] rfl) h hw
set_option maxHeartbeats 4000000 in
set_option maxRecDepth 100000 in
theorem m_Pw_stepThings {l : Launch} {D : va_G} {cy : Nat → ClassId} {ad : Nat → Nat} {I : Nat → Int32} {A : Nat → Nat → Int32} {T : Nat → Option Nat} {L : List Nat} {K : Nat → Nat} {F : Nat → Nat → Int32} {a1 : Int32} {P : ((Nat → Int32) × (Nat → Nat → Int32) × (Nat → Nat → Int32)) → Prop} (hw : g_Pw_stepThings I A T L K F a1 P) : ∀ sz, Met l y_Pw_stepThings (WL y_Pw_stepThings c_Pw_stepThings 5 none) { frames := 3, cells := 0, slots := 0, locals := 68 } (va_Pc [.ref (ad 0), .int a1] (PreW D cy (wC cy ad I A T L K F) sz)) (va_Qv P (fun u t => PostW D (va_A (wC cy ad I A T L K F) sz) ((fun (u : (Nat → Int32) × (Nat → Nat → Int32) × (Nat → Nat → Int32)) => wC cy ad u.1 u.2.1 T L K u.2.2) u) t) (va_A (wC cy ad I A T L K F) sz)) 0 0 (va_A (wC cy ad I A T L K F) sz) := by
  refine met_v (wf := fun (u : (Nat → Int32) × (Nat → Nat → Int32) × (Nat → Nat → Int32)) => wC cy ad u.1 u.2.1 T L K u.2.2) R_Pw db_Pw_stepThings (by decide) rfl (Nat.le_of_ble_eq_true rfl) ?_
  intro p e s m below meth c Z Q ls hin C h hl hret
  have hl : lv_has ls 5 [(0, .ref (ad 0)), (1, .int a1)] := hl
  refine i_iconst (v := (0 : Int32)) (n := 1) C 0 rfl rfl rfl ?_
  refine i_istore_n (lv' := [(2, .int (0 : Int32)), (0, .ref (ad 0)), (1, .int a1)]) (n := 2) C 1 rfl rfl rfl hl (by decide) rfl (fun ls hl => ?_)
  obtain ⟨n16, hw⟩ := hw
  refine e_Pw_stepThings_2 C hret (fun I_16 A_16 F_16 ls H locs hl h hw => ?_) n16 I A F (0 : Int32) ls _ _ (lv_sub hl [1, 2, 0] rfl) h hw
  have hl : lv_has ls 5 [] := hl
  exact hret (I_16, A_16, F_16) _ _ _ _ hw h (C.dg (k := 81) rfl)
end S108
