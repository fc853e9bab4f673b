section S86
variable {p : Program} {l : Launch} {e : Env} {R : Room} {s : State} {m : MethodId} {args : Array Value} {below : List Frame} {meth : Method} {c : Code} {H : Heap} {locs : List Loc} {cells slots : Nat} {Q : State → Prop}
variable {cc : ByteArray} {pc n nL : Nat} {ls : Array Slot} {rest : List Value} {D : va_G} {cy : Nat → ClassId} {Z : Nat → Prop} {ad : Nat → Nat} {tb : List (Nat × Instr × Nat)} {lv : List (Nat × Value)}
set_option maxHeartbeats 4000000 in
set_option maxRecDepth 100000 in
theorem m_Ne_markHeads {l : Launch} {D : va_G} {cy : Nat → ClassId} {ad : Nat → Nat} {I : Nat → Int32} {A : Nat → Nat → Int32} {T : Nat → Option Nat} {L : List Nat} {K : Nat → Nat} {F : Nat → Nat → Int32}  {P : ((Nat → Nat → Int32)) → Prop} (hw : g_Ne_markHeads A P) : ∀ sz, Met l y_Ne_markHeads (WL y_Ne_markHeads c_Ne_markHeads 1 none) { frames := 1, cells := 0, slots := 0, locals := 40 } (va_Pc [.ref (ad 1)] (PreW D cy (wC cy ad I A T L K F) sz)) (va_Qv P (fun u t => PostW D (va_A (wC cy ad I A T L K F) sz) ((fun (u : (Nat → Nat → Int32)) => wC cy ad I u T L K F) u) t) (va_A (wC cy ad I A T L K F) sz)) 0 0 (va_A (wC cy ad I A T L K F) sz) := by
  refine met_v (wf := fun (u : (Nat → Nat → Int32)) => wC cy ad I u T L K F) R_Ne db_Ne_markHeads (by decide) rfl (Nat.le_of_ble_eq_true rfl) ?_
  intro p e s m below meth c Z Q ls hin C h hl hret
  have hl : lv_has ls 1 [(0, .ref (ad 1))] := hl
  refine i_aload_n (n := 1) C 0 rfl rfl rfl hl 0 rfl ?_
  refine fgC_Ne_25 (n := 4) C 1 rfl rfl h ?_
  refine i_iconst (v := (0 : Int32)) (n := 5) C 2 rfl rfl rfl ?_
  refine i_aload_n (n := 6) C 3 rfl rfl rfl hl 0 rfl ?_
  refine fgC_Ne_41 (n := 9) C 4 rfl rfl h ?_
  refine i_iconst (v := (0 : Int32)) (n := 10) C 5 rfl rfl rfl ?_
  refine i_bipush (v := (12 : Int32)) (n := 12) C 6 rfl rfl rfl ?_
  refine i_acopy (n := 15) C 7 rfl rfl hl h w_3_198 (wC_arr 9 (by decide) rfl) (wC_arr 12 (by decide) rfl) (by decide) (by decide) (by decide) (by decide) (by decide) (by decide) (Nat.le_of_ble_eq_true rfl) (wC_setA 12 (by decide) rfl _) (fun H locs h => ?_)
  exact hret (va_up A 12 (va_cpy (A 9) (A 12) (0 : Int32).toNatClampNeg (0 : Int32).toNatClampNeg (12 : Int32).toNatClampNeg)) _ _ _ _ hw h (C.dg (k := 8) rfl)
end S86
section S87
variable {p : Program} {l : Launch} {e : Env} {R : Room} {s : State} {m : MethodId} {args : Array Value} {below : List Frame} {meth : Method} {c : Code} {H : Heap} {locs : List Loc} {cells slots : Nat} {Q : State → Prop}
variable {cc : ByteArray} {pc n nL : Nat} {ls : Array Slot} {rest : List Value} {D : va_G} {cy : Nat → ClassId} {Z : Nat → Prop} {ad : Nat → Nat} {tb : List (Nat × Instr × Nat)} {lv : List (Nat × Value)}
set_option maxHeartbeats 4000000 in
set_option maxRecDepth 100000 in
theorem e_Ne_nextHead_13 {I : Nat → Int32} {A : Nat → Nat → Int32} {T : Nat → Option Nat} {L : List Nat} {K : Nat → Nat} {F : Nat → Nat → Int32} {a1 : Int32} {a2 : Int32} {P : Int32 → Prop} {kx13 : Int32 → Int32 → Prop} (C : CX D cy R_Ne c_Ne_nextHead tb_Ne_nextHead 6 p s m args c Z) (h : HXw D Z s.heap H locs (wC cy ad I A T L K F)) (hret : RetP p l e { frames := 1, cells := 0, slots := 0, locals := 21 } s m args below meth c c_Ne_nextHead .int H locs Q P)
    (hx13 : ∀ (x3 : Int32) (x4 : Int32) (ls : Array Slot), lv_has ls 6 [(0, .ref (ad 1)), (1, .int a1), (2, .int a2), (3, .int x3), (4, .int x4)] → kx13 x3 x4 → W p l e { frames := 1, cells := 0, slots := 0, locals := 21 } s m args below meth c H locs 0 0 Q (F0 m 67 ls [])) :
    ∀ (n : Nat) (x3 : Int32) (x4 : Int32) (x5 : Int32) (ls : Array Slot), lv_has ls 6 [(0, .ref (ad 1)), (1, .int a1), (2, .int a2), (3, .int x3), (4, .int x4), (5, .int x5)] → g_Ne_nextHead_13 A a1 a2 P kx13 n x3 x4 x5 → W p l e { frames := 1, cells := 0, slots := 0, locals := 21 } s m args below meth c H locs 0 0 Q (F0 m 13 ls []) := by
  intro n
  induction n with
  | zero => intro x3 x4 x5 ls hl hw; exact hw.elim
  | succ n ih =>
    intro x3 x4 x5 ls hl hw
    refine i_iload (n := 15) C 9 rfl rfl hl 5 rfl ?_
    refine i_aload_n (n := 16) C 10 rfl rfl rfl hl 0 rfl ?_
    refine fgC_Ne_47 (n := 19) C 11 rfl rfl h ?_
    refine i_iload_n (n := 20) C 12 rfl rfl rfl hl 1 rfl ?_
    refine i_iconst (v := (1 : Int32)) (n := 21) C 13 rfl rfl rfl ?_
    refine i_iadd (n := 22) C 14 rfl rfl ?_
    obtain ⟨hb, hw⟩ := hw
    refine i_iald (n := 23) C 15 rfl rfl h (wC_arr 14 (by decide) rfl) hb ?_
    refine i_icmp_ge (tgt := 67) (n := 26) C 16 rfl rfl rfl (fun c2 => ?_) (fun c2 => ?_)
    · replace hw := hw.1 c2
      exact hx13 x3 x4 ls (lv_sub hl [0, 1, 2, 3, 4] rfl) hw
    · replace hw := hw.2 c2
      refine i_iload_n (n := 27) C 17 rfl rfl rfl hl 3 rfl ?_
      refine i_aload_n (n := 28) C 18 rfl rfl rfl hl 0 rfl ?_
      refine fgC_Ne_53 (n := 31) C 19 rfl rfl h ?_
      refine i_iload (n := 33) C 20 rfl rfl hl 5 rfl ?_
      obtain ⟨hb, hw⟩ := hw
      refine i_iald (n := 34) C 21 rfl rfl h (wC_arr 16 (by decide) rfl) hb ?_
      refine i_aload_n (n := 35) C 22 rfl rfl rfl hl 0 rfl ?_
      refine fgC_Ne_25 (n := 38) C 23 rfl rfl h ?_
      refine i_aload_n (n := 39) C 24 rfl rfl rfl hl 0 rfl ?_
      refine fgC_Ne_50 (n := 42) C 25 rfl rfl h ?_
      refine i_iload (n := 44) C 26 rfl rfl hl 5 rfl ?_
      obtain ⟨hb, hw⟩ := hw
      refine i_iald (n := 45) C 27 rfl rfl h (wC_arr 15 (by decide) rfl) hb ?_
      obtain ⟨hb, hw⟩ := hw
      refine i_iald (n := 46) C 28 rfl rfl h (wC_arr 9 (by decide) rfl) hb ?_
      refine i_imul (n := 47) C 29 rfl rfl ?_
      refine i_iadd (n := 48) C 30 rfl rfl ?_
      refine lv_topi (fun y3 ey3 => ?_)
      replace hw := hw y3 ey3
      refine i_istore_n (lv' := [(3, .int y3), (0, .ref (ad 1)), (1, .int a1), (2, .int a2), (4, .int x4), (5, .int x5)]) (n := 49) C 31 rfl rfl rfl hl (by decide) rfl (fun ls hl => ?_)
      refine i_iload (n := 51) C 32 rfl rfl hl 4 rfl ?_
      refine i_aload_n (n := 52) C 33 rfl rfl rfl hl 1 rfl ?_
      refine fgC_Ne_53 (n := 55) C 34 rfl rfl h ?_
      refine i_iload (n := 57) C 35 rfl rfl hl 5 rfl ?_
      obtain ⟨hb, hw⟩ := hw
      refine i_iald (n := 58) C 36 rfl rfl h (wC_arr 16 (by decide) rfl) hb ?_
      refine i_iadd (n := 59) C 37 rfl rfl ?_
      refine lv_topi (fun y4 ey4 => ?_)
      replace hw := hw y4 ey4
      refine i_istore (lv' := [(4, .int y4), (3, .int y3), (0, .ref (ad 1)), (1, .int a1), (2, .int a2), (5, .int x5)]) (n := 61) C 38 rfl rfl hl (by decide) rfl (fun ls hl => ?_)
      refine i_iinc (v := x5 + (1 : Int32)) (lv' := [(5, .int (x5 + (1 : Int32))), (4, .int y4), (3, .int y3), (0, .ref (ad 1)), (1, .int a1), (2, .int a2)]) (n := 64) C 39 rfl rfl hl 5 rfl rfl (by decide) rfl (fun ls hl => ?_)
      refine i_goto (tgt := 13) C 40 rfl rfl ?_
      exact ih y3 y4 (x5 + (1 : Int32)) ls (lv_sub hl [3, 4, 5, 2, 1, 0] rfl) hw
set_option maxHeartbeats 4000000 in
set_option maxRecDepth 100000 in
theorem m_Ne_nextHead {l : Launch} {D : va_G} {cy : Nat → ClassId} {ad : Nat → Nat} {I : Nat → Int32} {A : Nat → Nat → Int32} {T : Nat → Option Nat} {L : List Nat} {K : Nat → Nat} {F : Nat → Nat → Int32} {a1 : Int32} {a2 : Int32} {P : Int32 → Prop} (hw : g_Ne_nextHead A a1 a2 P) : ∀ sz, Met l y_Ne_nextHead (WL y_Ne_nextHead c_Ne_nextHead 6 (some .int)) { frames := 1, cells := 0, slots := 0, locals := 21 } (va_Pc [.ref (ad 1), .int a1, .int a2] (PreW D cy (wC cy ad I A T L K F) sz)) (vp_Si P) 0 0 (fun _ => False) := by
  refine met_p R_Ne .int db_Ne_nextHead (by decide) rfl rfl (Nat.le_of_ble_eq_true rfl) ?_
  intro p e s m below meth c Z Q ls C h hl hret
  have hl : lv_has ls 6 [(0, .ref (ad 1)), (1, .int a1), (2, .int a2)] := hl
  refine i_iconst (v := (0 : Int32)) (n := 1) C 0 rfl rfl rfl ?_
  refine i_istore_n (lv' := [(3, .int (0 : Int32)), (0, .ref (ad 1)), (1, .int a1), (2, .int a2)]) (n := 2) C 1 rfl rfl rfl hl (by decide) rfl (fun ls hl => ?_)
  refine i_iconst (v := (0 : Int32)) (n := 3) C 2 rfl rfl rfl ?_
  refine i_istore (lv' := [(4, .int (0 : Int32)), (3, .int (0 : Int32)), (0, .ref (ad 1)), (1, .int a1), (2, .int a2)]) (n := 5) C 3 rfl rfl hl (by decide) rfl (fun ls hl => ?_)
  refine i_aload_n (n := 6) C 4 rfl rfl rfl hl 2 rfl ?_
  refine fgC_Ne_47 (n := 9) C 5 rfl rfl h ?_
  refine i_iload_n (n := 10) C 6 rfl rfl rfl hl 3 rfl ?_
  obtain ⟨hb, hw⟩ := hw
  refine i_iald (n := 11) C 7 rfl rfl h (wC_arr 14 (by decide) rfl) hb ?_
  refine lv_topi (fun y1 ey1 => ?_)
  replace hw := hw y1 ey1
  refine i_istore (lv' := [(5, .int y1), (4, .int (0 : Int32)), (3, .int (0 : Int32)), (0, .ref (ad 1)), (1, .int a1), (2, .int a2)]) (n := 13) C 8 rfl rfl hl (by decide) rfl (fun ls hl => ?_)
  obtain ⟨n5, hw⟩ := hw
  refine e_Ne_nextHead_13 C h hret (fun x3_5 x4_5 ls hl hw => ?_) n5 (0 : Int32) (0 : Int32) y1 ls (lv_sub hl [3, 4, 5, 2, 1, 0] rfl) hw
  have hl : lv_has ls 6 [(0, .ref (ad 1)), (1, .int a1), (2, .int a2), (3, .int x3_5), (4, .int x4_5)] := hl
  refine i_bipush (v := (10 : Int32)) (n := 69) C 41 rfl rfl rfl ?_
  refine i_aload_n (n := 70) C 42 rfl rfl rfl hl 0 rfl ?_
  refine fgC_Ne_18 (n := 73) C 43 rfl rfl h ?_
  refine i_iload_n (n := 74) C 44 rfl rfl rfl hl 1 rfl ?_
  obtain ⟨hb, hw⟩ := hw
  refine i_iald (n := 75) C 45 rfl rfl h (wC_arr 7 (by decide) rfl) hb ?_
  refine i_imul (n := 76) C 46 rfl rfl ?_
  refine lv_topi (fun y6 ey6 => ?_)
  replace hw := hw y6 ey6
  refine i_istore (lv' := [(5, .int y6), (0, .ref (ad 1)), (1, .int a1), (2, .int a2), (3, .int x3_5), (4, .int x4_5)]) (n := 78) C 47 rfl rfl hl (by decide) rfl (fun ls hl => ?_)
  refine i_iload (n := 80) C 48 rfl rfl hl 5 rfl ?_
  refine i_if_gt (tgt := 86) (n := 83) C 49 rfl rfl rfl (fun c7 => ?_) (fun c7 => ?_)
  · replace hw := hw.1 c7
    refine i_iload (n := 88) C 52 rfl rfl hl 0 rfl ?_
    refine i_iload_n (n := 89) C 53 rfl rfl rfl hl 4 rfl ?_
    refine i_sipush (v := (1000 : Int32)) (n := 92) C 54 rfl rfl rfl ?_
    refine i_iload_n (n := 93) C 55 rfl rfl rfl hl 3 rfl ?_
    refine i_imul (n := 94) C 56 rfl rfl ?_
    refine i_isub (n := 95) C 57 rfl rfl ?_
    refine i_iload (n := 97) C 58 rfl rfl hl 5 rfl ?_
    obtain ⟨hd, hw⟩ := hw
    refine i_idiv (n := 98) C 59 rfl rfl hd ?_
    refine i_mmax (n := 101) C 60 rfl rfl hl w_3_210 (by decide) (Nat.le_of_ble_eq_true rfl) (Nat.le_of_ble_eq_true rfl) (Nat.le_of_ble_eq_true rfl) ?_
    exact hret _ _ _ rfl hw (C.dg (k := 61) rfl)
  · replace hw := hw.2 c7
    refine i_iload (n := 85) C 50 rfl rfl hl 0 rfl ?_
    exact hret _ _ _ rfl hw (C.dg (k := 51) rfl)
end S87
theorem kV_Ne_151 {R : Room} {s : State} {args : Array Value} (hR : 2 + 1 ≤ R.frames ∧ 8 + (4 + 11) + 45 ≤ R.locals) (ht : ∀ w ∈ GW, w.before args s = true) : CallW R s args R_Ne R_Ne 151 y_Ne_taken c_Ne_taken 4 (some .int) (WL y_Ne_taken c_Ne_taken 4 (some .int)) { frames := 2, cells := 0, slots := 0, locals := 45 } 0 0 2 := cwV 2 ht (GW_v w_3_205 w_3_52 w_3_53 w_1_2 (GW_wl w_3_54)) rfl rfl rfl (by decide +kernel) hR
theorem kV_Ne_154 {R : Room} {s : State} {args : Array Value} (hR : 1 + 1 ≤ R.frames ∧ 8 + (6 + 11) + 21 ≤ R.locals) (ht : ∀ w ∈ GW, w.before args s = true) : CallW R s args R_Ne R_Ne 154 y_Ne_nextHead c_Ne_nextHead 6 (some .int) (WL y_Ne_nextHead c_Ne_nextHead 6 (some .int)) { frames := 1, cells := 0, slots := 0, locals := 21 } 0 0 2 := cwV 2 ht (GW_v w_3_206 w_3_208 w_0_9 w_1_2 (GW_wl w_3_209)) rfl rfl rfl (by decide +kernel) hR
section S88
variable {p : Program} {l : Launch} {e : Env} {R : Room} {s : State} {m : MethodId} {args : Array Value} {below : List Frame} {meth : Method} {c : Code} {H : Heap} {locs : List Loc} {cells slots : Nat} {Q : State → Prop}
variable {cc : ByteArray} {pc n nL : Nat} {ls : Array Slot} {rest : List Value} {D : va_G} {cy : Nat → ClassId} {Z : Nat → Prop} {ad : Nat → Nat} {tb : List (Nat × Instr × Nat)} {lv : List (Nat × Value)}
set_option maxHeartbeats 4000000 in
set_option maxRecDepth 100000 in
theorem e_Ne_sweep_59 {I : Nat → Int32} {T : Nat → Option Nat} {L : List Nat} {K : Nat → Nat} {F : Nat → Nat → Int32} {a1 : Int32} {P : Int32 → ((Nat → Nat → Int32)) → Prop} {kb4 : (Nat → Nat → Int32) → Int32 → Int32 → Prop} (C : CX D cy R_Ne c_Ne_sweep tb_Ne_sweep 5 p s m args c Z) (hret : RetI p l e { frames := 3, cells := 0, slots := 0, locals := 68 } s m args below meth c c_Ne_sweep .int D Z Q (fun (u : (Nat → Nat → Int32)) => wC cy ad I u T L K F) P 0 0)
    (hb4 : ∀ (A : Nat → Nat → Int32) (x2 : Int32) (x3 : Int32) (ls : Array Slot) (H : Heap) (locs : List Loc), lv_has ls 5 [(0, .ref (ad 1)), (1, .int a1), (2, .int x2), (3, .int x3)] → HXw D Z s.heap H locs (wC cy ad I A T L K F) → kb4 A x2 x3 → W p l e { frames := 3, cells := 0, slots := 0, locals := 68 } s m args below meth c H locs 0 0 Q (F0 m 4 ls [])) :
    ∀ (A : Nat → Nat → Int32) (x2 : Int32) (x3 : Int32) (ls : Array Slot) (H : Heap) (locs : List Loc), lv_has ls 5 [(0, .ref (ad 1)), (1, .int a1), (2, .int x2), (3, .int x3)] → HXw D Z s.heap H locs (wC cy ad I A T L K F) → g_Ne_sweep_59 I T L K F a1 P kb4 A x2 x3 → W p l e { frames := 3, cells := 0, slots := 0, locals := 68 } s m args below meth c H locs 0 0 Q (F0 m 59 ls []) := by
  intro A x2 x3 ls H locs hl h hw
  refine i_iinc (v := x3 + (1 : Int32)) (lv' := [(3, .int (x3 + (1 : Int32))), (0, .ref (ad 1)), (1, .int a1), (2, .int x2)]) (n := 62) C 36 rfl rfl hl 3 rfl rfl (by decide) rfl (fun ls hl => ?_)
  refine i_goto (tgt := 4) C 37 rfl rfl ?_
  exact hb4 A x2 (x3 + (1 : Int32)) ls _ _ (lv_sub hl [1, 2, 3, 0] rfl) h hw
set_option maxHeartbeats 4000000 in
set_option maxRecDepth 100000 in
theorem e_Ne_sweep_4 {I : Nat → Int32} {T : Nat → Option Nat} {L : List Nat} {K : Nat → Nat} {F : Nat → Nat → Int32} {a1 : Int32} {P : Int32 → ((Nat → Nat → Int32)) → Prop} {kx4 : (Nat → Nat → Int32) → Int32 → Prop} (C : CX D cy R_Ne c_Ne_sweep tb_Ne_sweep 5 p s m args c Z) (hret : RetI p l e { frames := 3, cells := 0, slots := 0, locals := 68 } s m args below meth c c_Ne_sweep .int D Z Q (fun (u : (Nat → Nat → Int32)) => wC cy ad I u T L K F) P 0 0)
    (hx4 : ∀ (A : Nat → Nat → Int32) (x2 : Int32) (ls : Array Slot) (H : Heap) (locs : List Loc), lv_has ls 5 [(2, .int x2)] → HXw D Z s.heap H locs (wC cy ad I A T L K F) → kx4 A x2 → W p l e { frames := 3, cells := 0, slots := 0, locals := 68 } s m args below meth c H locs 0 0 Q (F0 m 65 ls [])) :
    ∀ (n : Nat) (A : Nat → Nat → Int32) (x2 : Int32) (x3 : Int32) (ls : Array Slot) (H : Heap) (locs : List Loc), lv_has ls 5 [(0, .ref (ad 1)), (1, .int a1), (2, .int x2), (3, .int x3)] → HXw D Z s.heap H locs (wC cy ad I A T L K F) → g_Ne_sweep_4 I T L K F a1 P kx4 n A x2 x3 → W p l e { frames := 3, cells := 0, slots := 0, locals := 68 } s m args below meth c H locs 0 0 Q (F0 m 4 ls []) := by
  intro n
  induction n with
  | zero => intro A x2 x3 ls H locs hl h hw; exact hw.elim
  | succ n ih =>
    intro A x2 x3 ls H locs hl h hw
    refine i_iload_n (n := 5) C 4 rfl rfl rfl hl 3 rfl ?_
    refine i_aload_n (n := 6) C 5 rfl rfl rfl hl 0 rfl ?_
    refine fgC_Ne_56 (n := 9) C 6 rfl rfl h ?_
    refine i_icmp_ge (tgt := 65) (n := 12) C 7 rfl rfl rfl (fun c1 => ?_) (fun c1 => ?_)
    · replace hw := hw.1 c1
      exact hx4 A x2 ls _ _ (lv_sub hl [2] rfl) h hw
    · replace hw := hw.2 c1
      refine i_aload_n (n := 13) C 8 rfl rfl rfl hl 0 rfl ?_
      refine fgC_Ne_34 (n := 16) C 9 rfl rfl h ?_
      refine i_iload_n (n := 17) C 10 rfl rfl rfl hl 3 rfl ?_
      obtain ⟨hb, hw⟩ := hw
      refine i_zald (n := 18) C 11 rfl rfl h (wC_arr 10 (by decide) rfl) hb ?_
      refine i_if_ne (tgt := 59) (n := 21) C 12 rfl rfl rfl (fun c2 => ?_) (fun c2 => ?_)
      · replace hw := hw.1 c2
        exact e_Ne_sweep_59 C hret ih A x2 x3 ls _ _ hl h hw
      · replace hw := hw.2 c2
        refine i_aload_n (n := 22) C 13 rfl rfl rfl hl 0 rfl ?_
        refine i_iload_n (n := 23) C 14 rfl rfl rfl hl 3 rfl ?_
        refine i_aload_n (n := 24) C 15 rfl rfl rfl hl 0 rfl ?_
        refine i_iload_n (n := 25) C 16 rfl rfl rfl hl 3 rfl ?_
        refine i_iload_n (n := 26) C 17 rfl rfl rfl hl 1 rfl ?_
        refine i_callVp (rest := [.int x3, .ref (ad 1)]) (ci := 5) (qc := (R_Ne, T_Ne, 17)) (n := 29) C 18 rfl rfl hl h rfl (wC_get (h := 1) (by decide)) (kV_Ne_151 ⟨by decide, by decide⟩) (m_Ne_taken hw) rfl rfl (Nat.le_of_ble_eq_true rfl) ⟨by decide, by decide⟩ (fun r3 hw => ?_)
        refine i_callVp (rest := []) (ci := 5) (qc := (R_Ne, T_Ne, 17)) (n := 32) C 19 rfl rfl hl h rfl (wC_get (h := 1) (by decide)) (kV_Ne_154 ⟨by decide, by decide⟩) (m_Ne_nextHead hw) rfl rfl (Nat.le_of_ble_eq_true rfl) ⟨by decide, by decide⟩ (fun r4 hw => ?_)
        refine i_istore (lv' := [(4, .int r4), (0, .ref (ad 1)), (1, .int a1), (2, .int x2), (3, .int x3)]) (n := 34) C 20 rfl rfl hl (by decide) rfl (fun ls hl => ?_)
        refine i_iload_n (n := 35) C 21 rfl rfl rfl hl 3 rfl ?_
        refine i_iload (n := 37) C 22 rfl rfl hl 0 rfl ?_
        refine i_aload_n (n := 38) C 23 rfl rfl rfl hl 1 rfl ?_
        refine fgC_Ne_25 (n := 41) C 24 rfl rfl h ?_
        refine i_iload_n (n := 42) C 25 rfl rfl rfl hl 4 rfl ?_
        obtain ⟨hb, hw⟩ := hw
        refine i_iald (n := 43) C 26 rfl rfl h (wC_arr 9 (by decide) rfl) hb ?_
        refine i_isub (n := 44) C 27 rfl rfl ?_
        refine i_mabs (n := 47) C 28 rfl rfl hl w_3_213 (by decide) (Nat.le_of_ble_eq_true rfl) (Nat.le_of_ble_eq_true rfl) (Nat.le_of_ble_eq_true rfl) ?_
        refine i_mmax (n := 50) C 29 rfl rfl hl w_3_210 (by decide) (Nat.le_of_ble_eq_true rfl) (Nat.le_of_ble_eq_true rfl) (Nat.le_of_ble_eq_true rfl) ?_
        refine lv_topi (fun y5 ey5 => ?_)
        replace hw := hw y5 ey5
        refine i_istore_n (lv' := [(2, .int y5), (4, .int r4), (0, .ref (ad 1)), (1, .int a1), (3, .int x3)]) (n := 51) C 30 rfl rfl rfl hl (by decide) rfl (fun ls hl => ?_)
        refine i_aload_n (n := 52) C 31 rfl rfl rfl hl 2 rfl ?_
        refine fgC_Ne_25 (n := 55) C 32 rfl rfl h ?_
        refine i_iload_n (n := 56) C 33 rfl rfl rfl hl 4 rfl ?_
        refine i_iload (n := 58) C 34 rfl rfl hl 1 rfl ?_
        obtain ⟨hb, hw⟩ := hw
        refine i_iast (n := 59) C 35 rfl rfl h (wC_arr 9 (by decide) rfl) hb (wC_sA 9 (by decide) rfl _ _) (fun H locs h => ?_)
        exact e_Ne_sweep_59 C hret ih (sA A 9 x3 r4) y5 x3 ls _ _ (lv_sub hl [2, 3, 0, 4] rfl) h hw
set_option maxHeartbeats 4000000 in
set_option maxRecDepth 100000 in
theorem m_Ne_sweep {l : Launch} {D : va_G} {cy : Nat → ClassId} {ad : Nat → Nat} {I : Nat → Int32} {A : Nat → Nat → Int32} {T : Nat → Option Nat} {L : List Nat} {K : Nat → Nat} {F : Nat → Nat → Int32} {a1 : Int32} {P : Int32 → ((Nat → Nat → Int32)) → Prop} (hw : g_Ne_sweep I A T L K F a1 P) : ∀ sz, Met l y_Ne_sweep (WL y_Ne_sweep c_Ne_sweep 5 (some .int)) { frames := 3, cells := 0, slots := 0, locals := 68 } (va_Pc [.ref (ad 1), .int a1] (PreW D cy (wC cy ad I A T L K F) sz)) (va_Qi P (fun u t => PostW D (va_A (wC cy ad I A T L K F) sz) ((fun (u : (Nat → Nat → Int32)) => wC cy ad I u T L K F) u) t) (va_A (wC cy ad I A T L K F) sz)) 0 0 (va_A (wC cy ad I A T L K F) sz) := by
  refine met_i (wf := fun (u : (Nat → Nat → Int32)) => wC cy ad I u T L K F) R_Ne .int db_Ne_sweep (by decide) rfl rfl (Nat.le_of_ble_eq_true rfl) ?_
  intro p e s m below meth c Z Q ls C h hl hret
  have hl : lv_has ls 5 [(0, .ref (ad 1)), (1, .int a1)] := hl
  refine i_iconst (v := (0 : Int32)) (n := 1) C 0 rfl rfl rfl ?_
  refine i_istore_n (lv' := [(2, .int (0 : Int32)), (0, .ref (ad 1)), (1, .int a1)]) (n := 2) C 1 rfl rfl rfl hl (by decide) rfl (fun ls hl => ?_)
  refine i_iconst (v := (0 : Int32)) (n := 3) C 2 rfl rfl rfl ?_
  refine i_istore_n (lv' := [(3, .int (0 : Int32)), (2, .int (0 : Int32)), (0, .ref (ad 1)), (1, .int a1)]) (n := 4) C 3 rfl rfl rfl hl (by decide) rfl (fun ls hl => ?_)
  obtain ⟨n6, hw⟩ := hw
  refine e_Ne_sweep_4 C hret (fun A_6 x2_6 ls H locs hl h hw => ?_) n6 A (0 : Int32) (0 : Int32) ls _ _ (lv_sub hl [2, 3, 1, 0] rfl) h hw
  have hl : lv_has ls 5 [(2, .int x2_6)] := hl
  refine i_iload_n (n := 66) C 38 rfl rfl rfl hl 0 rfl ?_
  exact hret _ A_6 _ _ _ _ rfl hw h (C.dg (k := 39) rfl)
end S88
section S89
variable {p : Program} {l : Launch} {e : Env} {R : Room} {s : State} {m : MethodId} {args : Array Value} {below : List Frame} {meth : Method} {c : Code} {H : Heap} {locs : List Loc} {cells slots : Nat} {Q : State → Prop}
variable {cc : ByteArray} {pc n nL : Nat} {ls : Array Slot} {rest : List Value} {D : va_G} {cy : Nat → ClassId} {Z : Nat → Prop} {ad : Nat → Nat} {tb : List (Nat × Instr × Nat)} {lv : List (Nat × Value)}
set_option maxHeartbeats 4000000 in
set_option maxRecDepth 100000 in
theorem e_Ne_isAsMarked_2 {I : Nat → Int32} {A : Nat → Nat → Int32} {T : Nat → Option Nat} {L : List Nat} {K : Nat → Nat} {F : Nat → Nat → Int32}  {P : Int32 → Prop} {kx2 : Prop} (C : CX D cy R_Ne c_Ne_isAsMarked tb_Ne_isAsMarked 2 p s m args c Z) (h : HXw D Z s.heap H locs (wC cy ad I A T L K F)) (hret : RetP p l e { frames := 0, cells := 0, slots := 0, locals := 0 } s m args below meth c c_Ne_isAsMarked .boolean H locs Q P)
    (hx2 : ∀ (ls : Array Slot), lv_has ls 2 [] → kx2  → W p l e { frames := 0, cells := 0, slots := 0, locals := 0 } s m args below meth c H locs 0 0 Q (F0 m 33 ls [])) :
    ∀ (n : Nat) (x1 : Int32) (ls : Array Slot), lv_has ls 2 [(0, .ref (ad 1)), (1, .int x1)] → g_Ne_isAsMarked_2 I A P kx2 n x1 → W p l e { frames := 0, cells := 0, slots := 0, locals := 0 } s m args below meth c H locs 0 0 Q (F0 m 2 ls []) := by
  intro n
  induction n with
  | zero => intro x1 ls hl hw; exact hw.elim
  | succ n ih =>
    intro x1 ls hl hw
    refine i_iload_n (n := 3) C 2 rfl rfl rfl hl 1 rfl ?_
    refine i_aload_n (n := 4) C 3 rfl rfl rfl hl 0 rfl ?_
    refine fgC_Ne_56 (n := 7) C 4 rfl rfl h ?_
    refine i_icmp_ge (tgt := 33) (n := 10) C 5 rfl rfl rfl (fun c1 => ?_) (fun c1 => ?_)
    · replace hw := hw.1 c1
      exact hx2  ls (lv_sub hl [] rfl) hw
    · replace hw := hw.2 c1
      refine i_aload_n (n := 11) C 6 rfl rfl rfl hl 0 rfl ?_
      refine fgC_Ne_25 (n := 14) C 7 rfl rfl h ?_
      refine i_iload_n (n := 15) C 8 rfl rfl rfl hl 1 rfl ?_
      obtain ⟨hb, hw⟩ := hw
      refine i_iald (n := 16) C 9 rfl rfl h (wC_arr 9 (by decide) rfl) hb ?_
      refine i_aload_n (n := 17) C 10 rfl rfl rfl hl 0 rfl ?_
      refine fgC_Ne_41 (n := 20) C 11 rfl rfl h ?_
      refine i_iload_n (n := 21) C 12 rfl rfl rfl hl 1 rfl ?_
      obtain ⟨hb, hw⟩ := hw
      refine i_iald (n := 22) C 13 rfl rfl h (wC_arr 12 (by decide) rfl) hb ?_
      refine i_icmp_eq (tgt := 27) (n := 25) C 14 rfl rfl rfl (fun c2 => ?_) (fun c2 => ?_)
      · replace hw := hw.1 c2
        refine i_iinc (v := x1 + (1 : Int32)) (lv' := [(1, .int (x1 + (1 : Int32))), (0, .ref (ad 1))]) (n := 30) C 17 rfl rfl hl 1 rfl rfl (by decide) rfl (fun ls hl => ?_)
        refine i_goto (tgt := 2) C 18 rfl rfl ?_
        exact ih (x1 + (1 : Int32)) ls (lv_sub hl [1, 0] rfl) hw
      · replace hw := hw.2 c2
        refine i_iconst (v := (0 : Int32)) (n := 26) C 15 rfl rfl rfl ?_
        exact hret _ _ _ rfl hw (C.dg (k := 16) rfl)
set_option maxHeartbeats 4000000 in
set_option maxRecDepth 100000 in
theorem m_Ne_isAsMarked {l : Launch} {D : va_G} {cy : Nat → ClassId} {ad : Nat → Nat} {I : Nat → Int32} {A : Nat → Nat → Int32} {T : Nat → Option Nat} {L : List Nat} {K : Nat → Nat} {F : Nat → Nat → Int32}  {P : Int32 → Prop} (hw : g_Ne_isAsMarked I A P) : ∀ sz, Met l y_Ne_isAsMarked (WL y_Ne_isAsMarked c_Ne_isAsMarked 2 (some .boolean)) { frames := 0, cells := 0, slots := 0, locals := 0 } (va_Pc [.ref (ad 1)] (PreW D cy (wC cy ad I A T L K F) sz)) (vp_Si P) 0 0 (fun _ => False) := by
  refine met_p R_Ne .boolean db_Ne_isAsMarked (by decide) rfl rfl (Nat.le_of_ble_eq_true rfl) ?_
  intro p e s m below meth c Z Q ls C h hl hret
  have hl : lv_has ls 2 [(0, .ref (ad 1))] := hl
  refine i_iconst (v := (0 : Int32)) (n := 1) C 0 rfl rfl rfl ?_
  refine i_istore_n (lv' := [(1, .int (0 : Int32)), (0, .ref (ad 1))]) (n := 2) C 1 rfl rfl rfl hl (by decide) rfl (fun ls hl => ?_)
  obtain ⟨n3, hw⟩ := hw
  refine e_Ne_isAsMarked_2 C h hret (fun  ls hl hw => ?_) n3 (0 : Int32) ls (lv_sub hl [1, 0] rfl) hw
  have hl : lv_has ls 2 [] := hl
  refine i_iconst (v := (1 : Int32)) (n := 34) C 19 rfl rfl rfl ?_
  exact hret _ _ _ rfl hw (C.dg (k := 20) rfl)
end S89
theorem kV_Ne_134 {R : Room} {s : State} {args : Array Value} (hR : 2 + 1 ≤ R.frames ∧ 8 + (4 + 11) + 44 ≤ R.locals) (ht : ∀ w ∈ GW, w.before args s = true) : CallW R s args R_Ne R_Ne 134 y_Ne_beginHeads c_Ne_beginHeads 4 none (WL y_Ne_beginHeads c_Ne_beginHeads 4 none) { frames := 2, cells := 0, slots := 0, locals := 44 } 0 0 1 := cwV 1 ht (GW_v w_3_184 w_3_186 w_0_5 w_1_2 (GW_wl w_3_187)) rfl rfl rfl (by decide +kernel) hR
theorem kV_Ne_138 {R : Room} {s : State} {args : Array Value} (hR : 2 + 1 ≤ R.frames ∧ 8 + (6 + 11) + 44 ≤ R.locals) (ht : ∀ w ∈ GW, w.before args s = true) : CallW R s args R_Ne R_Ne 138 y_Ne_listMains c_Ne_listMains 6 none (WL y_Ne_listMains c_Ne_listMains 6 none) { frames := 2, cells := 0, slots := 0, locals := 44 } 0 0 0 := cwV 0 ht (GW_v w_3_189 w_3_191 w_0_6 w_1_2 (GW_wl w_3_192)) rfl rfl rfl (by decide +kernel) hR
theorem kV_Ne_141 {R : Room} {s : State} {args : Array Value} (hR : 1 + 1 ≤ R.frames ∧ 8 + (1 + 11) + 40 ≤ R.locals) (ht : ∀ w ∈ GW, w.before args s = true) : CallW R s args R_Ne R_Ne 141 y_Ne_markHeads c_Ne_markHeads 1 none (WL y_Ne_markHeads c_Ne_markHeads 1 none) { frames := 1, cells := 0, slots := 0, locals := 40 } 0 0 0 := cwV 0 ht (GW_v w_3_194 w_3_196 w_0_7 w_1_2 (GW_wl w_3_197)) rfl rfl rfl (by decide +kernel) hR
theorem kV_Ne_144 {R : Room} {s : State} {args : Array Value} (hR : 3 + 1 ≤ R.frames ∧ 8 + (5 + 11) + 68 ≤ R.locals) (ht : ∀ w ∈ GW, w.before args s = true) : CallW R s args R_Ne R_Ne 144 y_Ne_sweep c_Ne_sweep 5 (some .int) (WL y_Ne_sweep c_Ne_sweep 5 (some .int)) { frames := 3, cells := 0, slots := 0, locals := 68 } 0 0 1 := cwV 1 ht (GW_v w_3_201 w_3_203 w_0_8 w_1_2 (GW_wl w_3_204)) rfl rfl rfl (by decide +kernel) hR
theorem kV_Ne_147 {R : Room} {s : State} {args : Array Value} (hR : 0 + 1 ≤ R.frames ∧ 8 + (2 + 11) + 0 ≤ R.locals) (ht : ∀ w ∈ GW, w.before args s = true) : CallW R s args R_Ne R_Ne 147 y_Ne_isAsMarked c_Ne_isAsMarked 2 (some .boolean) (WL y_Ne_isAsMarked c_Ne_isAsMarked 2 (some .boolean)) { frames := 0, cells := 0, slots := 0, locals := 0 } 0 0 0 := cwV 0 ht (GW_v w_3_216 w_3_218 w_0_10 w_1_2 (GW_wl w_3_219)) rfl rfl rfl (by decide +kernel) hR
section S90
variable {p : Program} {l : Launch} {e : Env} {R : Room} {s : State} {m : MethodId} {args : Array Value} {below : List Frame} {meth : Method} {c : Code} {H : Heap} {locs : List Loc} {cells slots : Nat} {Q : State → Prop}
variable {cc : ByteArray} {pc n nL : Nat} {ls : Array Slot} {rest : List Value} {D : va_G} {cy : Nat → ClassId} {Z : Nat → Prop} {ad : Nat → Nat} {tb : List (Nat × Instr × Nat)} {lv : List (Nat × Value)}
set_option maxHeartbeats 4000000 in
set_option maxRecDepth 100000 in
theorem e_Ne_runSweeps_68 {I : Nat → Int32} {T : Nat → Option Nat} {L : List Nat} {K : Nat → Nat} {F : Nat → Nat → Int32} {a1 : Int32} {P : Int32 → ((Nat → Nat → Int32)) → Prop} {kb22 : (Nat → Nat → Int32) → Int32 → Int32 → Int32 → Prop} (C : CX D cy R_Ne c_Ne_runSweeps tb_Ne_runSweeps 5 p s m args c Z) (hret : RetI p l e { frames := 4, cells := 0, slots := 0, locals := 92 } s m args below meth c c_Ne_runSweeps .int D Z Q (fun (u : (Nat → Nat → Int32)) => wC cy ad I u T L K F) P 0 0)
    (hb22 : ∀ (A : Nat → Nat → Int32) (x2 : Int32) (x3 : Int32) (x4 : Int32) (ls : Array Slot) (H : Heap) (locs : List Loc), lv_has ls 5 [(0, .ref (ad 1)), (1, .int a1), (2, .int x2), (3, .int x3), (4, .int x4)] → HXw D Z s.heap H locs (wC cy ad I A T L K F) → kb22 A x2 x3 x4 → W p l e { frames := 4, cells := 0, slots := 0, locals := 92 } s m args below meth c H locs 0 0 Q (F0 m 22 ls [])) :
    ∀ (A : Nat → Nat → Int32) (x2 : Int32) (x3 : Int32) (x4 : Int32) (ls : Array Slot) (H : Heap) (locs : List Loc), lv_has ls 5 [(0, .ref (ad 1)), (1, .int a1), (2, .int x2), (3, .int x3), (4, .int x4)] → HXw D Z s.heap H locs (wC cy ad I A T L K F) → g_Ne_runSweeps_68 I T L K F a1 P kb22 A x2 x3 x4 → W p l e { frames := 4, cells := 0, slots := 0, locals := 92 } s m args below meth c H locs 0 0 Q (F0 m 68 ls []) := by
  intro A x2 x3 x4 ls H locs hl h hw
  refine i_iload_n (n := 69) C 37 rfl rfl rfl hl 3 rfl ?_
  refine i_iload (n := 71) C 38 rfl rfl hl 4 rfl ?_
  refine i_icmp_lt (tgt := 22) (n := 74) C 39 rfl rfl rfl (fun c9 => ?_) (fun c9 => ?_)
  · replace hw := hw.1 c9
    exact hb22 A x2 x3 x4 ls _ _ hl h hw
  · replace hw := hw.2 c9
    refine i_aload_n (n := 75) C 40 rfl rfl rfl hl 0 rfl ?_
    refine i_callVv (rest := []) (ci := 5) (qc := (R_Ne, T_Ne, 17)) (n := 78) C 41 rfl rfl hl h rfl (wC_get (h := 1) (by decide)) (kV_Ne_141 ⟨by decide, by decide⟩) (m_Ne_markHeads hw) rfl rfl (Nat.le_of_ble_eq_true rfl) ⟨by decide, by decide⟩ (fun u10 H locs hw h => ?_)
    refine i_iload (n := 80) C 42 rfl rfl hl 4 rfl ?_
    refine i_iconst (v := (2 : Int32)) (n := 81) C 43 rfl rfl rfl ?_
    refine i_imul (n := 82) C 44 rfl rfl ?_
    refine lv_topi (fun y11 ey11 => ?_)
    replace hw := hw y11 ey11
    refine i_istore (lv' := [(4, .int y11), (0, .ref (ad 1)), (1, .int a1), (2, .int x2), (3, .int x3)]) (n := 84) C 45 rfl rfl hl (by decide) rfl (fun ls hl => ?_)
    refine i_iconst (v := (0 : Int32)) (n := 85) C 46 rfl rfl rfl ?_
    refine i_istore_n (lv' := [(3, .int (0 : Int32)), (4, .int y11), (0, .ref (ad 1)), (1, .int a1), (2, .int x2)]) (n := 86) C 47 rfl rfl rfl hl (by decide) rfl (fun ls hl => ?_)
    refine i_goto (tgt := 22) C 48 rfl rfl ?_
    exact hb22 u10 x2 (0 : Int32) y11 ls _ _ (lv_sub hl [2, 3, 4, 0, 1] rfl) h hw
set_option maxHeartbeats 4000000 in
set_option maxRecDepth 100000 in
theorem e_Ne_runSweeps_22 {I : Nat → Int32} {T : Nat → Option Nat} {L : List Nat} {K : Nat → Nat} {F : Nat → Nat → Int32} {a1 : Int32} {P : Int32 → ((Nat → Nat → Int32)) → Prop} {kx22 : (Nat → Nat → Int32) → Prop} (C : CX D cy R_Ne c_Ne_runSweeps tb_Ne_runSweeps 5 p s m args c Z) (hret : RetI p l e { frames := 4, cells := 0, slots := 0, locals := 92 } s m args below meth c c_Ne_runSweeps .int D Z Q (fun (u : (Nat → Nat → Int32)) => wC cy ad I u T L K F) P 0 0)
    (hx22 : ∀ (A : Nat → Nat → Int32) (ls : Array Slot) (H : Heap) (locs : List Loc), lv_has ls 5 [] → HXw D Z s.heap H locs (wC cy ad I A T L K F) → kx22 A → W p l e { frames := 4, cells := 0, slots := 0, locals := 92 } s m args below meth c H locs 0 0 Q (F0 m 89 ls [])) :
    ∀ (n : Nat) (A : Nat → Nat → Int32) (x2 : Int32) (x3 : Int32) (x4 : Int32) (ls : Array Slot) (H : Heap) (locs : List Loc), lv_has ls 5 [(0, .ref (ad 1)), (1, .int a1), (2, .int x2), (3, .int x3), (4, .int x4)] → HXw D Z s.heap H locs (wC cy ad I A T L K F) → g_Ne_runSweeps_22 I T L K F a1 P kx22 n A x2 x3 x4 → W p l e { frames := 4, cells := 0, slots := 0, locals := 92 } s m args below meth c H locs 0 0 Q (F0 m 22 ls []) := by
  intro n
  induction n with
  | zero => intro A x2 x3 x4 ls H locs hl h hw; exact hw.elim
  | succ n ih =>
    intro A x2 x3 x4 ls H locs hl h hw
    refine i_iload_n (n := 23) C 13 rfl rfl rfl hl 2 rfl ?_
    refine i_if_le (tgt := 89) (n := 26) C 14 rfl rfl rfl (fun c4 => ?_) (fun c4 => ?_)
    · replace hw := hw.1 c4
      exact hx22 A ls _ _ (lv_sub hl [] rfl) h hw
    · replace hw := hw.2 c4
      refine i_iinc (v := x2 + (-1 : Int32)) (lv' := [(2, .int (x2 + (-1 : Int32))), (0, .ref (ad 1)), (1, .int a1), (3, .int x3), (4, .int x4)]) (n := 29) C 15 rfl rfl hl 2 rfl rfl (by decide) rfl (fun ls hl => ?_)
      refine i_aload_n (n := 30) C 16 rfl rfl rfl hl 1 rfl ?_
      refine i_iload_n (n := 31) C 17 rfl rfl rfl hl 2 rfl ?_
      refine i_callVi (rest := []) (ci := 5) (qc := (R_Ne, T_Ne, 17)) (n := 34) C 18 rfl rfl hl h rfl (wC_get (h := 1) (by decide)) (kV_Ne_144 ⟨by decide, by decide⟩) (m_Ne_sweep hw) rfl rfl (Nat.le_of_ble_eq_true rfl) ⟨by decide, by decide⟩ (fun r5 u6 H locs hw h => ?_)
      refine i_aload_n (n := 35) C 19 rfl rfl rfl hl 1 rfl ?_
      refine fgC_Ne_125 (n := 38) C 20 rfl rfl h ?_
      refine i_icmp_gt (tgt := 47) (n := 41) C 21 rfl rfl rfl (fun c7 => ?_) (fun c7 => ?_)
      · replace hw := hw.1 c7
        refine i_iinc (v := x3 + (1 : Int32)) (lv' := [(3, .int (x3 + (1 : Int32))), (2, .int (x2 + (-1 : Int32))), (0, .ref (ad 1)), (1, .int a1), (4, .int x4)]) (n := 50) C 26 rfl rfl hl 3 rfl rfl (by decide) rfl (fun ls hl => ?_)
        refine i_iload_n (n := 51) C 27 rfl rfl rfl hl 0 rfl ?_
        refine i_if_le (tgt := 68) (n := 54) C 28 rfl rfl rfl (fun c8 => ?_) (fun c8 => ?_)
        · replace hw := hw.1 c8
          exact e_Ne_runSweeps_68 C hret ih u6 (x2 + (-1 : Int32)) (x3 + (1 : Int32)) x4 ls _ _ (lv_sub hl [2, 3, 1, 0, 4] rfl) h hw
        · replace hw := hw.2 c8
          refine i_aload_n (n := 55) C 29 rfl rfl rfl hl 2 rfl ?_
          refine i_callVp (rest := []) (ci := 5) (qc := (R_Ne, T_Ne, 17)) (n := 58) C 30 rfl rfl hl h rfl (wC_get (h := 1) (by decide)) (kV_Ne_147 ⟨by decide, by decide⟩) (m_Ne_isAsMarked hw) rfl rfl (Nat.le_of_ble_eq_true rfl) ⟨by decide, by decide⟩ (fun r12 hw => ?_)
          refine i_if_eq (tgt := 68) (n := 61) C 31 rfl rfl rfl (fun c13 => ?_) (fun c13 => ?_)
          · replace hw := hw.1 c13
            exact e_Ne_runSweeps_68 C hret ih u6 (x2 + (-1 : Int32)) (x3 + (1 : Int32)) x4 ls _ _ (lv_sub hl [2, 3, 1, 0, 4] rfl) h hw
          · replace hw := hw.2 c13
            refine i_iload_n (n := 62) C 32 rfl rfl rfl hl 1 rfl ?_
            refine i_iload_n (n := 63) C 33 rfl rfl rfl hl 0 rfl ?_
            obtain ⟨hd, hw⟩ := hw
            refine i_irem (n := 64) C 34 rfl rfl hd ?_
            refine lv_topi (fun y14 ey14 => ?_)
            replace hw := hw y14 ey14
            refine i_istore_n (lv' := [(2, .int y14), (3, .int (x3 + (1 : Int32))), (0, .ref (ad 1)), (1, .int a1), (4, .int x4)]) (n := 65) C 35 rfl rfl rfl hl (by decide) rfl (fun ls hl => ?_)
            refine i_goto (tgt := 22) C 36 rfl rfl ?_
            exact ih u6 y14 (x3 + (1 : Int32)) x4 ls _ _ (lv_sub hl [2, 3, 0, 1, 4] rfl) h hw
      · replace hw := hw.2 c7
        refine i_sipush (v := (500 : Int32)) (n := 44) C 22 rfl rfl rfl ?_
        refine i_iload_n (n := 45) C 23 rfl rfl rfl hl 0 rfl ?_
        refine i_isub (n := 46) C 24 rfl rfl ?_
        exact hret _ u6 _ _ _ _ rfl hw h (C.dg (k := 25) rfl)
set_option maxHeartbeats 4000000 in
set_option maxRecDepth 100000 in
theorem m_Ne_runSweeps {l : Launch} {D : va_G} {cy : Nat → ClassId} {ad : Nat → Nat} {I : Nat → Int32} {A : Nat → Nat → Int32} {T : Nat → Option Nat} {L : List Nat} {K : Nat → Nat} {F : Nat → Nat → Int32} {a1 : Int32} {P : Int32 → ((Nat → Nat → Int32)) → Prop} (hw : g_Ne_runSweeps I A T L K F a1 P) : ∀ sz, Met l y_Ne_runSweeps (WL y_Ne_runSweeps c_Ne_runSweeps 5 (some .int)) { frames := 4, cells := 0, slots := 0, locals := 92 } (va_Pc [.ref (ad 1), .int a1] (PreW D cy (wC cy ad I A T L K F) sz)) (va_Qi P (fun u t => PostW D (va_A (wC cy ad I A T L K F) sz) ((fun (u : (Nat → Nat → Int32)) => wC cy ad I u T L K F) u) t) (va_A (wC cy ad I A T L K F) sz)) 0 0 (va_A (wC cy ad I A T L K F) sz) := by
  refine met_i (wf := fun (u : (Nat → Nat → Int32)) => wC cy ad I u T L K F) R_Ne .int db_Ne_runSweeps (by decide) rfl rfl (Nat.le_of_ble_eq_true rfl) ?_
  intro p e s m below meth c Z Q ls C h hl hret
  have hl : lv_has ls 5 [(0, .ref (ad 1)), (1, .int a1)] := hl
  refine i_aload_n (n := 1) C 0 rfl rfl rfl hl 0 rfl ?_
  refine i_iload_n (n := 2) C 1 rfl rfl rfl hl 1 rfl ?_
  refine i_callVv (rest := []) (ci := 5) (qc := (R_Ne, T_Ne, 17)) (n := 5) C 2 rfl rfl hl h rfl (wC_get (h := 1) (by decide)) (kV_Ne_134 ⟨by decide, by decide⟩) (m_Ne_beginHeads hw) rfl rfl (Nat.le_of_ble_eq_true rfl) ⟨by decide, by decide⟩ (fun u1 H locs hw h => ?_)
  refine i_aload_n (n := 6) C 3 rfl rfl rfl hl 0 rfl ?_
  refine i_callVv (rest := []) (ci := 5) (qc := (R_Ne, T_Ne, 17)) (n := 9) C 4 rfl rfl hl h rfl (wC_get (h := 1) (by decide)) (kV_Ne_138 ⟨by decide, by decide⟩) (m_Ne_listMains hw) rfl rfl (Nat.le_of_ble_eq_true rfl) ⟨by decide, by decide⟩ (fun u2 H locs hw h => ?_)
  refine i_aload_n (n := 10) C 5 rfl rfl rfl hl 0 rfl ?_
  refine i_callVv (rest := []) (ci := 5) (qc := (R_Ne, T_Ne, 17)) (n := 13) C 6 rfl rfl hl h rfl (wC_get (h := 1) (by decide)) (kV_Ne_141 ⟨by decide, by decide⟩) (m_Ne_markHeads hw) rfl rfl (Nat.le_of_ble_eq_true rfl) ⟨by decide, by decide⟩ (fun u3 H locs hw h => ?_)
  refine i_sipush (v := (500 : Int32)) (n := 16) C 7 rfl rfl rfl ?_
  refine i_istore_n (lv' := [(2, .int (500 : Int32)), (0, .ref (ad 1)), (1, .int a1)]) (n := 17) C 8 rfl rfl rfl hl (by decide) rfl (fun ls hl => ?_)
  refine i_iconst (v := (0 : Int32)) (n := 18) C 9 rfl rfl rfl ?_
  refine i_istore_n (lv' := [(3, .int (0 : Int32)), (2, .int (500 : Int32)), (0, .ref (ad 1)), (1, .int a1)]) (n := 19) C 10 rfl rfl rfl hl (by decide) rfl (fun ls hl => ?_)
  refine i_iconst (v := (1 : Int32)) (n := 20) C 11 rfl rfl rfl ?_
  refine i_istore (lv' := [(4, .int (1 : Int32)), (3, .int (0 : Int32)), (2, .int (500 : Int32)), (0, .ref (ad 1)), (1, .int a1)]) (n := 22) C 12 rfl rfl hl (by decide) rfl (fun ls hl => ?_)
  obtain ⟨n15, hw⟩ := hw
  refine e_Ne_runSweeps_22 C hret (fun A_15 ls H locs hl h hw => ?_) n15 u3 (500 : Int32) (0 : Int32) (1 : Int32) ls _ _ (lv_sub hl [3, 4, 2, 1, 0] rfl) h hw
  have hl : lv_has ls 5 [] := hl
  refine i_bipush (v := (-5 : Int32)) (n := 91) C 49 rfl rfl rfl ?_
  exact hret _ A_15 _ _ _ _ rfl hw h (C.dg (k := 50) rfl)
end S90
theorem kV_Ne_103 {R : Room} {s : State} {args : Array Value} (hR : 3 + 1 ≤ R.frames ∧ 8 + (4 + 11) + 68 ≤ R.locals) (ht : ∀ w ∈ GW, w.before args s = true) : CallW R s args R_Ne R_Ne 103 y_Ne_noteInputs c_Ne_noteInputs 4 (some .boolean) (WL y_Ne_noteInputs c_Ne_noteInputs 4 (some .boolean)) { frames := 3, cells := 0, slots := 0, locals := 68 } 0 0 1 := cwV 1 ht (GW_v w_3_152 w_3_154 w_0_2 w_1_2 (GW_wl w_3_155)) rfl rfl rfl (by decide +kernel) hR
theorem kV_Ne_110 {R : Room} {s : State} {args : Array Value} (hR : 4 + 1 ≤ R.frames ∧ 8 + (5 + 11) + 92 ≤ R.locals) (ht : ∀ w ∈ GW, w.before args s = true) : CallW R s args R_Ne R_Ne 110 y_Ne_runSweeps c_Ne_runSweeps 5 (some .int) (WL y_Ne_runSweeps c_Ne_runSweeps 5 (some .int)) { frames := 4, cells := 0, slots := 0, locals := 92 } 0 0 1 := cwV 1 ht (GW_v w_3_180 w_3_181 w_3_182 w_1_2 (GW_wl w_3_183)) rfl rfl rfl (by decide +kernel) hR
section S91
variable {p : Program} {l : Launch} {e : Env} {R : Room} {s : State} {m : MethodId} {args : Array Value} {below : List Frame} {meth : Method} {c : Code} {H : Heap} {locs : List Loc} {cells slots : Nat} {Q : State → Prop}
variable {cc : ByteArray} {pc n nL : Nat} {ls : Array Slot} {rest : List Value} {D : va_G} {cy : Nat → ClassId} {Z : Nat → Prop} {ad : Nat → Nat} {tb : List (Nat × Instr × Nat)} {lv : List (Nat × Value)}
set_option maxHeartbeats 4000000 in
set_option maxRecDepth 100000 in
theorem e_Ne_settle_41 {T : Nat → Option Nat} {L : List Nat} {K : Nat → Nat} {F : Nat → Nat → Int32} {a1 : Int32} {P : ((Nat → Int32) × (Nat → Nat → Int32)) → Prop}  (C : CX D cy R_Ne c_Ne_settle tb_Ne_settle 4 p s m args c Z) (hret : RetV p l e { frames := 5, cells := 0, slots := 0, locals := 116 } s m args below meth c c_Ne_settle D Z Q (fun (u : (Nat → Int32) × (Nat → Nat → Int32)) => wC cy ad u.1 u.2 T L K F) P 0 0) :
    ∀ (I : Nat → Int32) (A : Nat → Nat → Int32) (x3 : Int32) (s1 : Int32) (ls : Array Slot) (H : Heap) (locs : List Loc), lv_has ls 4 [(0, .ref (ad 1)), (3, .int x3)] → HXw D Z s.heap H locs (wC cy ad I A T L K F) → g_Ne_settle_41 T L K F a1 P  I A x3 s1 → W p l e { frames := 5, cells := 0, slots := 0, locals := 116 } s m args below meth c H locs 0 0 Q (F0 m 41 ls [.int s1, .ref (ad 1)]) := by
  intro I A x3 s1 ls H locs hl h hw
  obtain ⟨hB, hw⟩ := hw
  refine fpC_Ne_113 (n := 44) C 24 rfl rfl h hB (fun H locs h => ?_)
  refine i_aload_n (n := 45) C 25 rfl rfl rfl hl 0 rfl ?_
  refine i_aload_n (n := 46) C 26 rfl rfl rfl hl 0 rfl ?_
  refine fgC_Ne_113 (n := 49) C 27 rfl rfl h ?_
  refine i_if_eq (tgt := 56) (n := 52) C 28 rfl rfl rfl (fun c7 => ?_) (fun c7 => ?_)
  · replace hw := hw.1 c7
    refine i_sipush (v := (500 : Int32)) (n := 59) C 31 rfl rfl rfl ?_
    refine fpC_Ne_116 (n := 62) C 32 rfl rfl h (fun H locs h => ?_)
    exact hret (va_up (va_up I 7 s1) 6 (500 : Int32), A) _ _ _ _ hw h (C.dg (k := 33) rfl)
  · replace hw := hw.2 c7
    refine i_iload_n (n := 53) C 29 rfl rfl rfl hl 1 rfl ?_
    refine i_goto (tgt := 59) C 30 rfl rfl ?_
    refine fpC_Ne_116 (n := 62) C 32 rfl rfl h (fun H locs h => ?_)
    exact hret (va_up (va_up I 7 s1) 6 x3, A) _ _ _ _ hw h (C.dg (k := 33) rfl)
set_option maxHeartbeats 4000000 in
set_option maxRecDepth 100000 in
theorem e_Ne_settle_18 {T : Nat → Option Nat} {L : List Nat} {K : Nat → Nat} {F : Nat → Nat → Int32} {a1 : Int32} {P : ((Nat → Int32) × (Nat → Nat → Int32)) → Prop}  (C : CX D cy R_Ne c_Ne_settle tb_Ne_settle 4 p s m args c Z) (hret : RetV p l e { frames := 5, cells := 0, slots := 0, locals := 116 } s m args below meth c c_Ne_settle D Z Q (fun (u : (Nat → Int32) × (Nat → Nat → Int32)) => wC cy ad u.1 u.2 T L K F) P 0 0) :
    ∀ (I : Nat → Int32) (A : Nat → Nat → Int32) (ls : Array Slot) (H : Heap) (locs : List Loc), lv_has ls 4 [(0, .ref (ad 1)), (1, .int a1)] → HXw D Z s.heap H locs (wC cy ad I A T L K F) → g_Ne_settle_18 T L K F a1 P  I A → W p l e { frames := 5, cells := 0, slots := 0, locals := 116 } s m args below meth c H locs 0 0 Q (F0 m 18 ls []) := by
  intro I A ls H locs hl h hw
  refine i_aload_n (n := 19) C 10 rfl rfl rfl hl 0 rfl ?_
  refine i_iconst (v := (1 : Int32)) (n := 20) C 11 rfl rfl rfl ?_
  refine fpC_Ne_106 (n := 23) C 12 rfl rfl h (by first | exact Or.inl rfl | exact Or.inr rfl) (fun H locs h => ?_)
  refine i_aload_n (n := 24) C 13 rfl rfl rfl hl 0 rfl ?_
  refine i_iload_n (n := 25) C 14 rfl rfl rfl hl 1 rfl ?_
  refine i_callVi (rest := []) (ci := 5) (qc := (R_Ne, T_Ne, 17)) (n := 28) C 15 rfl rfl hl h rfl (wC_get (h := 1) (by decide)) (kV_Ne_110 ⟨by decide, by decide⟩) (m_Ne_runSweeps hw) rfl rfl (Nat.le_of_ble_eq_true rfl) ⟨by decide, by decide⟩ (fun r4 u5 H locs hw h => ?_)
  refine i_istore_n (lv' := [(3, .int r4), (0, .ref (ad 1)), (1, .int a1)]) (n := 29) C 16 rfl rfl rfl hl (by decide) rfl (fun ls hl => ?_)
  refine i_aload_n (n := 30) C 17 rfl rfl rfl hl 1 rfl ?_
  refine i_iload_n (n := 31) C 18 rfl rfl rfl hl 0 rfl ?_
  refine i_bipush (v := (-5 : Int32)) (n := 33) C 19 rfl rfl rfl ?_
  refine i_icmp_eq (tgt := 40) (n := 36) C 20 rfl rfl rfl (fun c6 => ?_) (fun c6 => ?_)
  · replace hw := hw.1 c6
    refine i_iconst (v := (0 : Int32)) (n := 41) C 23 rfl rfl rfl ?_
    exact e_Ne_settle_41 C hret  (va_up I 8 (1 : Int32)) u5 r4 (0 : Int32) ls _ _ (lv_sub hl [1, 0] rfl) h hw
  · replace hw := hw.2 c6
    refine i_iconst (v := (1 : Int32)) (n := 37) C 21 rfl rfl rfl ?_
    refine i_goto (tgt := 41) C 22 rfl rfl ?_
    exact e_Ne_settle_41 C hret  (va_up I 8 (1 : Int32)) u5 r4 (1 : Int32) ls _ _ (lv_sub hl [1, 0] rfl) h hw
set_option maxHeartbeats 4000000 in
set_option maxRecDepth 100000 in
theorem m_Ne_settle {l : Launch} {D : va_G} {cy : Nat → ClassId} {ad : Nat → Nat} {I : Nat → Int32} {A : Nat → Nat → Int32} {T : Nat → Option Nat} {L : List Nat} {K : Nat → Nat} {F : Nat → Nat → Int32} {a1 : Int32} {P : ((Nat → Int32) × (Nat → Nat → Int32)) → Prop} (hw : g_Ne_settle I A T L K F a1 P) : ∀ sz, Met l y_Ne_settle (WL y_Ne_settle c_Ne_settle 4 none) { frames := 5, cells := 0, slots := 0, locals := 116 } (va_Pc [.ref (ad 1), .int a1] (PreW D cy (wC cy ad I A T L K F) sz)) (va_Qv P (fun u t => PostW D (va_A (wC cy ad I A T L K F) sz) ((fun (u : (Nat → Int32) × (Nat → Nat → Int32)) => wC cy ad u.1 u.2 T L K F) u) t) (va_A (wC cy ad I A T L K F) sz)) 0 0 (va_A (wC cy ad I A T L K F) sz) := by
  refine met_v (wf := fun (u : (Nat → Int32) × (Nat → Nat → Int32)) => wC cy ad u.1 u.2 T L K F) R_Ne db_Ne_settle (by decide) rfl (Nat.le_of_ble_eq_true rfl) ?_
  intro p e s m below meth c Z Q ls hin C h hl hret
  have hl : lv_has ls 4 [(0, .ref (ad 1)), (1, .int a1)] := hl
  refine i_aload_n (n := 1) C 0 rfl rfl rfl hl 0 rfl ?_
  refine i_iload_n (n := 2) C 1 rfl rfl rfl hl 1 rfl ?_
  refine i_callVi (rest := []) (ci := 5) (qc := (R_Ne, T_Ne, 17)) (n := 5) C 2 rfl rfl hl h rfl (wC_get (h := 1) (by decide)) (kV_Ne_103 ⟨by decide, by decide⟩) (m_Ne_noteInputs hw) rfl rfl (Nat.le_of_ble_eq_true rfl) ⟨by decide, by decide⟩ (fun r1 u2 H locs hw h => ?_)
  refine i_istore_n (lv' := [(2, .int r1), (0, .ref (ad 1)), (1, .int a1)]) (n := 6) C 3 rfl rfl rfl hl (by decide) rfl (fun ls hl => ?_)
  refine i_aload_n (n := 7) C 4 rfl rfl rfl hl 1 rfl ?_
  refine fgC_Ne_106 (n := 10) C 5 rfl rfl h ?_
  refine i_if_eq (tgt := 18) (n := 13) C 6 rfl rfl rfl (fun c3 => ?_) (fun c3 => ?_)
  · replace hw := hw.1 c3
    exact e_Ne_settle_18 C hret  I u2 ls _ _ (lv_sub hl [1, 2] rfl) h hw
  · replace hw := hw.2 c3
    refine i_iload_n (n := 14) C 7 rfl rfl rfl hl 0 rfl ?_
    refine i_if_ne (tgt := 18) (n := 17) C 8 rfl rfl rfl (fun c8 => ?_) (fun c8 => ?_)
    · replace hw := hw.1 c8
      exact e_Ne_settle_18 C hret  I u2 ls _ _ (lv_sub hl [1, 2] rfl) h hw
    · replace hw := hw.2 c8
      exact hret (I, u2) _ _ _ _ hw h (C.dg (k := 9) rfl)
end S91
theorem kV_Pw_212 {R : Room} {s : State} {args : Array Value} (hR : 5 + 1 ≤ R.frames ∧ 8 + (4 + 11) + 116 ≤ R.locals) (ht : ∀ w ∈ GW, w.before args s = true) : CallW R s args R_Pw R_Ne 212 y_Ne_settle c_Ne_settle 4 none (WL y_Ne_settle c_Ne_settle 4 none) { frames := 5, cells := 0, slots := 0, locals := 116 } 0 0 1 := cwV 1 ht (GW_v w_3_148 w_3_149 w_3_150 w_1_2 (GW_wl w_3_151)) rfl rfl rfl (by decide +kernel) hR
section S92
variable {p : Program} {l : Launch} {e : Env} {R : Room} {s : State} {m : MethodId} {args : Array Value} {below : List Frame} {meth : Method} {c : Code} {H : Heap} {locs : List Loc} {cells slots : Nat} {Q : State → Prop}
variable {cc : ByteArray} {pc n nL : Nat} {ls : Array Slot} {rest : List Value} {D : va_G} {cy : Nat → ClassId} {Z : Nat → Prop} {ad : Nat → Nat} {tb : List (Nat × Instr × Nat)} {lv : List (Nat × Value)}
set_option maxHeartbeats 4000000 in
set_option maxRecDepth 100000 in
theorem m_Pw_work {l : Launch} {D : va_G} {cy : Nat → ClassId} {ad : Nat → Nat} {I : Nat → Int32} {A : Nat → Nat → Int32} {T : Nat → Option Nat} {L : List Nat} {K : Nat → Nat} {F : Nat → Nat → Int32}  {P : Int32 → ((Nat → Int32) × (Nat → Nat → Int32)) → Prop} (hw : g_Pw_work I A T L K F P) : ∀ sz, Met l y_Pw_work (WL y_Pw_work c_Pw_work 1 (some .int)) { frames := 6, cells := 0, slots := 0, locals := 139 } (va_Pc [.ref (ad 0)] (PreW D cy (wC cy ad I A T L K F) sz)) (va_Qi P (fun u t => PostW D (va_A (wC cy ad I A T L K F) sz) ((fun (u : (Nat → Int32) × (Nat → Nat → Int32)) => wC cy ad u.1 u.2 T L K F) u) t) (va_A (wC cy ad I A T L K F) sz)) 0 0 (va_A (wC cy ad I A T L K F) sz) := by
  refine met_i (wf := fun (u : (Nat → Int32) × (Nat → Nat → Int32)) => wC cy ad u.1 u.2 T L K F) R_Pw .int db_Pw_work (by decide) rfl rfl (Nat.le_of_ble_eq_true rfl) ?_
  intro p e s m below meth c Z Q ls C h hl hret
  have hl : lv_has ls 1 [(0, .ref (ad 0))] := hl
  refine i_aload_n (n := 1) C 0 rfl rfl rfl hl 0 rfl ?_
  refine fgC_Pw_10 (n := 4) C 1 rfl rfl h ?_
  refine i_aload_n (n := 5) C 2 rfl rfl rfl hl 0 rfl ?_
  refine fgC_Pw_184 (n := 8) C 3 rfl rfl h ?_
  refine i_callVv (rest := []) (ci := 5) (qc := (R_Ne, T_Ne, 17)) (n := 11) C 4 rfl rfl hl h rfl (wC_get (h := 1) (by decide)) (kV_Pw_212 ⟨by decide, by decide⟩) (m_Ne_settle hw) rfl rfl (Nat.le_of_ble_eq_true rfl) ⟨by decide, by decide⟩ (fun u1 H locs hw h => ?_)
  refine i_aload_n (n := 12) C 5 rfl rfl rfl hl 0 rfl ?_
  refine fgC_Pw_10 (n := 15) C 6 rfl rfl h ?_
  refine fgC_Pw_216 (n := 18) C 7 rfl rfl h ?_
  refine i_if_eq (tgt := 31) (n := 21) C 8 rfl rfl rfl (fun c2 => ?_) (fun c2 => ?_)
  · replace hw := hw.1 c2
    refine i_bipush (v := (-5 : Int32)) (n := 33) C 13 rfl rfl rfl ?_
    exact hret _ (u1.1, u1.2) _ _ _ _ rfl hw h (C.dg (k := 14) rfl)
  · replace hw := hw.2 c2
    refine i_aload_n (n := 22) C 9 rfl rfl rfl hl 0 rfl ?_
    refine fgC_Pw_10 (n := 25) C 10 rfl rfl h ?_
    refine fgC_Pw_219 (n := 28) C 11 rfl rfl h ?_
    refine i_goto (tgt := 33) C 12 rfl rfl ?_
    exact hret _ (u1.1, u1.2) _ _ _ _ rfl hw h (C.dg (k := 14) rfl)
end S92
section S93
variable {p : Program} {l : Launch} {e : Env} {R : Room} {s : State} {m : MethodId} {args : Array Value} {below : List Frame} {meth : Method} {c : Code} {H : Heap} {locs : List Loc} {cells slots : Nat} {Q : State → Prop}
variable {cc : ByteArray} {pc n nL : Nat} {ls : Array Slot} {rest : List Value} {D : va_G} {cy : Nat → ClassId} {Z : Nat → Prop} {ad : Nat → Nat} {tb : List (Nat × Instr × Nat)} {lv : List (Nat × Value)}
set_option maxHeartbeats 4000000 in
set_option maxRecDepth 100000 in
theorem m_Pw_near {l : Launch} {D : va_G} {cy : Nat → ClassId} {ad : Nat → Nat} {I : Nat → Int32} {A : Nat → Nat → Int32} {T : Nat → Option Nat} {L : List Nat} {K : Nat → Nat} {F : Nat → Nat → Int32} {a1 : Int32} {P : Int32 → ((Nat → Int32)) → Prop} (hw : g_Pw_near I a1 P) : ∀ sz, Met l y_Pw_near (WL y_Pw_near c_Pw_near 3 (some .int)) { frames := 1, cells := 0, slots := 0, locals := 22 } (va_Pc [.ref (ad 0), .int a1] (PreW D cy (wC cy ad I A T L K F) sz)) (va_Qi P (fun u t => PostW D (va_A (wC cy ad I A T L K F) sz) ((fun (u : (Nat → Int32)) => wC cy ad u A T L K F) u) t) (va_A (wC cy ad I A T L K F) sz)) 0 0 (va_A (wC cy ad I A T L K F) sz) := by
  refine met_i (wf := fun (u : (Nat → Int32)) => wC cy ad u A T L K F) R_Pw .int db_Pw_near (by decide) rfl rfl (Nat.le_of_ble_eq_true rfl) ?_
  intro p e s m below meth c Z Q ls C h hl hret
  have hl : lv_has ls 3 [(0, .ref (ad 0)), (1, .int a1)] := hl
  refine i_iload_n (n := 1) C 0 rfl rfl rfl hl 1 rfl ?_
  refine i_iconst (v := (0 : Int32)) (n := 2) C 1 rfl rfl rfl ?_
  refine i_bipush (v := (100 : Int32)) (n := 4) C 2 rfl rfl rfl ?_
  refine i_callSp (rest := []) (n := 7) C 3 rfl rfl hl h (kS_Pw_69 ⟨by decide, by decide⟩) (m_Pw_isWithin hw) rfl rfl (Nat.le_of_ble_eq_true rfl) ⟨by decide, by decide⟩ (fun r1 hw => ?_)
  refine i_if_ne (tgt := 13) (n := 10) C 4 rfl rfl rfl (fun c2 => ?_) (fun c2 => ?_)
  · replace hw := hw.1 c2
    refine i_aload_n (n := 14) C 7 rfl rfl rfl hl 0 rfl ?_
    refine fgC_Pw_10 (n := 17) C 8 rfl rfl h ?_
    refine fgC_Pw_222 (n := 20) C 9 rfl rfl h ?_
    refine lv_topi (fun y3 ey3 => ?_)
    replace hw := hw y3 ey3
    refine i_istore_n (lv' := [(2, .int y3), (0, .ref (ad 0)), (1, .int a1)]) (n := 21) C 10 rfl rfl rfl hl (by decide) rfl (fun ls hl => ?_)
    refine i_aload_n (n := 22) C 11 rfl rfl rfl hl 1 rfl ?_
    refine fgC_Pw_10 (n := 25) C 12 rfl rfl h ?_
    refine i_iload_n (n := 26) C 13 rfl rfl rfl hl 2 rfl ?_
    refine fpC_Pw_222 (n := 29) C 14 rfl rfl h (fun H locs h => ?_)
    refine i_iload_n (n := 30) C 15 rfl rfl rfl hl 0 rfl ?_
    exact hret _ (va_up I 5 a1) _ _ _ _ rfl hw h (C.dg (k := 16) rfl)
  · replace hw := hw.2 c2
    refine i_bipush (v := (-2 : Int32)) (n := 12) C 5 rfl rfl rfl ?_
    exact hret _ I _ _ _ _ rfl hw h (C.dg (k := 6) rfl)
end S93
theorem kV_Pw_230 {R : Room} {s : State} {args : Array Value} (hR : 0 + 1 ≤ R.frames ∧ 8 + (2 + 11) + 0 ≤ R.locals) (ht : ∀ w ∈ GW, w.before args s = true) : CallW R s args R_Pw R_Ne 230 y_Ne_pressAt c_Ne_pressAt 2 (some .int) (WL y_Ne_pressAt c_Ne_pressAt 2 (some .int)) { frames := 0, cells := 0, slots := 0, locals := 0 } 0 0 1 := cwV 1 ht (GW_v w_3_230 w_3_56 w_3_57 w_1_2 (GW_wl w_3_58)) rfl rfl rfl (by decide +kernel) hR
section S94
variable {p : Program} {l : Launch} {e : Env} {R : Room} {s : State} {m : MethodId} {args : Array Value} {below : List Frame} {meth : Method} {c : Code} {H : Heap} {locs : List Loc} {cells slots : Nat} {Q : State → Prop}
variable {cc : ByteArray} {pc n nL : Nat} {ls : Array Slot} {rest : List Value} {D : va_G} {cy : Nat → ClassId} {Z : Nat → Prop} {ad : Nat → Nat} {tb : List (Nat × Instr × Nat)} {lv : List (Nat × Value)}
set_option maxHeartbeats 4000000 in
set_option maxRecDepth 100000 in
theorem m_Pw_press {l : Launch} {D : va_G} {cy : Nat → ClassId} {ad : Nat → Nat} {I : Nat → Int32} {A : Nat → Nat → Int32} {T : Nat → Option Nat} {L : List Nat} {K : Nat → Nat} {F : Nat → Nat → Int32} {a1 : Int32} {a2 : Int32} {P : Int32 → Prop} (hw : g_Pw_press I A a1 a2 P) : ∀ sz, Met l y_Pw_press (WL y_Pw_press c_Pw_press 3 (some .int)) { frames := 1, cells := 0, slots := 0, locals := 22 } (va_Pc [.ref (ad 0), .int a1, .int a2] (PreW D cy (wC cy ad I A T L K F) sz)) (vp_Si P) 0 0 (fun _ => False) := by
  refine met_p R_Pw .int db_Pw_press (by decide) rfl rfl (Nat.le_of_ble_eq_true rfl) ?_
  intro p e s m below meth c Z Q ls C h hl hret
  have hl : lv_has ls 3 [(0, .ref (ad 0)), (1, .int a1), (2, .int a2)] := hl
  refine i_aload_n (n := 1) C 0 rfl rfl rfl hl 0 rfl ?_
  refine fgC_Pw_10 (n := 4) C 1 rfl rfl h ?_
  refine i_iload_n (n := 5) C 2 rfl rfl rfl hl 1 rfl ?_
  refine i_callVp (rest := []) (ci := 5) (qc := (R_Ne, T_Ne, 17)) (n := 8) C 3 rfl rfl hl h rfl (wC_get (h := 1) (by decide)) (kV_Pw_77 ⟨by decide, by decide⟩) (m_Ne_has hw) rfl rfl (Nat.le_of_ble_eq_true rfl) ⟨by decide, by decide⟩ (fun r1 hw => ?_)
  refine i_if_ne (tgt := 14) (n := 11) C 4 rfl rfl rfl (fun c2 => ?_) (fun c2 => ?_)
  · replace hw := hw.1 c2
    refine i_iload_n (n := 15) C 7 rfl rfl rfl hl 2 rfl ?_
    refine i_iconst (v := (0 : Int32)) (n := 16) C 8 rfl rfl rfl ?_
    refine i_iconst (v := (1 : Int32)) (n := 17) C 9 rfl rfl rfl ?_
    refine i_callSp (rest := []) (n := 20) C 10 rfl rfl hl h (kS_Pw_69 ⟨by decide, by decide⟩) (m_Pw_isWithin hw) rfl rfl (Nat.le_of_ble_eq_true rfl) ⟨by decide, by decide⟩ (fun r3 hw => ?_)
    refine i_if_ne (tgt := 26) (n := 23) C 11 rfl rfl rfl (fun c4 => ?_) (fun c4 => ?_)
    · replace hw := hw.1 c4
      refine i_iload_n (n := 27) C 14 rfl rfl rfl hl 2 rfl ?_
      refine i_if_ne (tgt := 42) (n := 30) C 15 rfl rfl rfl (fun c5 => ?_) (fun c5 => ?_)
      · replace hw := hw.1 c5
        refine i_aload_n (n := 43) C 22 rfl rfl rfl hl 0 rfl ?_
        refine fgC_Pw_10 (n := 46) C 23 rfl rfl h ?_
        refine i_iload_n (n := 47) C 24 rfl rfl rfl hl 1 rfl ?_
        refine i_callVp (rest := []) (ci := 5) (qc := (R_Ne, T_Ne, 17)) (n := 50) C 25 rfl rfl hl h rfl (wC_get (h := 1) (by decide)) (kV_Pw_230 ⟨by decide, by decide⟩) (m_Ne_pressAt hw) rfl rfl (Nat.le_of_ble_eq_true rfl) ⟨by decide, by decide⟩ (fun r6 hw => ?_)
        exact hret _ _ _ rfl hw (C.dg (k := 26) rfl)
      · replace hw := hw.2 c5
        refine i_aload_n (n := 31) C 16 rfl rfl rfl hl 0 rfl ?_
        refine fgC_Pw_10 (n := 34) C 17 rfl rfl h ?_
        refine fgC_Pw_227 (n := 37) C 18 rfl rfl h ?_
        refine i_iload_n (n := 38) C 19 rfl rfl rfl hl 1 rfl ?_
        obtain ⟨hb, hw⟩ := hw
        refine i_iald (n := 39) C 20 rfl rfl h (wC_arr 9 (by decide) rfl) hb ?_
        refine i_goto (tgt := 50) C 21 rfl rfl ?_
        exact hret _ _ _ rfl hw (C.dg (k := 26) rfl)
    · replace hw := hw.2 c4
      refine i_ldc (n := 25) C 12 rfl rfl w_3_229 ?_
      exact hret _ _ _ rfl hw (C.dg (k := 13) rfl)
  · replace hw := hw.2 c2
    refine i_ldc (n := 13) C 5 rfl rfl w_3_228 ?_
    exact hret _ _ _ rfl hw (C.dg (k := 6) rfl)
end S94
section S95
variable {p : Program} {l : Launch} {e : Env} {R : Room} {s : State} {m : MethodId} {args : Array Value} {below : List Frame} {meth : Method} {c : Code} {H : Heap} {locs : List Loc} {cells slots : Nat} {Q : State → Prop}
variable {cc : ByteArray} {pc n nL : Nat} {ls : Array Slot} {rest : List Value} {D : va_G} {cy : Nat → ClassId} {Z : Nat → Prop} {ad : Nat → Nat} {tb : List (Nat × Instr × Nat)} {lv : List (Nat × Value)}
set_option maxHeartbeats 4000000 in
set_option maxRecDepth 100000 in
theorem m_Ne_flowOf {l : Launch} {D : va_G} {cy : Nat → ClassId} {ad : Nat → Nat} {I : Nat → Int32} {A : Nat → Nat → Int32} {T : Nat → Option Nat} {L : List Nat} {K : Nat → Nat} {F : Nat → Nat → Int32} {a1 : Int32} {P : Int32 → Prop} (hw : g_Ne_flowOf A a1 P) : ∀ sz, Met l y_Ne_flowOf (WL y_Ne_flowOf c_Ne_flowOf 2 (some .int)) { frames := 0, cells := 0, slots := 0, locals := 0 } (va_Pc [.ref (ad 1), .int a1] (PreW D cy (wC cy ad I A T L K F) sz)) (vp_Si P) 0 0 (fun _ => False) := by
  refine met_p R_Ne .int db_Ne_flowOf (by decide) rfl rfl (Nat.le_of_ble_eq_true rfl) ?_
  intro p e s m below meth c Z Q ls C h hl hret
  have hl : lv_has ls 2 [(0, .ref (ad 1)), (1, .int a1)] := hl
  refine i_aload_n (n := 1) C 0 rfl rfl rfl hl 0 rfl ?_
  refine fgC_Ne_12 (n := 4) C 1 rfl rfl h ?_
  refine fgC_Ne_79 (n := 7) C 2 rfl rfl h ?_
  refine i_iload_n (n := 8) C 3 rfl rfl rfl hl 1 rfl ?_
  obtain ⟨hb, hw⟩ := hw
  refine i_iald (n := 9) C 4 rfl rfl h (wC_arr 19 (by decide) rfl) hb ?_
  refine i_aload_n (n := 10) C 5 rfl rfl rfl hl 0 rfl ?_
  refine fgC_Ne_25 (n := 13) C 6 rfl rfl h ?_
  refine i_aload_n (n := 14) C 7 rfl rfl rfl hl 0 rfl ?_
  refine fgC_Ne_12 (n := 17) C 8 rfl rfl h ?_
  refine fgC_Ne_82 (n := 20) C 9 rfl rfl h ?_
  refine i_iload_n (n := 21) C 10 rfl rfl rfl hl 1 rfl ?_
  obtain ⟨hb, hw⟩ := hw
  refine i_iald (n := 22) C 11 rfl rfl h (wC_arr 17 (by decide) rfl) hb ?_
  obtain ⟨hb, hw⟩ := hw
  refine i_iald (n := 23) C 12 rfl rfl h (wC_arr 9 (by decide) rfl) hb ?_
  refine i_aload_n (n := 24) C 13 rfl rfl rfl hl 0 rfl ?_
  refine fgC_Ne_25 (n := 27) C 14 rfl rfl h ?_
  refine i_aload_n (n := 28) C 15 rfl rfl rfl hl 0 rfl ?_
  refine fgC_Ne_12 (n := 31) C 16 rfl rfl h ?_
  refine fgC_Ne_85 (n := 34) C 17 rfl rfl h ?_
  refine i_iload_n (n := 35) C 18 rfl rfl rfl hl 1 rfl ?_
  obtain ⟨hb, hw⟩ := hw
  refine i_iald (n := 36) C 19 rfl rfl h (wC_arr 18 (by decide) rfl) hb ?_
  obtain ⟨hb, hw⟩ := hw
  refine i_iald (n := 37) C 20 rfl rfl h (wC_arr 9 (by decide) rfl) hb ?_
  refine i_isub (n := 38) C 21 rfl rfl ?_
  refine i_imul (n := 39) C 22 rfl rfl ?_
  refine i_sipush (v := (1000 : Int32)) (n := 42) C 23 rfl rfl rfl ?_
  refine i_idiv (n := 43) C 24 rfl rfl (by decide) ?_
  exact hret _ _ _ rfl hw (C.dg (k := 25) rfl)
end S95
theorem kV_Pw_233 {R : Room} {s : State} {args : Array Value} (hR : 0 + 1 ≤ R.frames ∧ 8 + (2 + 11) + 0 ≤ R.locals) (ht : ∀ w ∈ GW, w.before args s = true) : CallW R s args R_Pw R_Ne 233 y_Ne_flowOf c_Ne_flowOf 2 (some .int) (WL y_Ne_flowOf c_Ne_flowOf 2 (some .int)) { frames := 0, cells := 0, slots := 0, locals := 0 } 0 0 1 := cwV 1 ht (GW_v w_3_235 w_3_236 w_3_237 w_1_2 (GW_wl w_3_238)) rfl rfl rfl (by decide +kernel) hR
section S96
variable {p : Program} {l : Launch} {e : Env} {R : Room} {s : State} {m : MethodId} {args : Array Value} {below : List Frame} {meth : Method} {c : Code} {H : Heap} {locs : List Loc} {cells slots : Nat} {Q : State → Prop}
variable {cc : ByteArray} {pc n nL : Nat} {ls : Array Slot} {rest : List Value} {D : va_G} {cy : Nat → ClassId} {Z : Nat → Prop} {ad : Nat → Nat} {tb : List (Nat × Instr × Nat)} {lv : List (Nat × Value)}
set_option maxHeartbeats 4000000 in
set_option maxRecDepth 100000 in
theorem m_Pw_flow {l : Launch} {D : va_G} {cy : Nat → ClassId} {ad : Nat → Nat} {I : Nat → Int32} {A : Nat → Nat → Int32} {T : Nat → Option Nat} {L : List Nat} {K : Nat → Nat} {F : Nat → Nat → Int32} {a1 : Int32} {P : Int32 → Prop} (hw : g_Pw_flow I A a1 P) : ∀ sz, Met l y_Pw_flow (WL y_Pw_flow c_Pw_flow 2 (some .int)) { frames := 3, cells := 0, slots := 0, locals := 66 } (va_Pc [.ref (ad 0), .int a1] (PreW D cy (wC cy ad I A T L K F) sz)) (vp_Si P) 0 0 (fun _ => False) := by
  refine met_p R_Pw .int db_Pw_flow (by decide) rfl rfl (Nat.le_of_ble_eq_true rfl) ?_
  intro p e s m below meth c Z Q ls C h hl hret
  have hl : lv_has ls 2 [(0, .ref (ad 0)), (1, .int a1)] := hl
  refine i_aload_n (n := 1) C 0 rfl rfl rfl hl 0 rfl ?_
  refine fgC_Pw_20 (n := 4) C 1 rfl rfl h ?_
  refine i_iload_n (n := 5) C 2 rfl rfl rfl hl 1 rfl ?_
  refine i_callVp (rest := []) (ci := 7) (qc := (R_Pi, T_Pi, 8)) (n := 8) C 3 rfl rfl hl h rfl (wC_get (h := 2) (by decide)) (kV_Pw_87 ⟨by decide, by decide⟩) (m_Pi_hasMain hw) rfl rfl (Nat.le_of_ble_eq_true rfl) ⟨by decide, by decide⟩ (fun r1 hw => ?_)
  refine i_if_ne (tgt := 14) (n := 11) C 4 rfl rfl rfl (fun c2 => ?_) (fun c2 => ?_)
  · replace hw := hw.1 c2
    refine i_aload_n (n := 15) C 7 rfl rfl rfl hl 0 rfl ?_
    refine fgC_Pw_20 (n := 18) C 8 rfl rfl h ?_
    refine i_iload_n (n := 19) C 9 rfl rfl rfl hl 1 rfl ?_
    refine i_callVp (rest := []) (ci := 7) (qc := (R_Pi, T_Pi, 8)) (n := 22) C 10 rfl rfl hl h rfl (wC_get (h := 2) (by decide)) (kV_Pw_100 ⟨by decide, by decide⟩) (m_Pi_isOpen hw) rfl rfl (Nat.le_of_ble_eq_true rfl) ⟨by decide, by decide⟩ (fun r3 hw => ?_)
    refine i_if_eq (tgt := 36) (n := 25) C 11 rfl rfl rfl (fun c4 => ?_) (fun c4 => ?_)
    · replace hw := hw.1 c4
      refine i_iconst (v := (0 : Int32)) (n := 37) C 17 rfl rfl rfl ?_
      exact hret _ _ _ rfl hw (C.dg (k := 18) rfl)
    · replace hw := hw.2 c4
      refine i_aload_n (n := 26) C 12 rfl rfl rfl hl 0 rfl ?_
      refine fgC_Pw_10 (n := 29) C 13 rfl rfl h ?_
      refine i_iload_n (n := 30) C 14 rfl rfl rfl hl 1 rfl ?_
      refine i_callVp (rest := []) (ci := 5) (qc := (R_Ne, T_Ne, 17)) (n := 33) C 15 rfl rfl hl h rfl (wC_get (h := 1) (by decide)) (kV_Pw_233 ⟨by decide, by decide⟩) (m_Ne_flowOf hw) rfl rfl (Nat.le_of_ble_eq_true rfl) ⟨by decide, by decide⟩ (fun r5 hw => ?_)
      refine i_goto (tgt := 37) C 16 rfl rfl ?_
      exact hret _ _ _ rfl hw (C.dg (k := 18) rfl)
  · replace hw := hw.2 c2
    refine i_ldc (n := 13) C 5 rfl rfl w_3_228 ?_
    exact hret _ _ _ rfl hw (C.dg (k := 6) rfl)
end S96
