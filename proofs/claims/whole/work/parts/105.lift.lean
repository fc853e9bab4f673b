section S77
variable {p : Program} {l : Launch} {e : Env} {R : Room} {s : State} {m : MethodId} {args : Array Value} {below : List Frame} {meth : Method} {c : Code} {H : Heap} {locs : List Loc} {cells slots : Nat} {Q : State → Prop}
variable {cc : ByteArray} {pc n nL : Nat} {ls : Array Slot} {rest : List Value} {D : va_G} {cy : Nat → ClassId} {Z : Nat → Prop} {ad : Nat → Nat} {tb : List (Nat × Instr × Nat)} {lv : List (Nat × Value)}
set_option maxHeartbeats 4000000 in
set_option maxRecDepth 100000 in
theorem e_Ne_noteInput_15 {I : Nat → Int32} {T : Nat → Option Nat} {L : List Nat} {K : Nat → Nat} {F : Nat → Nat → Int32} {a1 : Int32} {a2 : Int32} {P : Int32 → ((Nat → Nat → Int32)) → Prop}  (C : CX D cy R_Ne c_Ne_noteInput tb_Ne_noteInput 4 p s m args c Z) (hret : RetI p l e { frames := 0, cells := 0, slots := 0, locals := 0 } s m args below meth c c_Ne_noteInput .boolean D Z Q (fun (u : (Nat → Nat → Int32)) => wC cy ad I u T L K F) P 0 0) :
    ∀ (A : Nat → Nat → Int32) (s0 : Int32) (ls : Array Slot) (H : Heap) (locs : List Loc), lv_has ls 4 [(0, .ref (ad 1)), (1, .int a1), (2, .int a2)] → HXw D Z s.heap H locs (wC cy ad I A T L K F) → g_Ne_noteInput_15 a1 a2 P  A s0 → W p l e { frames := 0, cells := 0, slots := 0, locals := 0 } s m args below meth c H locs 0 0 Q (F0 m 15 ls [.int s0]) := by
  intro A s0 ls H locs hl h hw
  refine i_istore_n (lv' := [(3, .int s0), (0, .ref (ad 1)), (1, .int a1), (2, .int a2)]) (n := 16) C 9 rfl rfl rfl hl (by decide) rfl (fun ls hl => ?_)
  refine i_aload_n (n := 17) C 10 rfl rfl rfl hl 1 rfl ?_
  refine fgC_Ne_44 (n := 20) C 11 rfl rfl h ?_
  refine i_iload_n (n := 21) C 12 rfl rfl rfl hl 2 rfl ?_
  refine i_iload_n (n := 22) C 13 rfl rfl rfl hl 3 rfl ?_
  obtain ⟨hb, hw⟩ := hw
  refine i_iast (n := 23) C 14 rfl rfl h (wC_arr 13 (by decide) rfl) hb (wC_sA 13 (by decide) rfl _ _) (fun H locs h => ?_)
  refine i_iload_n (n := 24) C 15 rfl rfl rfl hl 0 rfl ?_
  obtain ⟨hB, hw⟩ := hw
  exact hret _ (sA A 13 a1 a2) _ _ _ _ hB.nar hw h (C.dg (k := 16) rfl)
set_option maxHeartbeats 4000000 in
set_option maxRecDepth 100000 in
theorem m_Ne_noteInput {l : Launch} {D : va_G} {cy : Nat → ClassId} {ad : Nat → Nat} {I : Nat → Int32} {A : Nat → Nat → Int32} {T : Nat → Option Nat} {L : List Nat} {K : Nat → Nat} {F : Nat → Nat → Int32} {a1 : Int32} {a2 : Int32} {P : Int32 → ((Nat → Nat → Int32)) → Prop} (hw : g_Ne_noteInput A a1 a2 P) : ∀ sz, Met l y_Ne_noteInput (WL y_Ne_noteInput c_Ne_noteInput 4 (some .boolean)) { frames := 0, cells := 0, slots := 0, locals := 0 } (va_Pc [.ref (ad 1), .int a1, .int a2] (PreW D cy (wC cy ad I A T L K F) sz)) (va_Qi P (fun u t => PostW D (va_A (wC cy ad I A T L K F) sz) ((fun (u : (Nat → Nat → Int32)) => wC cy ad I u T L K F) u) t) (va_A (wC cy ad I A T L K F) sz)) 0 0 (va_A (wC cy ad I A T L K F) sz) := by
  refine met_i (wf := fun (u : (Nat → Nat → Int32)) => wC cy ad I u T L K F) R_Ne .boolean db_Ne_noteInput (by decide) rfl rfl (Nat.le_of_ble_eq_true rfl) ?_
  intro p e s m below meth c Z Q ls C h hl hret
  have hl : lv_has ls 4 [(0, .ref (ad 1)), (1, .int a1), (2, .int a2)] := hl
  refine i_aload_n (n := 1) C 0 rfl rfl rfl hl 0 rfl ?_
  refine fgC_Ne_44 (n := 4) C 1 rfl rfl h ?_
  refine i_iload_n (n := 5) C 2 rfl rfl rfl hl 1 rfl ?_
  obtain ⟨hb, hw⟩ := hw
  refine i_iald (n := 6) C 3 rfl rfl h (wC_arr 13 (by decide) rfl) hb ?_
  refine i_iload_n (n := 7) C 4 rfl rfl rfl hl 2 rfl ?_
  refine i_icmp_eq (tgt := 14) (n := 10) C 5 rfl rfl rfl (fun c1 => ?_) (fun c1 => ?_)
  · replace hw := hw.1 c1
    refine i_iconst (v := (0 : Int32)) (n := 15) C 8 rfl rfl rfl ?_
    exact e_Ne_noteInput_15 C hret  A (0 : Int32) ls _ _ hl h hw
  · replace hw := hw.2 c1
    refine i_iconst (v := (1 : Int32)) (n := 11) C 6 rfl rfl rfl ?_
    refine i_goto (tgt := 15) C 7 rfl rfl ?_
    exact e_Ne_noteInput_15 C hret  A (1 : Int32) ls _ _ hl h hw
end S77
section S78
variable {p : Program} {l : Launch} {e : Env} {R : Room} {s : State} {m : MethodId} {args : Array Value} {below : List Frame} {meth : Method} {c : Code} {H : Heap} {locs : List Loc} {cells slots : Nat} {Q : State → Prop}
variable {cc : ByteArray} {pc n nL : Nat} {ls : Array Slot} {rest : List Value} {D : va_G} {cy : Nat → ClassId} {Z : Nat → Prop} {ad : Nat → Nat} {tb : List (Nat × Instr × Nat)} {lv : List (Nat × Value)}
set_option maxHeartbeats 4000000 in
set_option maxRecDepth 100000 in
theorem e_Pi_openMains_45 {I : Nat → Int32} {A : Nat → Nat → Int32} {T : Nat → Option Nat} {L : List Nat} {K : Nat → Nat} {F : Nat → Nat → Int32} {a1 : Int32} {P : Int32 → Prop} {kb11 : Int32 → Int32 → Prop} (C : CX D cy R_Pi c_Pi_openMains tb_Pi_openMains 4 p s m args c Z) (h : HXw D Z s.heap H locs (wC cy ad I A T L K F)) (hret : RetP p l e { frames := 1, cells := 0, slots := 0, locals := 21 } s m args below meth c c_Pi_openMains .int H locs Q P)
    (hb11 : ∀ (x2 : Int32) (x3 : Int32) (ls : Array Slot), lv_has ls 4 [(0, .ref (ad 2)), (1, .int a1), (2, .int x2), (3, .int x3)] → kb11 x2 x3 → W p l e { frames := 1, cells := 0, slots := 0, locals := 21 } s m args below meth c H locs 0 0 Q (F0 m 11 ls [])) :
    ∀ (x2 : Int32) (x3 : Int32) (ls : Array Slot), lv_has ls 4 [(0, .ref (ad 2)), (1, .int a1), (2, .int x2), (3, .int x3)] → g_Pi_openMains_45 I A a1 P kb11 x2 x3 → W p l e { frames := 1, cells := 0, slots := 0, locals := 21 } s m args below meth c H locs 0 0 Q (F0 m 45 ls []) := by
  intro x2 x3 ls hl hw
  refine i_iinc (v := x3 + (1 : Int32)) (lv' := [(3, .int (x3 + (1 : Int32))), (0, .ref (ad 2)), (1, .int a1), (2, .int x2)]) (n := 48) C 31 rfl rfl hl 3 rfl rfl (by decide) rfl (fun ls hl => ?_)
  refine i_goto (tgt := 11) C 32 rfl rfl ?_
  exact hb11 x2 (x3 + (1 : Int32)) ls (lv_sub hl [1, 2, 3, 0] rfl) hw
set_option maxHeartbeats 4000000 in
set_option maxRecDepth 100000 in
theorem e_Pi_openMains_11 {I : Nat → Int32} {A : Nat → Nat → Int32} {T : Nat → Option Nat} {L : List Nat} {K : Nat → Nat} {F : Nat → Nat → Int32} {a1 : Int32} {P : Int32 → Prop} {kx11 : Int32 → Prop} (C : CX D cy R_Pi c_Pi_openMains tb_Pi_openMains 4 p s m args c Z) (h : HXw D Z s.heap H locs (wC cy ad I A T L K F)) (hret : RetP p l e { frames := 1, cells := 0, slots := 0, locals := 21 } s m args below meth c c_Pi_openMains .int H locs Q P)
    (hx11 : ∀ (x2 : Int32) (ls : Array Slot), lv_has ls 4 [(2, .int x2)] → kx11 x2 → W p l e { frames := 1, cells := 0, slots := 0, locals := 21 } s m args below meth c H locs 0 0 Q (F0 m 51 ls [])) :
    ∀ (n : Nat) (x2 : Int32) (x3 : Int32) (ls : Array Slot), lv_has ls 4 [(0, .ref (ad 2)), (1, .int a1), (2, .int x2), (3, .int x3)] → g_Pi_openMains_11 I A a1 P kx11 n x2 x3 → W p l e { frames := 1, cells := 0, slots := 0, locals := 21 } s m args below meth c H locs 0 0 Q (F0 m 11 ls []) := by
  intro n
  induction n with
  | zero => intro x2 x3 ls hl hw; exact hw.elim
  | succ n ih =>
    intro x2 x3 ls hl hw
    refine i_iload_n (n := 12) C 9 rfl rfl rfl hl 3 rfl ?_
    refine i_aload_n (n := 13) C 10 rfl rfl rfl hl 0 rfl ?_
    refine fgC_Pi_31 (n := 16) C 11 rfl rfl h ?_
    refine i_icmp_ge (tgt := 51) (n := 19) C 12 rfl rfl rfl (fun c2 => ?_) (fun c2 => ?_)
    · replace hw := hw.1 c2
      exact hx11 x2 ls (lv_sub hl [2] rfl) hw
    · replace hw := hw.2 c2
      refine i_aload_n (n := 20) C 13 rfl rfl rfl hl 0 rfl ?_
      refine fgC_Pi_45 (n := 23) C 14 rfl rfl h ?_
      refine i_iload_n (n := 24) C 15 rfl rfl rfl hl 1 rfl ?_
      refine i_ior (n := 25) C 16 rfl rfl ?_
      refine i_iload_n (n := 26) C 17 rfl rfl rfl hl 3 rfl ?_
      refine i_callSNp (rest := []) (n := 29) C 18 rfl rfl hl h (kSN_Pi_48 ⟨by decide, by decide⟩) (m_Pw_hasBit hw) rfl rfl (Nat.le_of_ble_eq_true rfl) ⟨by decide, by decide⟩ (fun r3 hw => ?_)
      refine i_if_eq (tgt := 45) (n := 32) C 19 rfl rfl rfl (fun c4 => ?_) (fun c4 => ?_)
      · replace hw := hw.1 c4
        exact e_Pi_openMains_45 C h hret ih x2 x3 ls hl hw
      · replace hw := hw.2 c4
        refine i_iload_n (n := 33) C 20 rfl rfl rfl hl 2 rfl ?_
        refine i_iconst (v := (1 : Int32)) (n := 34) C 21 rfl rfl rfl ?_
        refine i_aload_n (n := 35) C 22 rfl rfl rfl hl 0 rfl ?_
        refine fgC_Pi_21 (n := 38) C 23 rfl rfl h ?_
        refine i_iload_n (n := 39) C 24 rfl rfl rfl hl 3 rfl ?_
        obtain ⟨hb, hw⟩ := hw
        refine i_iald (n := 40) C 25 rfl rfl h (wC_arr 20 (by decide) rfl) hb ?_
        refine i_ishl (n := 41) C 26 rfl rfl ?_
        refine i_iconst (v := (-1 : Int32)) (n := 42) C 27 rfl rfl rfl ?_
        refine i_ixor (n := 43) C 28 rfl rfl ?_
        refine i_iand (n := 44) C 29 rfl rfl ?_
        refine lv_topi (fun y5 ey5 => ?_)
        replace hw := hw y5 ey5
        refine i_istore_n (lv' := [(2, .int y5), (0, .ref (ad 2)), (1, .int a1), (3, .int x3)]) (n := 45) C 30 rfl rfl rfl hl (by decide) rfl (fun ls hl => ?_)
        exact e_Pi_openMains_45 C h hret ih y5 x3 ls (lv_sub hl [1, 2, 0, 3] rfl) hw
set_option maxHeartbeats 4000000 in
set_option maxRecDepth 100000 in
theorem m_Pi_openMains {l : Launch} {D : va_G} {cy : Nat → ClassId} {ad : Nat → Nat} {I : Nat → Int32} {A : Nat → Nat → Int32} {T : Nat → Option Nat} {L : List Nat} {K : Nat → Nat} {F : Nat → Nat → Int32} {a1 : Int32} {P : Int32 → Prop} (hw : g_Pi_openMains I A a1 P) : ∀ sz, Met l y_Pi_openMains (WL y_Pi_openMains c_Pi_openMains 4 (some .int)) { frames := 1, cells := 0, slots := 0, locals := 21 } (va_Pc [.ref (ad 2), .int a1] (PreW D cy (wC cy ad I A T L K F) sz)) (vp_Si P) 0 0 (fun _ => False) := by
  refine met_p R_Pi .int db_Pi_openMains (by decide) rfl rfl (Nat.le_of_ble_eq_true rfl) ?_
  intro p e s m below meth c Z Q ls C h hl hret
  have hl : lv_has ls 4 [(0, .ref (ad 2)), (1, .int a1)] := hl
  refine i_iconst (v := (1 : Int32)) (n := 1) C 0 rfl rfl rfl ?_
  refine i_aload_n (n := 2) C 1 rfl rfl rfl hl 0 rfl ?_
  refine fgC_Pi_27 (n := 5) C 2 rfl rfl h ?_
  refine i_ishl (n := 6) C 3 rfl rfl ?_
  refine i_iconst (v := (1 : Int32)) (n := 7) C 4 rfl rfl rfl ?_
  refine i_isub (n := 8) C 5 rfl rfl ?_
  refine lv_topi (fun y1 ey1 => ?_)
  replace hw := hw y1 ey1
  refine i_istore_n (lv' := [(2, .int y1), (0, .ref (ad 2)), (1, .int a1)]) (n := 9) C 6 rfl rfl rfl hl (by decide) rfl (fun ls hl => ?_)
  refine i_iconst (v := (0 : Int32)) (n := 10) C 7 rfl rfl rfl ?_
  refine i_istore_n (lv' := [(3, .int (0 : Int32)), (2, .int y1), (0, .ref (ad 2)), (1, .int a1)]) (n := 11) C 8 rfl rfl rfl hl (by decide) rfl (fun ls hl => ?_)
  obtain ⟨n6, hw⟩ := hw
  refine e_Pi_openMains_11 C h hret (fun x2_6 ls hl hw => ?_) n6 y1 (0 : Int32) ls (lv_sub hl [2, 3, 1, 0] rfl) hw
  have hl : lv_has ls 4 [(2, .int x2_6)] := hl
  refine i_iload_n (n := 52) C 33 rfl rfl rfl hl 0 rfl ?_
  exact hret _ _ _ rfl hw (C.dg (k := 34) rfl)
end S78
section S79
variable {p : Program} {l : Launch} {e : Env} {R : Room} {s : State} {m : MethodId} {args : Array Value} {below : List Frame} {meth : Method} {c : Code} {H : Heap} {locs : List Loc} {cells slots : Nat} {Q : State → Prop}
variable {cc : ByteArray} {pc n nL : Nat} {ls : Array Slot} {rest : List Value} {D : va_G} {cy : Nat → ClassId} {Z : Nat → Prop} {ad : Nat → Nat} {tb : List (Nat × Instr × Nat)} {lv : List (Nat × Value)}
set_option maxHeartbeats 4000000 in
set_option maxRecDepth 100000 in
theorem m_Th_weight {l : Launch} {D : va_G} {cy : Nat → ClassId}    {b : Nat} {w : va_W} {P : Int32 → Prop} (hw : g_Th_weight  P) : ∀ sz, Met l y_Th_weight (WL y_Th_weight c_Th_weight 1 (some .int)) { frames := 0, cells := 0, slots := 0, locals := 0 } (va_Pc [.ref b] (PreW D cy (w) sz)) (vp_Si P) 0 0 (fun _ => False) := by
  refine met_p R_Th .int db_Th_weight (by decide) rfl rfl (Nat.le_of_ble_eq_true rfl) ?_
  intro p e s m below meth c Z Q ls C h hl hret
  have hl : lv_has ls 1 [(0, .ref b)] := hl
  refine i_iconst (v := (0 : Int32)) (n := 1) C 0 rfl rfl rfl ?_
  exact hret _ _ _ rfl hw (C.dg (k := 1) rfl)
end S79
section S80
variable {p : Program} {l : Launch} {e : Env} {R : Room} {s : State} {m : MethodId} {args : Array Value} {below : List Frame} {meth : Method} {c : Code} {H : Heap} {locs : List Loc} {cells slots : Nat} {Q : State → Prop}
variable {cc : ByteArray} {pc n nL : Nat} {ls : Array Slot} {rest : List Value} {D : va_G} {cy : Nat → ClassId} {Z : Nat → Prop} {ad : Nat → Nat} {tb : List (Nat × Instr × Nat)} {lv : List (Nat × Value)}
set_option maxHeartbeats 4000000 in
set_option maxRecDepth 100000 in
theorem m_To_weight_Ho {l : Launch} {D : va_G} {cy : Nat → ClassId} {ad : Nat → Nat} {I : Nat → Int32} {A : Nat → Nat → Int32} {T : Nat → Option Nat} {L : List Nat} {K : Nat → Nat} {F : Nat → Nat → Int32} {b : Nat} {P : Int32 → Prop} (hbq : b ∈ L) (hbk : K b = 2) (hw : g_To_weight_Ho F b P) : ∀ sz, Met l y_To_weight (WL y_To_weight c_To_weight 1 (some .int)) { frames := 0, cells := 0, slots := 0, locals := 0 } (va_Pc [.ref b] (PreW D cy (wC cy ad I A T L K F) sz)) (vp_Si P) 0 0 (fun _ => False) := by
  refine met_p R_To .int db_To_weight (by decide) rfl rfl (Nat.le_of_ble_eq_true rfl) ?_
  intro p e s m below meth c Z Q ls C h hl hret
  have hl : lv_has ls 1 [(0, .ref b)] := hl
  refine i_aload_n (n := 1) C 0 rfl rfl rfl hl 0 rfl ?_
  refine tg_To_7_Ho (n := 4) C 1 rfl rfl h hbq hbk ?_
  exact hret _ _ _ rfl hw (C.dg (k := 2) rfl)
end S80
section S81
variable {p : Program} {l : Launch} {e : Env} {R : Room} {s : State} {m : MethodId} {args : Array Value} {below : List Frame} {meth : Method} {c : Code} {H : Heap} {locs : List Loc} {cells slots : Nat} {Q : State → Prop}
variable {cc : ByteArray} {pc n nL : Nat} {ls : Array Slot} {rest : List Value} {D : va_G} {cy : Nat → ClassId} {Z : Nat → Prop} {ad : Nat → Nat} {tb : List (Nat × Instr × Nat)} {lv : List (Nat × Value)}
set_option maxHeartbeats 4000000 in
set_option maxRecDepth 100000 in
theorem m_To_weight_To {l : Launch} {D : va_G} {cy : Nat → ClassId} {ad : Nat → Nat} {I : Nat → Int32} {A : Nat → Nat → Int32} {T : Nat → Option Nat} {L : List Nat} {K : Nat → Nat} {F : Nat → Nat → Int32} {b : Nat} {P : Int32 → Prop} (hbq : b ∈ L) (hbk : K b = 9) (hw : g_To_weight_To F b P) : ∀ sz, Met l y_To_weight (WL y_To_weight c_To_weight 1 (some .int)) { frames := 0, cells := 0, slots := 0, locals := 0 } (va_Pc [.ref b] (PreW D cy (wC cy ad I A T L K F) sz)) (vp_Si P) 0 0 (fun _ => False) := by
  refine met_p R_To .int db_To_weight (by decide) rfl rfl (Nat.le_of_ble_eq_true rfl) ?_
  intro p e s m below meth c Z Q ls C h hl hret
  have hl : lv_has ls 1 [(0, .ref b)] := hl
  refine i_aload_n (n := 1) C 0 rfl rfl rfl hl 0 rfl ?_
  refine tg_To_7_To (n := 4) C 1 rfl rfl h hbq hbk ?_
  exact hret _ _ _ rfl hw (C.dg (k := 2) rfl)
end S81
theorem kU_Ne_131_Br {R : Room} {s : State} {args : Array Value} (hR : 0 + 1 ≤ R.frames ∧ 8 + (1 + 11) + 0 ≤ R.locals) (ht : ∀ w ∈ GW, w.before args s = true) (hN : NX s) : va_CU R s args R_Ne R_Br "PipeWorks$Thing" 131 ⟨"PipeWorks$Thing", "weight", "()I"⟩ y_Th_weight c_Th_weight 1 (some .int) (WL y_Th_weight c_Th_weight 1 (some .int)) { frames := 0, cells := 0, slots := 0, locals := 0 } 0 0 0 := va_cwU (x := ⟨"PipeWorks$Thing", "weight", "()I"⟩) 0 ht (GW_u (x := ⟨"PipeWorks$Thing", "weight", "()I"⟩) w_3_168 w_3_170 w_3_171 w_3_169 w_1_8 (GW_wl w_3_179)) rfl rfl rfl rfl (by decide +kernel) hR
theorem kU_Ne_131_Dr {R : Room} {s : State} {args : Array Value} (hR : 0 + 1 ≤ R.frames ∧ 8 + (1 + 11) + 0 ≤ R.locals) (ht : ∀ w ∈ GW, w.before args s = true) (hN : NX s) : va_CU R s args R_Ne R_Dr "PipeWorks$Thing" 131 ⟨"PipeWorks$Thing", "weight", "()I"⟩ y_Th_weight c_Th_weight 1 (some .int) (WL y_Th_weight c_Th_weight 1 (some .int)) { frames := 0, cells := 0, slots := 0, locals := 0 } 0 0 0 := va_cwU (x := ⟨"PipeWorks$Thing", "weight", "()I"⟩) 0 ht (GW_u (x := ⟨"PipeWorks$Thing", "weight", "()I"⟩) w_3_168 w_3_170 w_3_172 w_3_169 w_1_8 (GW_wl w_3_179)) rfl rfl rfl rfl (by decide +kernel) hR
theorem kU_Ne_131_Ho {R : Room} {s : State} {args : Array Value} (hR : 0 + 1 ≤ R.frames ∧ 8 + (1 + 11) + 0 ≤ R.locals) (ht : ∀ w ∈ GW, w.before args s = true) (hN : NX s) : va_CU R s args R_Ne R_Ho "PipeWorks$Thing" 131 ⟨"PipeWorks$Thing", "weight", "()I"⟩ y_To_weight c_To_weight 1 (some .int) (WL y_To_weight c_To_weight 1 (some .int)) { frames := 0, cells := 0, slots := 0, locals := 0 } 0 0 0 := va_cwO (x := ⟨"PipeWorks$Thing", "weight", "()I"⟩) 0 ht (GW_o (x := ⟨"PipeWorks$Thing", "weight", "()I"⟩) w_3_168 w_3_170 w_3_169 w_3_173 w_3_174 w_1_12 (GW_wl w_3_175)) rfl rfl rfl w_3_179 (by decide +kernel) hR
theorem kU_Ne_131_Le {R : Room} {s : State} {args : Array Value} (hR : 0 + 1 ≤ R.frames ∧ 8 + (1 + 11) + 0 ≤ R.locals) (ht : ∀ w ∈ GW, w.before args s = true) (hN : NX s) : va_CU R s args R_Ne R_Le "PipeWorks$Thing" 131 ⟨"PipeWorks$Thing", "weight", "()I"⟩ y_Th_weight c_Th_weight 1 (some .int) (WL y_Th_weight c_Th_weight 1 (some .int)) { frames := 0, cells := 0, slots := 0, locals := 0 } 0 0 0 := va_cwU (x := ⟨"PipeWorks$Thing", "weight", "()I"⟩) 0 ht (GW_u (x := ⟨"PipeWorks$Thing", "weight", "()I"⟩) w_3_168 w_3_170 w_3_176 w_3_169 w_1_8 (GW_wl w_3_179)) rfl rfl rfl rfl (by decide +kernel) hR
theorem kU_Ne_131_Li {R : Room} {s : State} {args : Array Value} (hR : 0 + 1 ≤ R.frames ∧ 8 + (1 + 11) + 0 ≤ R.locals) (ht : ∀ w ∈ GW, w.before args s = true) (hN : NX s) : va_CU R s args R_Ne R_Li "PipeWorks$Thing" 131 ⟨"PipeWorks$Thing", "weight", "()I"⟩ y_Th_weight c_Th_weight 1 (some .int) (WL y_Th_weight c_Th_weight 1 (some .int)) { frames := 0, cells := 0, slots := 0, locals := 0 } 0 0 0 := va_cwU (x := ⟨"PipeWorks$Thing", "weight", "()I"⟩) 0 ht (GW_u (x := ⟨"PipeWorks$Thing", "weight", "()I"⟩) w_3_168 w_3_170 w_3_177 w_3_169 w_1_8 (GW_wl w_3_179)) rfl rfl rfl rfl (by decide +kernel) hR
theorem kU_Ne_131_To {R : Room} {s : State} {args : Array Value} (hR : 0 + 1 ≤ R.frames ∧ 8 + (1 + 11) + 0 ≤ R.locals) (ht : ∀ w ∈ GW, w.before args s = true) (hN : NX s) : va_CU R s args R_Ne R_To "PipeWorks$Thing" 131 ⟨"PipeWorks$Thing", "weight", "()I"⟩ y_To_weight c_To_weight 1 (some .int) (WL y_To_weight c_To_weight 1 (some .int)) { frames := 0, cells := 0, slots := 0, locals := 0 } 0 0 0 := va_cwO (x := ⟨"PipeWorks$Thing", "weight", "()I"⟩) 0 ht (GW_o (x := ⟨"PipeWorks$Thing", "weight", "()I"⟩) w_3_168 w_3_170 w_3_169 w_3_178 w_3_174 w_1_12 (GW_wl w_3_175)) rfl rfl rfl w_3_179 (by decide +kernel) hR
section S82
variable {p : Program} {l : Launch} {e : Env} {R : Room} {s : State} {m : MethodId} {args : Array Value} {below : List Frame} {meth : Method} {c : Code} {H : Heap} {locs : List Loc} {cells slots : Nat} {Q : State → Prop}
variable {cc : ByteArray} {pc n nL : Nat} {ls : Array Slot} {rest : List Value} {D : va_G} {cy : Nat → ClassId} {Z : Nat → Prop} {ad : Nat → Nat} {tb : List (Nat × Instr × Nat)} {lv : List (Nat × Value)}
section G82
variable {I : Nat → Int32} {A : Nat → Nat → Int32} {T : Nat → Option Nat} {L : List Nat} {K : Nat → Nat} {F : Nat → Nat → Int32}
set_option maxHeartbeats 4000000 in
set_option maxRecDepth 100000 in
theorem gdc_Ne_131 {q : Nat}  {P : Int32 → Prop} (C : CX D cy R_Ne cc tb nL p s m args c Z) (k : Nat) (hk : tb[k]? = some (pc, .invokevirtual 131, 3)) (hn : pc + 3 = n) (hl : lv_has ls nL lv) (h : HXw D Z s.heap H locs (wC cy ad I A T L K F)) (hw : gd_weight L K F q  P) (hfr : 1 ≤ R.frames) (hlo : 20 ≤ R.locals) (hs : (rest.map fun v => v.category).sum ≤ 8) (hc : cells ≤ R.cells ∧ slots ≤ R.slots) (kk : ∀ r : Int32, P r → W p l e R s m args below meth c H locs cells slots Q (F0 m n ls (.int r :: rest))) : W p l e R s m args below meth c H locs cells slots Q (F0 m pc ls (.ref q :: rest)) := by
  obtain ⟨hq, hw⟩ := hw
  rcases hw with ⟨hk0, hw⟩ | ⟨hk0, hw⟩ | ⟨hk0, hw⟩ | ⟨hk0, hw⟩ | ⟨hk0, hw⟩ | ⟨hk0, hw⟩
  · obtain ⟨q0, he, -⟩ := wC_th (cy := cy) (ad := ad) (I := I) (A := A) (T := T) (F := F) hq hk0
    exact i_callUp (rest := rest) (ci := 0) (qc := (R_Br, T_Br, 6)) C k hk hn hl h rfl he (kU_Ne_131_Br ⟨by omega, by omega⟩) (m_Th_weight hw) rfl rfl hs hc kk
  · obtain ⟨q0, he, -⟩ := wC_th (cy := cy) (ad := ad) (I := I) (A := A) (T := T) (F := F) hq hk0
    exact i_callUp (rest := rest) (ci := 1) (qc := (R_Dr, T_Dr, 3)) C k hk hn hl h rfl he (kU_Ne_131_Dr ⟨by omega, by omega⟩) (m_Th_weight hw) rfl rfl hs hc kk
  · obtain ⟨q0, he, -⟩ := wC_th (cy := cy) (ad := ad) (I := I) (A := A) (T := T) (F := F) hq hk0
    exact i_callUp (rest := rest) (ci := 2) (qc := (R_Ho, T_Ho, 7)) C k hk hn hl h rfl he (kU_Ne_131_Ho ⟨by omega, by omega⟩) (m_To_weight_Ho hq hk0 hw) rfl rfl hs hc kk
  · obtain ⟨q0, he, -⟩ := wC_th (cy := cy) (ad := ad) (I := I) (A := A) (T := T) (F := F) hq hk0
    exact i_callUp (rest := rest) (ci := 3) (qc := (R_Le, T_Le, 3)) C k hk hn hl h rfl he (kU_Ne_131_Le ⟨by omega, by omega⟩) (m_Th_weight hw) rfl rfl hs hc kk
  · obtain ⟨q0, he, -⟩ := wC_th (cy := cy) (ad := ad) (I := I) (A := A) (T := T) (F := F) hq hk0
    exact i_callUp (rest := rest) (ci := 4) (qc := (R_Li, T_Li, 4)) C k hk hn hl h rfl he (kU_Ne_131_Li ⟨by omega, by omega⟩) (m_Th_weight hw) rfl rfl hs hc kk
  · obtain ⟨q0, he, -⟩ := wC_th (cy := cy) (ad := ad) (I := I) (A := A) (T := T) (F := F) hq hk0
    exact i_callUp (rest := rest) (ci := 9) (qc := (R_To, T_To, 3)) C k hk hn hl h rfl he (kU_Ne_131_To ⟨by omega, by omega⟩) (m_To_weight_To hq hk0 hw) rfl rfl hs hc kk
end G82
set_option maxHeartbeats 4000000 in
set_option maxRecDepth 100000 in
theorem m_Ne_inputOf {l : Launch} {D : va_G} {cy : Nat → ClassId} {ad : Nat → Nat} {I : Nat → Int32} {A : Nat → Nat → Int32} {T : Nat → Option Nat} {L : List Nat} {K : Nat → Nat} {F : Nat → Nat → Int32} {a1 : Int32} {a2 : Int32} {P : Int32 → Prop} (hw : g_Ne_inputOf T L K F a1 a2 P) : ∀ sz, Met l y_Ne_inputOf (WL y_Ne_inputOf c_Ne_inputOf 4 (some .int)) { frames := 2, cells := 0, slots := 0, locals := 45 } (va_Pc [.ref (ad 1), .int a1, .int a2] (PreW D cy (wC cy ad I A T L K F) sz)) (vp_Si P) 0 0 (fun _ => False) := by
  refine met_p R_Ne .int db_Ne_inputOf (by decide) rfl rfl (Nat.le_of_ble_eq_true rfl) ?_
  intro p e s m below meth c Z Q ls C h hl hret
  have hl : lv_has ls 4 [(0, .ref (ad 1)), (1, .int a1), (2, .int a2)] := hl
  refine i_aload_n (n := 1) C 0 rfl rfl rfl hl 0 rfl ?_
  refine fgC_Ne_30 (n := 4) C 1 rfl rfl h ?_
  refine i_iload_n (n := 5) C 2 rfl rfl rfl hl 1 rfl ?_
  obtain ⟨hb, hw⟩ := hw
  refine i_aldq (n := 6) C 3 rfl rfl h (wC_get (h := 5) (by decide)) hb (fun c2 => ?_) (fun q1 c2 => ?_)
  · replace hw := hw.1 c2
    refine i_astore_nN (lv' := [(3, .null), (0, .ref (ad 1)), (1, .int a1), (2, .int a2)]) (n := 7) C 4 rfl rfl rfl hl (by decide) rfl (fun ls hl => ?_)
    refine i_aload_nN (n := 8) C 5 rfl rfl rfl hl 0 rfl ?_
    refine i_ifnonnullN (n := 11) C 6 rfl rfl ?_
    refine i_iconst (v := (0 : Int32)) (n := 12) C 7 rfl rfl rfl ?_
    exact hret _ _ _ rfl hw (C.dg (k := 8) rfl)
  · replace hw := hw.2 q1 c2
    refine i_astore_n (lv' := [(3, .ref q1), (0, .ref (ad 1)), (1, .int a1), (2, .int a2)]) (n := 7) C 4 rfl rfl rfl hl (by decide) rfl (fun ls hl => ?_)
    refine i_aload_n (n := 8) C 5 rfl rfl rfl hl 0 rfl ?_
    refine i_ifnonnull (tgt := 13) C 6 rfl rfl ?_
    refine i_aload_n (n := 14) C 9 rfl rfl rfl hl 0 rfl ?_
    refine i_iload_n (n := 15) C 10 rfl rfl rfl hl 3 rfl ?_
    refine gdc_Ne_72 (rest := []) (n := 18) C 11 rfl rfl hl h hw (by decide) (by decide) (Nat.le_of_ble_eq_true rfl) ⟨by decide, by decide⟩ (fun r3 hw => ?_)
    refine i_if_eq (tgt := 30) (n := 21) C 12 rfl rfl rfl (fun c4 => ?_) (fun c4 => ?_)
    · replace hw := hw.1 c4
      refine i_aload_n (n := 31) C 18 rfl rfl rfl hl 0 rfl ?_
      refine i_iload_n (n := 32) C 19 rfl rfl rfl hl 3 rfl ?_
      refine i_sipush (v := (1000 : Int32)) (n := 35) C 20 rfl rfl rfl ?_
      refine gdc_Ne_68 (rest := []) (n := 38) C 21 rfl rfl hl h hw (by decide) (by decide) (Nat.le_of_ble_eq_true rfl) ⟨by decide, by decide⟩ (fun r5 hw => ?_)
      refine i_bipush (v := (8 : Int32)) (n := 40) C 22 rfl rfl rfl ?_
      refine i_imul (n := 41) C 23 rfl rfl ?_
      refine i_aload_n (n := 42) C 24 rfl rfl rfl hl 0 rfl ?_
      refine gdc_Ne_60 (rest := [.int (r5 * (8 : Int32))]) (n := 45) C 25 rfl rfl hl h hw (by decide) (by decide) (Nat.le_of_ble_eq_true rfl) ⟨by decide, by decide⟩ (fun r6 hw => ?_)
      refine i_iadd (n := 46) C 26 rfl rfl ?_
      exact hret _ _ _ rfl hw (C.dg (k := 27) rfl)
    · replace hw := hw.2 c4
      refine i_iconst (v := (-1 : Int32)) (n := 22) C 13 rfl rfl rfl ?_
      refine i_aload_n (n := 23) C 14 rfl rfl rfl hl 0 rfl ?_
      refine gdc_Ne_131 (rest := [.int (-1 : Int32)]) (n := 26) C 15 rfl rfl hl h hw (by decide) (by decide) (Nat.le_of_ble_eq_true rfl) ⟨by decide, by decide⟩ (fun r7 hw => ?_)
      refine i_isub (n := 27) C 16 rfl rfl ?_
      refine i_goto (tgt := 46) C 17 rfl rfl ?_
      exact hret _ _ _ rfl hw (C.dg (k := 27) rfl)
end S82
theorem kV_Ne_119 {R : Room} {s : State} {args : Array Value} (hR : 0 + 1 ≤ R.frames ∧ 8 + (4 + 11) + 0 ≤ R.locals) (ht : ∀ w ∈ GW, w.before args s = true) : CallW R s args R_Ne R_Ne 119 y_Ne_noteInput c_Ne_noteInput 4 (some .boolean) (WL y_Ne_noteInput c_Ne_noteInput 4 (some .boolean)) { frames := 0, cells := 0, slots := 0, locals := 0 } 0 0 2 := cwV 2 ht (GW_v w_3_156 w_3_158 w_0_3 w_1_2 (GW_wl w_3_159)) rfl rfl rfl (by decide +kernel) hR
theorem kV_Ne_122 {R : Room} {s : State} {args : Array Value} (hR : 1 + 1 ≤ R.frames ∧ 8 + (4 + 11) + 21 ≤ R.locals) (ht : ∀ w ∈ GW, w.before args s = true) : CallW R s args R_Ne R_Pi 122 y_Pi_openMains c_Pi_openMains 4 (some .int) (WL y_Pi_openMains c_Pi_openMains 4 (some .int)) { frames := 1, cells := 0, slots := 0, locals := 21 } 0 0 1 := cwV 1 ht (GW_v w_3_160 w_3_161 w_3_162 w_1_3 (GW_wl w_3_163)) rfl rfl rfl (by decide +kernel) hR
theorem kV_Ne_128 {R : Room} {s : State} {args : Array Value} (hR : 2 + 1 ≤ R.frames ∧ 8 + (4 + 11) + 45 ≤ R.locals) (ht : ∀ w ∈ GW, w.before args s = true) : CallW R s args R_Ne R_Ne 128 y_Ne_inputOf c_Ne_inputOf 4 (some .int) (WL y_Ne_inputOf c_Ne_inputOf 4 (some .int)) { frames := 2, cells := 0, slots := 0, locals := 45 } 0 0 2 := cwV 2 ht (GW_v w_3_164 w_3_166 w_0_4 w_1_2 (GW_wl w_3_167)) rfl rfl rfl (by decide +kernel) hR
section S83
variable {p : Program} {l : Launch} {e : Env} {R : Room} {s : State} {m : MethodId} {args : Array Value} {below : List Frame} {meth : Method} {c : Code} {H : Heap} {locs : List Loc} {cells slots : Nat} {Q : State → Prop}
variable {cc : ByteArray} {pc n nL : Nat} {ls : Array Slot} {rest : List Value} {D : va_G} {cy : Nat → ClassId} {Z : Nat → Prop} {ad : Nat → Nat} {tb : List (Nat × Instr × Nat)} {lv : List (Nat × Value)}
set_option maxHeartbeats 4000000 in
set_option maxRecDepth 100000 in
theorem e_Ne_noteInputs_43 {I : Nat → Int32} {T : Nat → Option Nat} {L : List Nat} {K : Nat → Nat} {F : Nat → Nat → Int32} {a1 : Int32} {P : Int32 → ((Nat → Nat → Int32)) → Prop} {kx43 : (Nat → Nat → Int32) → Int32 → Prop} (C : CX D cy R_Ne c_Ne_noteInputs tb_Ne_noteInputs 4 p s m args c Z) (hret : RetI p l e { frames := 3, cells := 0, slots := 0, locals := 68 } s m args below meth c c_Ne_noteInputs .boolean D Z Q (fun (u : (Nat → Nat → Int32)) => wC cy ad I u T L K F) P 0 0)
    (hx43 : ∀ (A : Nat → Nat → Int32) (x2 : Int32) (ls : Array Slot) (H : Heap) (locs : List Loc), lv_has ls 4 [(2, .int x2)] → HXw D Z s.heap H locs (wC cy ad I A T L K F) → kx43 A x2 → W p l e { frames := 3, cells := 0, slots := 0, locals := 68 } s m args below meth c H locs 0 0 Q (F0 m 71 ls [])) :
    ∀ (n : Nat) (A : Nat → Nat → Int32) (x2 : Int32) (x3 : Int32) (ls : Array Slot) (H : Heap) (locs : List Loc), lv_has ls 4 [(0, .ref (ad 1)), (1, .int a1), (2, .int x2), (3, .int x3)] → HXw D Z s.heap H locs (wC cy ad I A T L K F) → g_Ne_noteInputs_43 I T L K F a1 P kx43 n A x2 x3 → W p l e { frames := 3, cells := 0, slots := 0, locals := 68 } s m args below meth c H locs 0 0 Q (F0 m 43 ls []) := by
  intro n
  induction n with
  | zero => intro A x2 x3 ls H locs hl h hw; exact hw.elim
  | succ n ih =>
    intro A x2 x3 ls H locs hl h hw
    refine i_iload_n (n := 44) C 26 rfl rfl rfl hl 3 rfl ?_
    refine i_aload_n (n := 45) C 27 rfl rfl rfl hl 0 rfl ?_
    refine fgC_Ne_56 (n := 48) C 28 rfl rfl h ?_
    refine i_icmp_ge (tgt := 71) (n := 51) C 29 rfl rfl rfl (fun c10 => ?_) (fun c10 => ?_)
    · replace hw := hw.1 c10
      exact hx43 A x2 ls _ _ (lv_sub hl [2] rfl) h hw
    · replace hw := hw.2 c10
      refine i_iload_n (n := 52) C 30 rfl rfl rfl hl 2 rfl ?_
      refine i_aload_n (n := 53) C 31 rfl rfl rfl hl 0 rfl ?_
      refine i_iload_n (n := 54) C 32 rfl rfl rfl hl 3 rfl ?_
      refine i_aload_n (n := 55) C 33 rfl rfl rfl hl 0 rfl ?_
      refine i_iload_n (n := 56) C 34 rfl rfl rfl hl 3 rfl ?_
      refine i_iload_n (n := 57) C 35 rfl rfl rfl hl 1 rfl ?_
      refine i_callVp (rest := [.int x3, .ref (ad 1), .int x2]) (ci := 5) (qc := (R_Ne, T_Ne, 17)) (n := 60) C 36 rfl rfl hl h rfl (wC_get (h := 1) (by decide)) (kV_Ne_128 ⟨by decide, by decide⟩) (m_Ne_inputOf hw) rfl rfl (Nat.le_of_ble_eq_true rfl) ⟨by decide, by decide⟩ (fun r11 hw => ?_)
      refine i_callVi (rest := [.int x2]) (ci := 5) (qc := (R_Ne, T_Ne, 17)) (n := 63) C 37 rfl rfl hl h rfl (wC_get (h := 1) (by decide)) (kV_Ne_119 ⟨by decide, by decide⟩) (m_Ne_noteInput hw) rfl rfl (Nat.le_of_ble_eq_true rfl) ⟨by decide, by decide⟩ (fun r12 u13 H locs hw h => ?_)
      refine i_ior (n := 64) C 38 rfl rfl ?_
      refine lv_topi (fun y14 ey14 => ?_)
      replace hw := hw y14 ey14
      refine i_istore_n (lv' := [(2, .int y14), (0, .ref (ad 1)), (1, .int a1), (3, .int x3)]) (n := 65) C 39 rfl rfl rfl hl (by decide) rfl (fun ls hl => ?_)
      refine i_iinc (v := x3 + (1 : Int32)) (lv' := [(3, .int (x3 + (1 : Int32))), (2, .int y14), (0, .ref (ad 1)), (1, .int a1)]) (n := 68) C 40 rfl rfl hl 3 rfl rfl (by decide) rfl (fun ls hl => ?_)
      refine i_goto (tgt := 43) C 41 rfl rfl ?_
      exact ih u13 y14 (x3 + (1 : Int32)) ls _ _ (lv_sub hl [2, 3, 1, 0] rfl) h hw
set_option maxHeartbeats 4000000 in
set_option maxRecDepth 100000 in
theorem m_Ne_noteInputs {l : Launch} {D : va_G} {cy : Nat → ClassId} {ad : Nat → Nat} {I : Nat → Int32} {A : Nat → Nat → Int32} {T : Nat → Option Nat} {L : List Nat} {K : Nat → Nat} {F : Nat → Nat → Int32} {a1 : Int32} {P : Int32 → ((Nat → Nat → Int32)) → Prop} (hw : g_Ne_noteInputs I A T L K F a1 P) : ∀ sz, Met l y_Ne_noteInputs (WL y_Ne_noteInputs c_Ne_noteInputs 4 (some .boolean)) { frames := 3, cells := 0, slots := 0, locals := 68 } (va_Pc [.ref (ad 1), .int a1] (PreW D cy (wC cy ad I A T L K F) sz)) (va_Qi P (fun u t => PostW D (va_A (wC cy ad I A T L K F) sz) ((fun (u : (Nat → Nat → Int32)) => wC cy ad I u T L K F) u) t) (va_A (wC cy ad I A T L K F) sz)) 0 0 (va_A (wC cy ad I A T L K F) sz) := by
  refine met_i (wf := fun (u : (Nat → Nat → Int32)) => wC cy ad I u T L K F) R_Ne .boolean db_Ne_noteInputs (by decide) rfl rfl (Nat.le_of_ble_eq_true rfl) ?_
  intro p e s m below meth c Z Q ls C h hl hret
  have hl : lv_has ls 4 [(0, .ref (ad 1)), (1, .int a1)] := hl
  refine i_aload_n (n := 1) C 0 rfl rfl rfl hl 0 rfl ?_
  refine i_bipush (v := (12 : Int32)) (n := 3) C 1 rfl rfl rfl ?_
  refine i_aload_n (n := 4) C 2 rfl rfl rfl hl 0 rfl ?_
  refine fgC_Ne_56 (n := 7) C 3 rfl rfl h ?_
  refine i_callVi (rest := []) (ci := 5) (qc := (R_Ne, T_Ne, 17)) (n := 10) C 4 rfl rfl hl h rfl (wC_get (h := 1) (by decide)) (kV_Ne_119 ⟨by decide, by decide⟩) (m_Ne_noteInput hw) rfl rfl (Nat.le_of_ble_eq_true rfl) ⟨by decide, by decide⟩ (fun r1 u2 H locs hw h => ?_)
  refine i_istore_n (lv' := [(2, .int r1), (0, .ref (ad 1)), (1, .int a1)]) (n := 11) C 5 rfl rfl rfl hl (by decide) rfl (fun ls hl => ?_)
  refine i_iload_n (n := 12) C 6 rfl rfl rfl hl 0 rfl ?_
  refine i_aload_n (n := 13) C 7 rfl rfl rfl hl 1 rfl ?_
  refine i_bipush (v := (13 : Int32)) (n := 15) C 8 rfl rfl rfl ?_
  refine i_aload_n (n := 16) C 9 rfl rfl rfl hl 1 rfl ?_
  refine fgC_Ne_12 (n := 19) C 10 rfl rfl h ?_
  refine i_iconst (v := (0 : Int32)) (n := 20) C 11 rfl rfl rfl ?_
  refine i_callVp (rest := [.int (13 : Int32), .ref (ad 1), .int r1]) (ci := 7) (qc := (R_Pi, T_Pi, 8)) (n := 23) C 12 rfl rfl hl h rfl (wC_get (h := 2) (by decide)) (kV_Ne_122 ⟨by decide, by decide⟩) (m_Pi_openMains hw) rfl rfl (Nat.le_of_ble_eq_true rfl) ⟨by decide, by decide⟩ (fun r3 hw => ?_)
  refine i_callVi (rest := [.int r1]) (ci := 5) (qc := (R_Ne, T_Ne, 17)) (n := 26) C 13 rfl rfl hl h rfl (wC_get (h := 1) (by decide)) (kV_Ne_119 ⟨by decide, by decide⟩) (m_Ne_noteInput hw) rfl rfl (Nat.le_of_ble_eq_true rfl) ⟨by decide, by decide⟩ (fun r4 u5 H locs hw h => ?_)
  refine i_ior (n := 27) C 14 rfl rfl ?_
  refine lv_topi (fun y6 ey6 => ?_)
  replace hw := hw y6 ey6
  refine i_istore_n (lv' := [(2, .int y6), (0, .ref (ad 1)), (1, .int a1)]) (n := 28) C 15 rfl rfl rfl hl (by decide) rfl (fun ls hl => ?_)
  refine i_iload_n (n := 29) C 16 rfl rfl rfl hl 0 rfl ?_
  refine i_aload_n (n := 30) C 17 rfl rfl rfl hl 1 rfl ?_
  refine i_bipush (v := (14 : Int32)) (n := 32) C 18 rfl rfl rfl ?_
  refine i_aload_n (n := 33) C 19 rfl rfl rfl hl 1 rfl ?_
  refine fgC_Ne_125 (n := 36) C 20 rfl rfl h ?_
  refine i_callVi (rest := [.int y6]) (ci := 5) (qc := (R_Ne, T_Ne, 17)) (n := 39) C 21 rfl rfl hl h rfl (wC_get (h := 1) (by decide)) (kV_Ne_119 ⟨by decide, by decide⟩) (m_Ne_noteInput hw) rfl rfl (Nat.le_of_ble_eq_true rfl) ⟨by decide, by decide⟩ (fun r7 u8 H locs hw h => ?_)
  refine i_ior (n := 40) C 22 rfl rfl ?_
  refine lv_topi (fun y9 ey9 => ?_)
  replace hw := hw y9 ey9
  refine i_istore_n (lv' := [(2, .int y9), (0, .ref (ad 1)), (1, .int a1)]) (n := 41) C 23 rfl rfl rfl hl (by decide) rfl (fun ls hl => ?_)
  refine i_iconst (v := (0 : Int32)) (n := 42) C 24 rfl rfl rfl ?_
  refine i_istore_n (lv' := [(3, .int (0 : Int32)), (2, .int y9), (0, .ref (ad 1)), (1, .int a1)]) (n := 43) C 25 rfl rfl rfl hl (by decide) rfl (fun ls hl => ?_)
  obtain ⟨n15, hw⟩ := hw
  refine e_Ne_noteInputs_43 C hret (fun A_15 x2_15 ls H locs hl h hw => ?_) n15 u8 y9 (0 : Int32) ls _ _ (lv_sub hl [2, 3, 1, 0] rfl) h hw
  have hl : lv_has ls 4 [(2, .int x2_15)] := hl
  refine i_iload_n (n := 72) C 42 rfl rfl rfl hl 0 rfl ?_
  obtain ⟨hB, hw⟩ := hw
  exact hret _ A_15 _ _ _ _ hB.nar hw h (C.dg (k := 43) rfl)
end S83
theorem kV_Ne_76 {R : Room} {s : State} {args : Array Value} (hR : 1 + 1 ≤ R.frames ∧ 8 + (4 + 11) + 21 ≤ R.locals) (ht : ∀ w ∈ GW, w.before args s = true) : CallW R s args R_Ne R_Ne 76 y_Ne_isSource c_Ne_isSource 4 (some .boolean) (WL y_Ne_isSource c_Ne_isSource 4 (some .boolean)) { frames := 1, cells := 0, slots := 0, locals := 21 } 0 0 2 := cwV 2 ht (GW_v w_3_188 w_3_89 w_3_90 w_1_2 (GW_wl w_3_91)) rfl rfl rfl (by decide +kernel) hR
section S84
variable {p : Program} {l : Launch} {e : Env} {R : Room} {s : State} {m : MethodId} {args : Array Value} {below : List Frame} {meth : Method} {c : Code} {H : Heap} {locs : List Loc} {cells slots : Nat} {Q : State → Prop}
variable {cc : ByteArray} {pc n nL : Nat} {ls : Array Slot} {rest : List Value} {D : va_G} {cy : Nat → ClassId} {Z : Nat → Prop} {ad : Nat → Nat} {tb : List (Nat × Instr × Nat)} {lv : List (Nat × Value)}
set_option maxHeartbeats 4000000 in
set_option maxRecDepth 100000 in
theorem e_Ne_beginHeads_53 {I : Nat → Int32} {T : Nat → Option Nat} {L : List Nat} {K : Nat → Nat} {F : Nat → Nat → Int32} {a1 : Int32} {P : ((Nat → Nat → Int32)) → Prop} {kb2 : (Nat → Nat → Int32) → Int32 → Prop} (C : CX D cy R_Ne c_Ne_beginHeads tb_Ne_beginHeads 4 p s m args c Z) (hret : RetV p l e { frames := 2, cells := 0, slots := 0, locals := 44 } s m args below meth c c_Ne_beginHeads D Z Q (fun (u : (Nat → Nat → Int32)) => wC cy ad I u T L K F) P 0 0)
    (hb2 : ∀ (A : Nat → Nat → Int32) (x2 : Int32) (ls : Array Slot) (H : Heap) (locs : List Loc), lv_has ls 4 [(0, .ref (ad 1)), (1, .int a1), (2, .int x2)] → HXw D Z s.heap H locs (wC cy ad I A T L K F) → kb2 A x2 → W p l e { frames := 2, cells := 0, slots := 0, locals := 44 } s m args below meth c H locs 0 0 Q (F0 m 2 ls [])) :
    ∀ (A : Nat → Nat → Int32) (x2 : Int32) (s0 : Int32) (ls : Array Slot) (H : Heap) (locs : List Loc), lv_has ls 4 [(0, .ref (ad 1)), (1, .int a1), (2, .int x2)] → HXw D Z s.heap H locs (wC cy ad I A T L K F) → g_Ne_beginHeads_53 I T L K F a1 P kb2 A x2 s0 → W p l e { frames := 2, cells := 0, slots := 0, locals := 44 } s m args below meth c H locs 0 0 Q (F0 m 53 ls [.int s0]) := by
  intro A x2 s0 ls H locs hl h hw
  refine i_istore_n (lv' := [(3, .int s0), (0, .ref (ad 1)), (1, .int a1), (2, .int x2)]) (n := 54) C 31 rfl rfl rfl hl (by decide) rfl (fun ls hl => ?_)
  refine i_aload_n (n := 55) C 32 rfl rfl rfl hl 1 rfl ?_
  refine fgC_Ne_25 (n := 58) C 33 rfl rfl h ?_
  refine i_iload_n (n := 59) C 34 rfl rfl rfl hl 3 rfl ?_
  refine i_bipush (v := (10 : Int32)) (n := 61) C 35 rfl rfl rfl ?_
  refine i_aload_n (n := 62) C 36 rfl rfl rfl hl 1 rfl ?_
  refine fgC_Ne_18 (n := 65) C 37 rfl rfl h ?_
  refine i_iload_n (n := 66) C 38 rfl rfl rfl hl 3 rfl ?_
  obtain ⟨hb, hw⟩ := hw
  refine i_iald (n := 67) C 39 rfl rfl h (wC_arr 7 (by decide) rfl) hb ?_
  refine i_imul (n := 68) C 40 rfl rfl ?_
  refine i_iload_n (n := 69) C 41 rfl rfl rfl hl 0 rfl ?_
  refine i_iadd (n := 70) C 42 rfl rfl ?_
  obtain ⟨hb, hw⟩ := hw
  refine i_iast (n := 71) C 43 rfl rfl h (wC_arr 9 (by decide) rfl) hb (wC_sA 9 (by decide) rfl _ _) (fun H locs h => ?_)
  refine i_iinc (v := x2 + (1 : Int32)) (lv' := [(2, .int (x2 + (1 : Int32))), (3, .int s0), (0, .ref (ad 1)), (1, .int a1)]) (n := 74) C 44 rfl rfl hl 3 rfl rfl (by decide) rfl (fun ls hl => ?_)
  refine i_goto (tgt := 2) C 45 rfl rfl ?_
  exact hb2 (sA A 9 x2 (((10 : Int32) * (A 7 x2.toNatClampNeg)) + s0)) (x2 + (1 : Int32)) ls _ _ (lv_sub hl [2, 3, 0] rfl) h hw
set_option maxHeartbeats 4000000 in
set_option maxRecDepth 100000 in
theorem e_Ne_beginHeads_52 {I : Nat → Int32} {T : Nat → Option Nat} {L : List Nat} {K : Nat → Nat} {F : Nat → Nat → Int32} {a1 : Int32} {P : ((Nat → Nat → Int32)) → Prop} {kb2 : (Nat → Nat → Int32) → Int32 → Prop} (C : CX D cy R_Ne c_Ne_beginHeads tb_Ne_beginHeads 4 p s m args c Z) (hret : RetV p l e { frames := 2, cells := 0, slots := 0, locals := 44 } s m args below meth c c_Ne_beginHeads D Z Q (fun (u : (Nat → Nat → Int32)) => wC cy ad I u T L K F) P 0 0)
    (hb2 : ∀ (A : Nat → Nat → Int32) (x2 : Int32) (ls : Array Slot) (H : Heap) (locs : List Loc), lv_has ls 4 [(0, .ref (ad 1)), (1, .int a1), (2, .int x2)] → HXw D Z s.heap H locs (wC cy ad I A T L K F) → kb2 A x2 → W p l e { frames := 2, cells := 0, slots := 0, locals := 44 } s m args below meth c H locs 0 0 Q (F0 m 2 ls [])) :
    ∀ (A : Nat → Nat → Int32) (x2 : Int32) (ls : Array Slot) (H : Heap) (locs : List Loc), lv_has ls 4 [(0, .ref (ad 1)), (1, .int a1), (2, .int x2)] → HXw D Z s.heap H locs (wC cy ad I A T L K F) → g_Ne_beginHeads_52 I T L K F a1 P kb2 A x2 → W p l e { frames := 2, cells := 0, slots := 0, locals := 44 } s m args below meth c H locs 0 0 Q (F0 m 52 ls []) := by
  intro A x2 ls H locs hl h hw
  refine i_iconst (v := (0 : Int32)) (n := 53) C 30 rfl rfl rfl ?_
  exact e_Ne_beginHeads_53 C hret hb2 A x2 (0 : Int32) ls _ _ hl h hw
set_option maxHeartbeats 4000000 in
set_option maxRecDepth 100000 in
theorem e_Ne_beginHeads_2 {I : Nat → Int32} {T : Nat → Option Nat} {L : List Nat} {K : Nat → Nat} {F : Nat → Nat → Int32} {a1 : Int32} {P : ((Nat → Nat → Int32)) → Prop} {kx2 : (Nat → Nat → Int32) → Prop} (C : CX D cy R_Ne c_Ne_beginHeads tb_Ne_beginHeads 4 p s m args c Z) (hret : RetV p l e { frames := 2, cells := 0, slots := 0, locals := 44 } s m args below meth c c_Ne_beginHeads D Z Q (fun (u : (Nat → Nat → Int32)) => wC cy ad I u T L K F) P 0 0)
    (hx2 : ∀ (A : Nat → Nat → Int32) (ls : Array Slot) (H : Heap) (locs : List Loc), lv_has ls 4 [] → HXw D Z s.heap H locs (wC cy ad I A T L K F) → kx2 A → W p l e { frames := 2, cells := 0, slots := 0, locals := 44 } s m args below meth c H locs 0 0 Q (F0 m 77 ls [])) :
    ∀ (n : Nat) (A : Nat → Nat → Int32) (x2 : Int32) (ls : Array Slot) (H : Heap) (locs : List Loc), lv_has ls 4 [(0, .ref (ad 1)), (1, .int a1), (2, .int x2)] → HXw D Z s.heap H locs (wC cy ad I A T L K F) → g_Ne_beginHeads_2 I T L K F a1 P kx2 n A x2 → W p l e { frames := 2, cells := 0, slots := 0, locals := 44 } s m args below meth c H locs 0 0 Q (F0 m 2 ls []) := by
  intro n
  induction n with
  | zero => intro A x2 ls H locs hl h hw; exact hw.elim
  | succ n ih =>
    intro A x2 ls H locs hl h hw
    refine i_iload_n (n := 3) C 2 rfl rfl rfl hl 2 rfl ?_
    refine i_aload_n (n := 4) C 3 rfl rfl rfl hl 0 rfl ?_
    refine fgC_Ne_56 (n := 7) C 4 rfl rfl h ?_
    refine i_icmp_ge (tgt := 77) (n := 10) C 5 rfl rfl rfl (fun c1 => ?_) (fun c1 => ?_)
    · replace hw := hw.1 c1
      exact hx2 A ls _ _ (lv_sub hl [] rfl) h hw
    · replace hw := hw.2 c1
      refine i_aload_n (n := 11) C 6 rfl rfl rfl hl 0 rfl ?_
      refine fgC_Ne_34 (n := 14) C 7 rfl rfl h ?_
      refine i_iload_n (n := 15) C 8 rfl rfl rfl hl 2 rfl ?_
      refine i_aload_n (n := 16) C 9 rfl rfl rfl hl 0 rfl ?_
      refine i_iload_n (n := 17) C 10 rfl rfl rfl hl 2 rfl ?_
      refine i_iload_n (n := 18) C 11 rfl rfl rfl hl 1 rfl ?_
      refine i_callVp (rest := [.int x2, .ref (ad 18)]) (ci := 5) (qc := (R_Ne, T_Ne, 17)) (n := 21) C 12 rfl rfl hl h rfl (wC_get (h := 1) (by decide)) (kV_Ne_76 ⟨by decide, by decide⟩) (m_Ne_isSource hw) rfl rfl (Nat.le_of_ble_eq_true rfl) ⟨by decide, by decide⟩ (fun r2 hw => ?_)
      obtain ⟨hb, hw⟩ := hw
      refine i_zast (n := 22) C 13 rfl rfl h (wC_arr 10 (by decide) rfl) hb (wC_sA 10 (by decide) rfl _ _) (fun H locs h => ?_)
      refine i_aload_n (n := 23) C 14 rfl rfl rfl hl 0 rfl ?_
      refine fgC_Ne_34 (n := 26) C 15 rfl rfl h ?_
      refine i_iload_n (n := 27) C 16 rfl rfl rfl hl 2 rfl ?_
      obtain ⟨hb, hw⟩ := hw
      refine i_zald (n := 28) C 17 rfl rfl h (wC_arr 10 (by decide) rfl) hb ?_
      refine i_if_eq (tgt := 52) (n := 31) C 18 rfl rfl rfl (fun c3 => ?_) (fun c3 => ?_)
      · replace hw := hw.1 c3
        exact e_Ne_beginHeads_52 C hret ih (sA A 10 x2 (vp_nar .boolean r2)) x2 ls _ _ hl h hw
      · replace hw := hw.2 c3
        refine i_aload_n (n := 32) C 19 rfl rfl rfl hl 0 rfl ?_
        refine fgC_Ne_30 (n := 35) C 20 rfl rfl h ?_
        refine i_iload_n (n := 36) C 21 rfl rfl rfl hl 2 rfl ?_
        obtain ⟨hb, hw⟩ := hw
        refine i_aldq (n := 37) C 22 rfl rfl h (wC_get (h := 5) (by decide)) hb (fun c5 => ?_) (fun q4 c5 => ?_)
        · replace hw := hw.1 c5
          refine i_ifnullN (tgt := 52) C 23 rfl rfl ?_
          exact e_Ne_beginHeads_52 C hret ih (sA A 10 x2 (vp_nar .boolean r2)) x2 ls _ _ hl h hw
        · replace hw := hw.2 q4 c5
          refine i_ifnull (n := 40) C 23 rfl rfl ?_
          refine i_aload_n (n := 41) C 24 rfl rfl rfl hl 0 rfl ?_
          refine fgC_Ne_30 (n := 44) C 25 rfl rfl h ?_
          refine i_iload_n (n := 45) C 26 rfl rfl rfl hl 2 rfl ?_
          obtain ⟨hb, hw⟩ := hw
          refine i_aldS (n := 46) C 27 rfl rfl h (wC_get (h := 5) (by decide)) hb c5 ?_
          refine gdc_Ne_131 (rest := []) (n := 49) C 28 rfl rfl hl h hw (by decide) (by decide) (Nat.le_of_ble_eq_true rfl) ⟨by decide, by decide⟩ (fun r6 hw => ?_)
          refine i_goto (tgt := 53) C 29 rfl rfl ?_
          exact e_Ne_beginHeads_53 C hret ih (sA A 10 x2 (vp_nar .boolean r2)) x2 r6 ls _ _ hl h hw
set_option maxHeartbeats 4000000 in
set_option maxRecDepth 100000 in
theorem m_Ne_beginHeads {l : Launch} {D : va_G} {cy : Nat → ClassId} {ad : Nat → Nat} {I : Nat → Int32} {A : Nat → Nat → Int32} {T : Nat → Option Nat} {L : List Nat} {K : Nat → Nat} {F : Nat → Nat → Int32} {a1 : Int32} {P : ((Nat → Nat → Int32)) → Prop} (hw : g_Ne_beginHeads I A T L K F a1 P) : ∀ sz, Met l y_Ne_beginHeads (WL y_Ne_beginHeads c_Ne_beginHeads 4 none) { frames := 2, cells := 0, slots := 0, locals := 44 } (va_Pc [.ref (ad 1), .int a1] (PreW D cy (wC cy ad I A T L K F) sz)) (va_Qv P (fun u t => PostW D (va_A (wC cy ad I A T L K F) sz) ((fun (u : (Nat → Nat → Int32)) => wC cy ad I u T L K F) u) t) (va_A (wC cy ad I A T L K F) sz)) 0 0 (va_A (wC cy ad I A T L K F) sz) := by
  refine met_v (wf := fun (u : (Nat → Nat → Int32)) => wC cy ad I u T L K F) R_Ne db_Ne_beginHeads (by decide) rfl (Nat.le_of_ble_eq_true rfl) ?_
  intro p e s m below meth c Z Q ls hin C h hl hret
  have hl : lv_has ls 4 [(0, .ref (ad 1)), (1, .int a1)] := hl
  refine i_iconst (v := (0 : Int32)) (n := 1) C 0 rfl rfl rfl ?_
  refine i_istore_n (lv' := [(2, .int (0 : Int32)), (0, .ref (ad 1)), (1, .int a1)]) (n := 2) C 1 rfl rfl rfl hl (by decide) rfl (fun ls hl => ?_)
  obtain ⟨n7, hw⟩ := hw
  refine e_Ne_beginHeads_2 C hret (fun A_7 ls H locs hl h hw => ?_) n7 A (0 : Int32) ls _ _ (lv_sub hl [1, 2, 0] rfl) h hw
  have hl : lv_has ls 4 [] := hl
  exact hret A_7 _ _ _ _ hw h (C.dg (k := 46) rfl)
end S84
theorem kSN_Ne_91 {R : Room} {s : State} {args : Array Value} (hR : 0 + 1 ≤ R.frames ∧ 8 + (2 + 11) + 0 ≤ R.locals) (ht : ∀ w ∈ GW, w.before args s = true) (hN : NX s) : va_CN R s args R_Ne 91 y_Pw_hasBit R_Pw c_Pw_hasBit 2 (some .boolean) (WL y_Pw_hasBit c_Pw_hasBit 2 (some .boolean)) { frames := 0, cells := 0, slots := 0, locals := 0 } 0 0 2 ∧ (Cond.static y_Pw_hasBit).before args s = true ∧ True := ⟨va_cnB 2 ht (GW_in (GW_wl w_2_76)) rfl rfl rfl (hN.1 _ (by simp [nxW])) (ht _ w_1_1) (by decide +kernel) hR, ht _ w_2_75, trivial⟩
section S85
variable {p : Program} {l : Launch} {e : Env} {R : Room} {s : State} {m : MethodId} {args : Array Value} {below : List Frame} {meth : Method} {c : Code} {H : Heap} {locs : List Loc} {cells slots : Nat} {Q : State → Prop}
variable {cc : ByteArray} {pc n nL : Nat} {ls : Array Slot} {rest : List Value} {D : va_G} {cy : Nat → ClassId} {Z : Nat → Prop} {ad : Nat → Nat} {tb : List (Nat × Instr × Nat)} {lv : List (Nat × Value)}
set_option maxHeartbeats 4000000 in
set_option maxRecDepth 100000 in
theorem e_Ne_listMains_154 {I : Nat → Int32} {T : Nat → Option Nat} {L : List Nat} {K : Nat → Nat} {F : Nat → Nat → Int32}  {P : ((Nat → Nat → Int32)) → Prop} {kb31 : (Nat → Nat → Int32) → Int32 → Int32 → Int32 → Int32 → Prop} (C : CX D cy R_Ne c_Ne_listMains tb_Ne_listMains 6 p s m args c Z) (hret : RetV p l e { frames := 2, cells := 0, slots := 0, locals := 44 } s m args below meth c c_Ne_listMains D Z Q (fun (u : (Nat → Nat → Int32)) => wC cy ad I u T L K F) P 0 0)
    (hb31 : ∀ (A : Nat → Nat → Int32) (x1 : Int32) (x2 : Int32) (x3 : Int32) (x4 : Int32) (ls : Array Slot) (H : Heap) (locs : List Loc), lv_has ls 6 [(0, .ref (ad 1)), (1, .int x1), (2, .int x2), (3, .int x3), (4, .int x4)] → HXw D Z s.heap H locs (wC cy ad I A T L K F) → kb31 A x1 x2 x3 x4 → W p l e { frames := 2, cells := 0, slots := 0, locals := 44 } s m args below meth c H locs 0 0 Q (F0 m 31 ls [])) :
    ∀ (A : Nat → Nat → Int32) (x1 : Int32) (x2 : Int32) (x3 : Int32) (x4 : Int32) (ls : Array Slot) (H : Heap) (locs : List Loc), lv_has ls 6 [(0, .ref (ad 1)), (1, .int x1), (2, .int x2), (3, .int x3), (4, .int x4)] → HXw D Z s.heap H locs (wC cy ad I A T L K F) → g_Ne_listMains_154 I P kb31 A x1 x2 x3 x4 → W p l e { frames := 2, cells := 0, slots := 0, locals := 44 } s m args below meth c H locs 0 0 Q (F0 m 154 ls []) := by
  intro A x1 x2 x3 x4 ls H locs hl h hw
  refine i_iinc (v := x4 + (1 : Int32)) (lv' := [(4, .int (x4 + (1 : Int32))), (0, .ref (ad 1)), (1, .int x1), (2, .int x2), (3, .int x3)]) (n := 157) C 81 rfl rfl hl 4 rfl rfl (by decide) rfl (fun ls hl => ?_)
  refine i_goto (tgt := 31) C 82 rfl rfl ?_
  exact hb31 A x1 x2 x3 (x4 + (1 : Int32)) ls _ _ (lv_sub hl [1, 2, 3, 4, 0] rfl) h hw
set_option maxHeartbeats 4000000 in
set_option maxRecDepth 100000 in
theorem e_Ne_listMains_134 {I : Nat → Int32} {T : Nat → Option Nat} {L : List Nat} {K : Nat → Nat} {F : Nat → Nat → Int32}  {P : ((Nat → Nat → Int32)) → Prop} {kb31 : (Nat → Nat → Int32) → Int32 → Int32 → Int32 → Int32 → Prop} (C : CX D cy R_Ne c_Ne_listMains tb_Ne_listMains 6 p s m args c Z) (hret : RetV p l e { frames := 2, cells := 0, slots := 0, locals := 44 } s m args below meth c c_Ne_listMains D Z Q (fun (u : (Nat → Nat → Int32)) => wC cy ad I u T L K F) P 0 0)
    (hb31 : ∀ (A : Nat → Nat → Int32) (x1 : Int32) (x2 : Int32) (x3 : Int32) (x4 : Int32) (ls : Array Slot) (H : Heap) (locs : List Loc), lv_has ls 6 [(0, .ref (ad 1)), (1, .int x1), (2, .int x2), (3, .int x3), (4, .int x4)] → HXw D Z s.heap H locs (wC cy ad I A T L K F) → kb31 A x1 x2 x3 x4 → W p l e { frames := 2, cells := 0, slots := 0, locals := 44 } s m args below meth c H locs 0 0 Q (F0 m 31 ls [])) :
    ∀ (A : Nat → Nat → Int32) (x1 : Int32) (x2 : Int32) (x3 : Int32) (x4 : Int32) (s1 : Int32) (s2 : Int32) (ls : Array Slot) (H : Heap) (locs : List Loc), lv_has ls 6 [(0, .ref (ad 1)), (1, .int x1), (2, .int x2), (3, .int x3), (4, .int x4)] → HXw D Z s.heap H locs (wC cy ad I A T L K F) → g_Ne_listMains_134 I P kb31 A x1 x2 x3 x4 s1 s2 → W p l e { frames := 2, cells := 0, slots := 0, locals := 44 } s m args below meth c H locs 0 0 Q (F0 m 134 ls [.int s2, .int s1, .ref (ad 23)]) := by
  intro A x1 x2 x3 x4 s1 s2 ls H locs hl h hw
  obtain ⟨hb, hw⟩ := hw
  refine i_iast (n := 135) C 70 rfl rfl h (wC_arr 15 (by decide) rfl) hb (wC_sA 15 (by decide) rfl _ _) (fun H locs h => ?_)
  refine i_aload_n (n := 136) C 71 rfl rfl rfl hl 0 rfl ?_
  refine fgC_Ne_53 (n := 139) C 72 rfl rfl h ?_
  refine i_iload_n (n := 140) C 73 rfl rfl rfl hl 2 rfl ?_
  refine i_aload_n (n := 141) C 74 rfl rfl rfl hl 0 rfl ?_
  refine fgC_Ne_12 (n := 144) C 75 rfl rfl h ?_
  refine fgC_Ne_79 (n := 147) C 76 rfl rfl h ?_
  refine i_iload (n := 149) C 77 rfl rfl hl 4 rfl ?_
  obtain ⟨hb, hw⟩ := hw
  refine i_iald (n := 150) C 78 rfl rfl h (wC_arr 19 (by decide) rfl) hb ?_
  obtain ⟨hb, hw⟩ := hw
  refine i_iast (n := 151) C 79 rfl rfl h (wC_arr 16 (by decide) rfl) hb (wC_sA 16 (by decide) rfl _ _) (fun H locs h => ?_)
  refine i_iinc (v := x2 + (1 : Int32)) (lv' := [(2, .int (x2 + (1 : Int32))), (0, .ref (ad 1)), (1, .int x1), (3, .int x3), (4, .int x4)]) (n := 154) C 80 rfl rfl hl 2 rfl rfl (by decide) rfl (fun ls hl => ?_)
  exact e_Ne_listMains_154 C hret hb31 (sA (sA A 15 s1 s2) 16 x2 ((sA A 15 s1 s2) 19 x4.toNatClampNeg)) x1 (x2 + (1 : Int32)) x3 x4 ls _ _ (lv_sub hl [1, 2, 0, 3, 4] rfl) h hw
set_option maxHeartbeats 4000000 in
set_option maxRecDepth 100000 in
theorem e_Ne_listMains_92 {I : Nat → Int32} {T : Nat → Option Nat} {L : List Nat} {K : Nat → Nat} {F : Nat → Nat → Int32}  {P : ((Nat → Nat → Int32)) → Prop} {kb31 : (Nat → Nat → Int32) → Int32 → Int32 → Int32 → Int32 → Prop} (C : CX D cy R_Ne c_Ne_listMains tb_Ne_listMains 6 p s m args c Z) (hret : RetV p l e { frames := 2, cells := 0, slots := 0, locals := 44 } s m args below meth c c_Ne_listMains D Z Q (fun (u : (Nat → Nat → Int32)) => wC cy ad I u T L K F) P 0 0)
    (hb31 : ∀ (A : Nat → Nat → Int32) (x1 : Int32) (x2 : Int32) (x3 : Int32) (x4 : Int32) (ls : Array Slot) (H : Heap) (locs : List Loc), lv_has ls 6 [(0, .ref (ad 1)), (1, .int x1), (2, .int x2), (3, .int x3), (4, .int x4)] → HXw D Z s.heap H locs (wC cy ad I A T L K F) → kb31 A x1 x2 x3 x4 → W p l e { frames := 2, cells := 0, slots := 0, locals := 44 } s m args below meth c H locs 0 0 Q (F0 m 31 ls [])) :
    ∀ (A : Nat → Nat → Int32) (x1 : Int32) (x2 : Int32) (x3 : Int32) (x4 : Int32) (x5 : Int32) (ls : Array Slot) (H : Heap) (locs : List Loc), lv_has ls 6 [(0, .ref (ad 1)), (1, .int x1), (2, .int x2), (3, .int x3), (4, .int x4), (5, .int x5)] → HXw D Z s.heap H locs (wC cy ad I A T L K F) → g_Ne_listMains_92 I P kb31 A x1 x2 x3 x4 x5 → W p l e { frames := 2, cells := 0, slots := 0, locals := 44 } s m args below meth c H locs 0 0 Q (F0 m 92 ls []) := by
  intro A x1 x2 x3 x4 x5 ls H locs hl h hw
  refine i_iload_n (n := 93) C 49 rfl rfl rfl hl 2 rfl ?_
  refine i_aload_n (n := 94) C 50 rfl rfl rfl hl 0 rfl ?_
  refine fgC_Ne_50 (n := 97) C 51 rfl rfl h ?_
  refine i_alen (t0 := 0) (v := (36 : Int32)) (n := 98) C 52 rfl rfl h (wC_arr 15 (by decide) rfl) rfl rfl ?_
  refine i_icmp_ge (tgt := 154) (n := 101) C 53 rfl rfl rfl (fun c8 => ?_) (fun c8 => ?_)
  · replace hw := hw.1 c8
    exact e_Ne_listMains_154 C hret hb31 A x1 x2 x3 x4 ls _ _ (lv_sub hl [0, 1, 2, 3, 4] rfl) h hw
  · replace hw := hw.2 c8
    refine i_aload_n (n := 102) C 54 rfl rfl rfl hl 0 rfl ?_
    refine fgC_Ne_50 (n := 105) C 55 rfl rfl h ?_
    refine i_iload_n (n := 106) C 56 rfl rfl rfl hl 2 rfl ?_
    refine i_iload (n := 108) C 57 rfl rfl hl 5 rfl ?_
    refine i_if_eq (tgt := 124) (n := 111) C 58 rfl rfl rfl (fun c9 => ?_) (fun c9 => ?_)
    · replace hw := hw.1 c9
      refine i_aload_n (n := 125) C 65 rfl rfl rfl hl 0 rfl ?_
      refine fgC_Ne_12 (n := 128) C 66 rfl rfl h ?_
      refine fgC_Ne_82 (n := 131) C 67 rfl rfl h ?_
      refine i_iload (n := 133) C 68 rfl rfl hl 4 rfl ?_
      obtain ⟨hb, hw⟩ := hw
      refine i_iald (n := 134) C 69 rfl rfl h (wC_arr 17 (by decide) rfl) hb ?_
      exact e_Ne_listMains_134 C hret hb31 A x1 x2 x3 x4 x2 (A 17 x4.toNatClampNeg) ls _ _ (lv_sub hl [0, 1, 2, 3, 4] rfl) h hw
    · replace hw := hw.2 c9
      refine i_aload_n (n := 112) C 59 rfl rfl rfl hl 0 rfl ?_
      refine fgC_Ne_12 (n := 115) C 60 rfl rfl h ?_
      refine fgC_Ne_85 (n := 118) C 61 rfl rfl h ?_
      refine i_iload (n := 120) C 62 rfl rfl hl 4 rfl ?_
      obtain ⟨hb, hw⟩ := hw
      refine i_iald (n := 121) C 63 rfl rfl h (wC_arr 18 (by decide) rfl) hb ?_
      refine i_goto (tgt := 134) C 64 rfl rfl ?_
      exact e_Ne_listMains_134 C hret hb31 A x1 x2 x3 x4 x2 (A 18 x4.toNatClampNeg) ls _ _ (lv_sub hl [0, 1, 2, 3, 4] rfl) h hw
set_option maxHeartbeats 4000000 in
set_option maxRecDepth 100000 in
theorem e_Ne_listMains_62 {I : Nat → Int32} {T : Nat → Option Nat} {L : List Nat} {K : Nat → Nat} {F : Nat → Nat → Int32}  {P : ((Nat → Nat → Int32)) → Prop} {kb31 : (Nat → Nat → Int32) → Int32 → Int32 → Int32 → Int32 → Prop} (C : CX D cy R_Ne c_Ne_listMains tb_Ne_listMains 6 p s m args c Z) (hret : RetV p l e { frames := 2, cells := 0, slots := 0, locals := 44 } s m args below meth c c_Ne_listMains D Z Q (fun (u : (Nat → Nat → Int32)) => wC cy ad I u T L K F) P 0 0)
    (hb31 : ∀ (A : Nat → Nat → Int32) (x1 : Int32) (x2 : Int32) (x3 : Int32) (x4 : Int32) (ls : Array Slot) (H : Heap) (locs : List Loc), lv_has ls 6 [(0, .ref (ad 1)), (1, .int x1), (2, .int x2), (3, .int x3), (4, .int x4)] → HXw D Z s.heap H locs (wC cy ad I A T L K F) → kb31 A x1 x2 x3 x4 → W p l e { frames := 2, cells := 0, slots := 0, locals := 44 } s m args below meth c H locs 0 0 Q (F0 m 31 ls [])) :
    ∀ (A : Nat → Nat → Int32) (x1 : Int32) (x2 : Int32) (x3 : Int32) (x4 : Int32) (s0 : Int32) (ls : Array Slot) (H : Heap) (locs : List Loc), lv_has ls 6 [(0, .ref (ad 1)), (1, .int x1), (2, .int x2), (3, .int x3), (4, .int x4)] → HXw D Z s.heap H locs (wC cy ad I A T L K F) → g_Ne_listMains_62 I P kb31 A x1 x2 x3 x4 s0 → W p l e { frames := 2, cells := 0, slots := 0, locals := 44 } s m args below meth c H locs 0 0 Q (F0 m 62 ls [.int s0]) := by
  intro A x1 x2 x3 x4 s0 ls H locs hl h hw
  refine i_istore (lv' := [(5, .int s0), (0, .ref (ad 1)), (1, .int x1), (2, .int x2), (3, .int x3), (4, .int x4)]) (n := 64) C 35 rfl rfl hl (by decide) rfl (fun ls hl => ?_)
  refine i_iload_n (n := 65) C 36 rfl rfl rfl hl 2 rfl ?_
  refine i_iload (n := 67) C 37 rfl rfl hl 5 rfl ?_
  refine i_callSNp (rest := []) (n := 70) C 38 rfl rfl hl h (kSN_Ne_91 ⟨by decide, by decide⟩) (m_Pw_hasBit hw) rfl rfl (Nat.le_of_ble_eq_true rfl) ⟨by decide, by decide⟩ (fun r5 hw => ?_)
  refine i_if_eq (tgt := 154) (n := 73) C 39 rfl rfl rfl (fun c6 => ?_) (fun c6 => ?_)
  · replace hw := hw.1 c6
    exact e_Ne_listMains_154 C hret hb31 A x1 x2 x3 x4 ls _ _ (lv_sub hl [1, 2, 3, 4, 5] rfl) h hw
  · replace hw := hw.2 c6
    refine i_iload (n := 75) C 40 rfl rfl hl 0 rfl ?_
    refine i_if_ne (tgt := 92) (n := 78) C 41 rfl rfl rfl (fun c7 => ?_) (fun c7 => ?_)
    · replace hw := hw.1 c7
      exact e_Ne_listMains_92 C hret hb31 A x1 x2 x3 x4 s0 ls _ _ (lv_sub hl [1, 2, 3, 4, 5, 0] rfl) h hw
    · replace hw := hw.2 c7
      refine i_aload_n (n := 79) C 42 rfl rfl rfl hl 1 rfl ?_
      refine fgC_Ne_12 (n := 82) C 43 rfl rfl h ?_
      refine fgC_Ne_85 (n := 85) C 44 rfl rfl h ?_
      refine i_iload (n := 87) C 45 rfl rfl hl 5 rfl ?_
      obtain ⟨hb, hw⟩ := hw
      refine i_iald (n := 88) C 46 rfl rfl h (wC_arr 18 (by decide) rfl) hb ?_
      refine i_iload_n (n := 89) C 47 rfl rfl rfl hl 4 rfl ?_
      refine i_icmp_ne (tgt := 154) (n := 92) C 48 rfl rfl rfl (fun c10 => ?_) (fun c10 => ?_)
      · replace hw := hw.1 c10
        exact e_Ne_listMains_154 C hret hb31 A x1 x2 x3 x4 ls _ _ (lv_sub hl [1, 2, 3, 4, 5] rfl) h hw
      · replace hw := hw.2 c10
        exact e_Ne_listMains_92 C hret hb31 A x1 x2 x3 x4 s0 ls _ _ (lv_sub hl [1, 2, 3, 4, 5, 0] rfl) h hw
set_option maxHeartbeats 4000000 in
set_option maxRecDepth 100000 in
theorem e_Ne_listMains_31 {I : Nat → Int32} {T : Nat → Option Nat} {L : List Nat} {K : Nat → Nat} {F : Nat → Nat → Int32}  {P : ((Nat → Nat → Int32)) → Prop} {kx31 : (Nat → Nat → Int32) → Int32 → Int32 → Int32 → Prop} (C : CX D cy R_Ne c_Ne_listMains tb_Ne_listMains 6 p s m args c Z) (hret : RetV p l e { frames := 2, cells := 0, slots := 0, locals := 44 } s m args below meth c c_Ne_listMains D Z Q (fun (u : (Nat → Nat → Int32)) => wC cy ad I u T L K F) P 0 0)
    (hx31 : ∀ (A : Nat → Nat → Int32) (x1 : Int32) (x2 : Int32) (x3 : Int32) (ls : Array Slot) (H : Heap) (locs : List Loc), lv_has ls 6 [(0, .ref (ad 1)), (1, .int x1), (2, .int x2), (3, .int x3)] → HXw D Z s.heap H locs (wC cy ad I A T L K F) → kx31 A x1 x2 x3 → W p l e { frames := 2, cells := 0, slots := 0, locals := 44 } s m args below meth c H locs 0 0 Q (F0 m 160 ls [])) :
    ∀ (n : Nat) (A : Nat → Nat → Int32) (x1 : Int32) (x2 : Int32) (x3 : Int32) (x4 : Int32) (ls : Array Slot) (H : Heap) (locs : List Loc), lv_has ls 6 [(0, .ref (ad 1)), (1, .int x1), (2, .int x2), (3, .int x3), (4, .int x4)] → HXw D Z s.heap H locs (wC cy ad I A T L K F) → g_Ne_listMains_31 I P kx31 n A x1 x2 x3 x4 → W p l e { frames := 2, cells := 0, slots := 0, locals := 44 } s m args below meth c H locs 0 0 Q (F0 m 31 ls []) := by
  intro n
  induction n with
  | zero => intro A x1 x2 x3 x4 ls H locs hl h hw; exact hw.elim
  | succ n ih =>
    intro A x1 x2 x3 x4 ls H locs hl h hw
    refine i_iload (n := 33) C 20 rfl rfl hl 4 rfl ?_
    refine i_aload_n (n := 34) C 21 rfl rfl rfl hl 0 rfl ?_
    refine fgC_Ne_12 (n := 37) C 22 rfl rfl h ?_
    refine fgC_Ne_88 (n := 40) C 23 rfl rfl h ?_
    refine i_icmp_ge (tgt := 160) (n := 43) C 24 rfl rfl rfl (fun c3 => ?_) (fun c3 => ?_)
    · replace hw := hw.1 c3
      exact hx31 A x1 x2 x3 ls _ _ (lv_sub hl [0, 1, 2, 3] rfl) h hw
    · replace hw := hw.2 c3
      refine i_aload_n (n := 44) C 25 rfl rfl rfl hl 0 rfl ?_
      refine fgC_Ne_12 (n := 47) C 26 rfl rfl h ?_
      refine fgC_Ne_82 (n := 50) C 27 rfl rfl h ?_
      refine i_iload (n := 52) C 28 rfl rfl hl 4 rfl ?_
      obtain ⟨hb, hw⟩ := hw
      refine i_iald (n := 53) C 29 rfl rfl h (wC_arr 17 (by decide) rfl) hb ?_
      refine i_iload_n (n := 54) C 30 rfl rfl rfl hl 3 rfl ?_
      refine i_icmp_ne (tgt := 61) (n := 57) C 31 rfl rfl rfl (fun c4 => ?_) (fun c4 => ?_)
      · replace hw := hw.1 c4
        refine i_iconst (v := (0 : Int32)) (n := 62) C 34 rfl rfl rfl ?_
        exact e_Ne_listMains_62 C hret ih A x1 x2 x3 x4 (0 : Int32) ls _ _ hl h hw
      · replace hw := hw.2 c4
        refine i_iconst (v := (1 : Int32)) (n := 58) C 32 rfl rfl rfl ?_
        refine i_goto (tgt := 62) C 33 rfl rfl ?_
        exact e_Ne_listMains_62 C hret ih A x1 x2 x3 x4 (1 : Int32) ls _ _ hl h hw
set_option maxHeartbeats 4000000 in
set_option maxRecDepth 100000 in
theorem e_Ne_listMains_13 {I : Nat → Int32} {T : Nat → Option Nat} {L : List Nat} {K : Nat → Nat} {F : Nat → Nat → Int32}  {P : ((Nat → Nat → Int32)) → Prop} {kx13 : (Nat → Nat → Int32) → Int32 → Prop} (C : CX D cy R_Ne c_Ne_listMains tb_Ne_listMains 6 p s m args c Z) (hret : RetV p l e { frames := 2, cells := 0, slots := 0, locals := 44 } s m args below meth c c_Ne_listMains D Z Q (fun (u : (Nat → Nat → Int32)) => wC cy ad I u T L K F) P 0 0)
    (hx13 : ∀ (A : Nat → Nat → Int32) (x2 : Int32) (ls : Array Slot) (H : Heap) (locs : List Loc), lv_has ls 6 [(0, .ref (ad 1)), (2, .int x2)] → HXw D Z s.heap H locs (wC cy ad I A T L K F) → kx13 A x2 → W p l e { frames := 2, cells := 0, slots := 0, locals := 44 } s m args below meth c H locs 0 0 Q (F0 m 166 ls [])) :
    ∀ (n : Nat) (A : Nat → Nat → Int32) (x1 : Int32) (x2 : Int32) (x3 : Int32) (ls : Array Slot) (H : Heap) (locs : List Loc), lv_has ls 6 [(0, .ref (ad 1)), (1, .int x1), (2, .int x2), (3, .int x3)] → HXw D Z s.heap H locs (wC cy ad I A T L K F) → g_Ne_listMains_13 I P kx13 n A x1 x2 x3 → W p l e { frames := 2, cells := 0, slots := 0, locals := 44 } s m args below meth c H locs 0 0 Q (F0 m 13 ls []) := by
  intro n
  induction n with
  | zero => intro A x1 x2 x3 ls H locs hl h hw; exact hw.elim
  | succ n ih =>
    intro A x1 x2 x3 ls H locs hl h hw
    refine i_iload_n (n := 14) C 9 rfl rfl rfl hl 3 rfl ?_
    refine i_aload_n (n := 15) C 10 rfl rfl rfl hl 0 rfl ?_
    refine fgC_Ne_56 (n := 18) C 11 rfl rfl h ?_
    refine i_icmp_ge (tgt := 166) (n := 21) C 12 rfl rfl rfl (fun c2 => ?_) (fun c2 => ?_)
    · replace hw := hw.1 c2
      exact hx13 A x2 ls _ _ (lv_sub hl [0, 2] rfl) h hw
    · replace hw := hw.2 c2
      refine i_aload_n (n := 22) C 13 rfl rfl rfl hl 0 rfl ?_
      refine fgC_Ne_47 (n := 25) C 14 rfl rfl h ?_
      refine i_iload_n (n := 26) C 15 rfl rfl rfl hl 3 rfl ?_
      refine i_iload_n (n := 27) C 16 rfl rfl rfl hl 2 rfl ?_
      obtain ⟨hb, hw⟩ := hw
      refine i_iast (n := 28) C 17 rfl rfl h (wC_arr 14 (by decide) rfl) hb (wC_sA 14 (by decide) rfl _ _) (fun H locs h => ?_)
      refine i_iconst (v := (0 : Int32)) (n := 29) C 18 rfl rfl rfl ?_
      refine i_istore (lv' := [(4, .int (0 : Int32)), (0, .ref (ad 1)), (1, .int x1), (2, .int x2), (3, .int x3)]) (n := 31) C 19 rfl rfl hl (by decide) rfl (fun ls hl => ?_)
      obtain ⟨n11, hw⟩ := hw
      refine e_Ne_listMains_31 C hret (fun A_11 x1_11 x2_11 x3_11 ls H locs hl h hw => ?_) n11 (sA A 14 x3 x2) x1 x2 x3 (0 : Int32) ls _ _ (lv_sub hl [1, 2, 3, 4, 0] rfl) h hw
      have hl : lv_has ls 6 [(0, .ref (ad 1)), (1, .int x1_11), (2, .int x2_11), (3, .int x3_11)] := hl
      refine i_iinc (v := x3_11 + (1 : Int32)) (lv' := [(3, .int (x3_11 + (1 : Int32))), (0, .ref (ad 1)), (1, .int x1_11), (2, .int x2_11)]) (n := 163) C 83 rfl rfl hl 3 rfl rfl (by decide) rfl (fun ls hl => ?_)
      refine i_goto (tgt := 13) C 84 rfl rfl ?_
      exact ih A_11 x1_11 x2_11 (x3_11 + (1 : Int32)) ls _ _ (lv_sub hl [1, 2, 3, 0] rfl) h hw
set_option maxHeartbeats 4000000 in
set_option maxRecDepth 100000 in
theorem m_Ne_listMains {l : Launch} {D : va_G} {cy : Nat → ClassId} {ad : Nat → Nat} {I : Nat → Int32} {A : Nat → Nat → Int32} {T : Nat → Option Nat} {L : List Nat} {K : Nat → Nat} {F : Nat → Nat → Int32}  {P : ((Nat → Nat → Int32)) → Prop} (hw : g_Ne_listMains I A P) : ∀ sz, Met l y_Ne_listMains (WL y_Ne_listMains c_Ne_listMains 6 none) { frames := 2, cells := 0, slots := 0, locals := 44 } (va_Pc [.ref (ad 1)] (PreW D cy (wC cy ad I A T L K F) sz)) (va_Qv P (fun u t => PostW D (va_A (wC cy ad I A T L K F) sz) ((fun (u : (Nat → Nat → Int32)) => wC cy ad I u T L K F) u) t) (va_A (wC cy ad I A T L K F) sz)) 0 0 (va_A (wC cy ad I A T L K F) sz) := by
  refine met_v (wf := fun (u : (Nat → Nat → Int32)) => wC cy ad I u T L K F) R_Ne db_Ne_listMains (by decide) rfl (Nat.le_of_ble_eq_true rfl) ?_
  intro p e s m below meth c Z Q ls hin C h hl hret
  have hl : lv_has ls 6 [(0, .ref (ad 1))] := hl
  refine i_aload_n (n := 1) C 0 rfl rfl rfl hl 0 rfl ?_
  refine fgC_Ne_12 (n := 4) C 1 rfl rfl h ?_
  refine i_iconst (v := (0 : Int32)) (n := 5) C 2 rfl rfl rfl ?_
  refine i_callVp (rest := []) (ci := 7) (qc := (R_Pi, T_Pi, 8)) (n := 8) C 3 rfl rfl hl h rfl (wC_get (h := 2) (by decide)) (kV_Ne_122 ⟨by decide, by decide⟩) (m_Pi_openMains hw) rfl rfl (Nat.le_of_ble_eq_true rfl) ⟨by decide, by decide⟩ (fun r1 hw => ?_)
  refine i_istore_n (lv' := [(1, .int r1), (0, .ref (ad 1))]) (n := 9) C 4 rfl rfl rfl hl (by decide) rfl (fun ls hl => ?_)
  refine i_iconst (v := (0 : Int32)) (n := 10) C 5 rfl rfl rfl ?_
  refine i_istore_n (lv' := [(2, .int (0 : Int32)), (1, .int r1), (0, .ref (ad 1))]) (n := 11) C 6 rfl rfl rfl hl (by decide) rfl (fun ls hl => ?_)
  refine i_iconst (v := (0 : Int32)) (n := 12) C 7 rfl rfl rfl ?_
  refine i_istore_n (lv' := [(3, .int (0 : Int32)), (2, .int (0 : Int32)), (1, .int r1), (0, .ref (ad 1))]) (n := 13) C 8 rfl rfl rfl hl (by decide) rfl (fun ls hl => ?_)
  obtain ⟨n12, hw⟩ := hw
  refine e_Ne_listMains_13 C hret (fun A_12 x2_12 ls H locs hl h hw => ?_) n12 A r1 (0 : Int32) (0 : Int32) ls _ _ (lv_sub hl [3, 2, 1, 0] rfl) h hw
  have hl : lv_has ls 6 [(0, .ref (ad 1)), (2, .int x2_12)] := hl
  refine i_aload_n (n := 167) C 85 rfl rfl rfl hl 0 rfl ?_
  refine fgC_Ne_47 (n := 170) C 86 rfl rfl h ?_
  refine i_aload_n (n := 171) C 87 rfl rfl rfl hl 0 rfl ?_
  refine fgC_Ne_56 (n := 174) C 88 rfl rfl h ?_
  refine i_iload_n (n := 175) C 89 rfl rfl rfl hl 1 rfl ?_
  obtain ⟨hb, hw⟩ := hw
  refine i_iast (n := 176) C 90 rfl rfl h (wC_arr 14 (by decide) rfl) hb (wC_sA 14 (by decide) rfl _ _) (fun H locs h => ?_)
  exact hret (sA A_12 14 (I 4) x2_12) _ _ _ _ hw h (C.dg (k := 91) rfl)
end S85
