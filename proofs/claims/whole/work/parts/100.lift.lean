section S0
variable {p : Program} {l : Launch} {e : Env} {R : Room} {s : State} {m : MethodId} {args : Array Value} {below : List Frame} {meth : Method} {c : Code} {H : Heap} {locs : List Loc} {cells slots : Nat} {Q : State → Prop}
variable {cc : ByteArray} {pc n nL : Nat} {ls : Array Slot} {rest : List Value} {D : va_G} {cy : Nat → ClassId} {Z : Nat → Prop} {ad : Nat → Nat} {tb : List (Nat × Instr × Nat)} {lv : List (Nat × Value)}
set_option maxHeartbeats 4000000 in
set_option maxRecDepth 100000 in
theorem m_Pw_isWithin {l : Launch} {D : va_G} {cy : Nat → ClassId}   {a1 : Int32} {a2 : Int32} {a3 : Int32} {w : va_W} {P : Int32 → Prop} (hw : g_Pw_isWithin a1 a2 a3 P) : ∀ sz, Met l y_Pw_isWithin (WL y_Pw_isWithin c_Pw_isWithin 3 (some .boolean)) { frames := 0, cells := 0, slots := 0, locals := 0 } (va_Pc [.int a1, .int a2, .int a3] (PreW D cy (w) sz)) (vp_Si P) 0 0 (fun _ => False) := by
  refine met_p R_Pw .boolean db_Pw_isWithin (by decide) rfl rfl (Nat.le_of_ble_eq_true rfl) ?_
  intro p e s m below meth c Z Q ls C h hl hret
  have hl : lv_has ls 3 [(0, .int a1), (1, .int a2), (2, .int a3)] := hl
  refine i_iload_n (n := 1) C 0 rfl rfl rfl hl 0 rfl ?_
  refine i_iload_n (n := 2) C 1 rfl rfl rfl hl 1 rfl ?_
  refine i_icmp_lt (tgt := 14) (n := 5) C 2 rfl rfl rfl (fun c1 => ?_) (fun c1 => ?_)
  · replace hw := hw.1 c1
    refine i_iconst (v := (0 : Int32)) (n := 15) C 8 rfl rfl rfl ?_
    exact hret _ _ _ rfl hw (C.dg (k := 9) rfl)
  · replace hw := hw.2 c1
    refine i_iload_n (n := 6) C 3 rfl rfl rfl hl 0 rfl ?_
    refine i_iload_n (n := 7) C 4 rfl rfl rfl hl 2 rfl ?_
    refine i_icmp_gt (tgt := 14) (n := 10) C 5 rfl rfl rfl (fun c2 => ?_) (fun c2 => ?_)
    · replace hw := hw.1 c2
      refine i_iconst (v := (0 : Int32)) (n := 15) C 8 rfl rfl rfl ?_
      exact hret _ _ _ rfl hw (C.dg (k := 9) rfl)
    · replace hw := hw.2 c2
      refine i_iconst (v := (1 : Int32)) (n := 11) C 6 rfl rfl rfl ?_
      refine i_goto (tgt := 15) C 7 rfl rfl ?_
      exact hret _ _ _ rfl hw (C.dg (k := 9) rfl)
end S0
section S1
variable {p : Program} {l : Launch} {e : Env} {R : Room} {s : State} {m : MethodId} {args : Array Value} {below : List Frame} {meth : Method} {c : Code} {H : Heap} {locs : List Loc} {cells slots : Nat} {Q : State → Prop}
variable {cc : ByteArray} {pc n nL : Nat} {ls : Array Slot} {rest : List Value} {D : va_G} {cy : Nat → ClassId} {Z : Nat → Prop} {ad : Nat → Nat} {tb : List (Nat × Instr × Nat)} {lv : List (Nat × Value)}
set_option maxHeartbeats 4000000 in
set_option maxRecDepth 100000 in
theorem m_Ne_addNode {l : Launch} {D : va_G} {cy : Nat → ClassId} {ad : Nat → Nat} {I : Nat → Int32} {A : Nat → Nat → Int32} {T : Nat → Option Nat} {L : List Nat} {K : Nat → Nat} {F : Nat → Nat → Int32} {a1 : Int32} {a2 : Int32} {P : Int32 → ((Nat → Int32) × (Nat → Nat → Int32)) → Prop} (hw : g_Ne_addNode I A a1 a2 P) : ∀ sz, Met l y_Ne_addNode (WL y_Ne_addNode c_Ne_addNode 3 (some .int)) { frames := 0, cells := 0, slots := 0, locals := 0 } (va_Pc [.ref (ad 1), .int a1, .int a2] (PreW D cy (wC cy ad I A T L K F) sz)) (va_Qi P (fun u t => PostW D (va_A (wC cy ad I A T L K F) sz) ((fun (u : (Nat → Int32) × (Nat → Nat → Int32)) => wC cy ad u.1 u.2 T L K F) u) t) (va_A (wC cy ad I A T L K F) sz)) 0 0 (va_A (wC cy ad I A T L K F) sz) := by
  refine met_i (wf := fun (u : (Nat → Int32) × (Nat → Nat → Int32)) => wC cy ad u.1 u.2 T L K F) R_Ne .int db_Ne_addNode (by decide) rfl rfl (Nat.le_of_ble_eq_true rfl) ?_
  intro p e s m below meth c Z Q ls C h hl hret
  have hl : lv_has ls 3 [(0, .ref (ad 1)), (1, .int a1), (2, .int a2)] := hl
  refine i_aload_n (n := 1) C 0 rfl rfl rfl hl 0 rfl ?_
  refine fgC_Ne_56 (n := 4) C 1 rfl rfl h ?_
  refine i_bipush (v := (12 : Int32)) (n := 6) C 2 rfl rfl rfl ?_
  refine i_icmp_lt (tgt := 12) (n := 9) C 3 rfl rfl rfl (fun c1 => ?_) (fun c1 => ?_)
  · replace hw := hw.1 c1
    refine i_aload_n (n := 13) C 6 rfl rfl rfl hl 0 rfl ?_
    refine fgC_Ne_18 (n := 16) C 7 rfl rfl h ?_
    refine i_aload_n (n := 17) C 8 rfl rfl rfl hl 0 rfl ?_
    refine fgC_Ne_56 (n := 20) C 9 rfl rfl h ?_
    refine i_iload_n (n := 21) C 10 rfl rfl rfl hl 1 rfl ?_
    obtain ⟨hb, hw⟩ := hw
    refine i_iast (n := 22) C 11 rfl rfl h (wC_arr 7 (by decide) rfl) hb (wC_sA 7 (by decide) rfl _ _) (fun H locs h => ?_)
    refine i_aload_n (n := 23) C 12 rfl rfl rfl hl 0 rfl ?_
    refine fgC_Ne_22 (n := 26) C 13 rfl rfl h ?_
    refine i_aload_n (n := 27) C 14 rfl rfl rfl hl 0 rfl ?_
    refine fgC_Ne_56 (n := 30) C 15 rfl rfl h ?_
    refine i_iload_n (n := 31) C 16 rfl rfl rfl hl 2 rfl ?_
    obtain ⟨hb, hw⟩ := hw
    refine i_iast (n := 32) C 17 rfl rfl h (wC_arr 8 (by decide) rfl) hb (wC_sA 8 (by decide) rfl _ _) (fun H locs h => ?_)
    refine i_aload_n (n := 33) C 18 rfl rfl rfl hl 0 rfl ?_
    refine fgC_Ne_25 (n := 36) C 19 rfl rfl h ?_
    refine i_aload_n (n := 37) C 20 rfl rfl rfl hl 0 rfl ?_
    refine fgC_Ne_56 (n := 40) C 21 rfl rfl h ?_
    refine i_bipush (v := (10 : Int32)) (n := 42) C 22 rfl rfl rfl ?_
    refine i_iload_n (n := 43) C 23 rfl rfl rfl hl 1 rfl ?_
    refine i_imul (n := 44) C 24 rfl rfl ?_
    obtain ⟨hb, hw⟩ := hw
    refine i_iast (n := 45) C 25 rfl rfl h (wC_arr 9 (by decide) rfl) hb (wC_sA 9 (by decide) rfl _ _) (fun H locs h => ?_)
    refine i_aload_n (n := 46) C 26 rfl rfl rfl hl 0 rfl ?_
    refine i_dup (n := 47) C 27 rfl rfl rfl ?_
    refine fgC_Ne_56 (n := 50) C 28 rfl rfl h ?_
    refine i_dup_x1 (n := 51) C 29 rfl rfl rfl rfl ?_
    refine i_iconst (v := (1 : Int32)) (n := 52) C 30 rfl rfl rfl ?_
    refine i_iadd (n := 53) C 31 rfl rfl ?_
    refine fpC_Ne_56 (n := 56) C 32 rfl rfl h (fun H locs h => ?_)
    exact hret _ (va_up I 4 ((I 4) + (1 : Int32)), sA (sA (sA A 7 (I 4) a1) 8 (I 4) a2) 9 (I 4) ((10 : Int32) * a1)) _ _ _ _ rfl hw h (C.dg (k := 33) rfl)
  · replace hw := hw.2 c1
    refine i_bipush (v := (-4 : Int32)) (n := 11) C 4 rfl rfl rfl ?_
    exact hret _ (I, A) _ _ _ _ rfl hw h (C.dg (k := 5) rfl)
end S1
theorem kS_Pw_69 {R : Room} {s : State} {args : Array Value} (hR : 0 + 1 ≤ R.frames ∧ 8 + (3 + 11) + 0 ≤ R.locals) (ht : ∀ w ∈ GW, w.before args s = true) : CallB R s args R_Pw 69 y_Pw_isWithin c_Pw_isWithin 3 (some .boolean) (WL y_Pw_isWithin c_Pw_isWithin 3 (some .boolean)) { frames := 0, cells := 0, slots := 0, locals := 0 } 0 0 3 ∧ (Cond.static y_Pw_isWithin).before args s = true := cwS 3 ht (GW_s w_2_15 w_2_16 w_1_1 (GW_wl w_2_17)) rfl rfl rfl (by decide +kernel) hR
theorem kV_Pw_73 {R : Room} {s : State} {args : Array Value} (hR : 0 + 1 ≤ R.frames ∧ 8 + (3 + 11) + 0 ≤ R.locals) (ht : ∀ w ∈ GW, w.before args s = true) : CallW R s args R_Pw R_Ne 73 y_Ne_addNode c_Ne_addNode 3 (some .int) (WL y_Ne_addNode c_Ne_addNode 3 (some .int)) { frames := 0, cells := 0, slots := 0, locals := 0 } 0 0 2 := cwV 2 ht (GW_v w_2_18 w_2_19 w_2_20 w_1_2 (GW_wl w_2_21)) rfl rfl rfl (by decide +kernel) hR
section S2
variable {p : Program} {l : Launch} {e : Env} {R : Room} {s : State} {m : MethodId} {args : Array Value} {below : List Frame} {meth : Method} {c : Code} {H : Heap} {locs : List Loc} {cells slots : Nat} {Q : State → Prop}
variable {cc : ByteArray} {pc n nL : Nat} {ls : Array Slot} {rest : List Value} {D : va_G} {cy : Nat → ClassId} {Z : Nat → Prop} {ad : Nat → Nat} {tb : List (Nat × Instr × Nat)} {lv : List (Nat × Value)}
set_option maxHeartbeats 4000000 in
set_option maxRecDepth 100000 in
theorem m_Pw_node {l : Launch} {D : va_G} {cy : Nat → ClassId} {ad : Nat → Nat} {I : Nat → Int32} {A : Nat → Nat → Int32} {T : Nat → Option Nat} {L : List Nat} {K : Nat → Nat} {F : Nat → Nat → Int32} {a1 : Int32} {a2 : Int32} {P : Int32 → ((Nat → Int32) × (Nat → Nat → Int32)) → Prop} (hw : g_Pw_node I A a1 a2 P) : ∀ sz, Met l y_Pw_node (WL y_Pw_node c_Pw_node 3 (some .int)) { frames := 1, cells := 0, slots := 0, locals := 22 } (va_Pc [.ref (ad 0), .int a1, .int a2] (PreW D cy (wC cy ad I A T L K F) sz)) (va_Qi P (fun u t => PostW D (va_A (wC cy ad I A T L K F) sz) ((fun (u : (Nat → Int32) × (Nat → Nat → Int32)) => wC cy ad u.1 u.2 T L K F) u) t) (va_A (wC cy ad I A T L K F) sz)) 0 0 (va_A (wC cy ad I A T L K F) sz) := by
  refine met_i (wf := fun (u : (Nat → Int32) × (Nat → Nat → Int32)) => wC cy ad u.1 u.2 T L K F) R_Pw .int db_Pw_node (by decide) rfl rfl (Nat.le_of_ble_eq_true rfl) ?_
  intro p e s m below meth c Z Q ls C h hl hret
  have hl : lv_has ls 3 [(0, .ref (ad 0)), (1, .int a1), (2, .int a2)] := hl
  refine i_iload_n (n := 1) C 0 rfl rfl rfl hl 1 rfl ?_
  refine i_iconst (v := (0 : Int32)) (n := 2) C 1 rfl rfl rfl ?_
  refine i_sipush (v := (200 : Int32)) (n := 5) C 2 rfl rfl rfl ?_
  refine i_callSp (rest := []) (n := 8) C 3 rfl rfl hl h (kS_Pw_69 ⟨by decide, by decide⟩) (m_Pw_isWithin hw) rfl rfl (Nat.le_of_ble_eq_true rfl) ⟨by decide, by decide⟩ (fun r1 hw => ?_)
  refine i_if_eq (tgt := 20) (n := 11) C 4 rfl rfl rfl (fun c2 => ?_) (fun c2 => ?_)
  · replace hw := hw.1 c2
    refine i_bipush (v := (-2 : Int32)) (n := 22) C 10 rfl rfl rfl ?_
    exact hret _ (I, A) _ _ _ _ rfl hw h (C.dg (k := 11) rfl)
  · replace hw := hw.2 c2
    refine i_iload_n (n := 12) C 5 rfl rfl rfl hl 2 rfl ?_
    refine i_iconst (v := (0 : Int32)) (n := 13) C 6 rfl rfl rfl ?_
    refine i_iconst (v := (3 : Int32)) (n := 14) C 7 rfl rfl rfl ?_
    refine i_callSp (rest := []) (n := 17) C 8 rfl rfl hl h (kS_Pw_69 ⟨by decide, by decide⟩) (m_Pw_isWithin hw) rfl rfl (Nat.le_of_ble_eq_true rfl) ⟨by decide, by decide⟩ (fun r3 hw => ?_)
    refine i_if_ne (tgt := 23) (n := 20) C 9 rfl rfl rfl (fun c4 => ?_) (fun c4 => ?_)
    · replace hw := hw.1 c4
      refine i_aload_n (n := 24) C 12 rfl rfl rfl hl 0 rfl ?_
      refine fgC_Pw_10 (n := 27) C 13 rfl rfl h ?_
      refine i_iload_n (n := 28) C 14 rfl rfl rfl hl 1 rfl ?_
      refine i_iload_n (n := 29) C 15 rfl rfl rfl hl 2 rfl ?_
      refine i_callVi (rest := []) (ci := 5) (qc := (R_Ne, T_Ne, 17)) (n := 32) C 16 rfl rfl hl h rfl (wC_get (h := 1) (by decide)) (kV_Pw_73 ⟨by decide, by decide⟩) (m_Ne_addNode hw) rfl rfl (Nat.le_of_ble_eq_true rfl) ⟨by decide, by decide⟩ (fun r5 u6 H locs hw h => ?_)
      exact hret _ (u6.1, u6.2) _ _ _ _ rfl hw h (C.dg (k := 17) rfl)
    · replace hw := hw.2 c4
      refine i_bipush (v := (-2 : Int32)) (n := 22) C 10 rfl rfl rfl ?_
      exact hret _ (I, A) _ _ _ _ rfl hw h (C.dg (k := 11) rfl)
end S2
section S3
variable {p : Program} {l : Launch} {e : Env} {R : Room} {s : State} {m : MethodId} {args : Array Value} {below : List Frame} {meth : Method} {c : Code} {H : Heap} {locs : List Loc} {cells slots : Nat} {Q : State → Prop}
variable {cc : ByteArray} {pc n nL : Nat} {ls : Array Slot} {rest : List Value} {D : va_G} {cy : Nat → ClassId} {Z : Nat → Prop} {ad : Nat → Nat} {tb : List (Nat × Instr × Nat)} {lv : List (Nat × Value)}
set_option maxHeartbeats 4000000 in
set_option maxRecDepth 100000 in
theorem m_Ne_has {l : Launch} {D : va_G} {cy : Nat → ClassId} {ad : Nat → Nat} {I : Nat → Int32} {A : Nat → Nat → Int32} {T : Nat → Option Nat} {L : List Nat} {K : Nat → Nat} {F : Nat → Nat → Int32} {a1 : Int32} {P : Int32 → Prop} (hw : g_Ne_has I a1 P) : ∀ sz, Met l y_Ne_has (WL y_Ne_has c_Ne_has 2 (some .boolean)) { frames := 0, cells := 0, slots := 0, locals := 0 } (va_Pc [.ref (ad 1), .int a1] (PreW D cy (wC cy ad I A T L K F) sz)) (vp_Si P) 0 0 (fun _ => False) := by
  refine met_p R_Ne .boolean db_Ne_has (by decide) rfl rfl (Nat.le_of_ble_eq_true rfl) ?_
  intro p e s m below meth c Z Q ls C h hl hret
  have hl : lv_has ls 2 [(0, .ref (ad 1)), (1, .int a1)] := hl
  refine i_iload_n (n := 1) C 0 rfl rfl rfl hl 1 rfl ?_
  refine i_if_lt (tgt := 16) (n := 4) C 1 rfl rfl rfl (fun c1 => ?_) (fun c1 => ?_)
  · replace hw := hw.1 c1
    refine i_iconst (v := (0 : Int32)) (n := 17) C 8 rfl rfl rfl ?_
    exact hret _ _ _ rfl hw (C.dg (k := 9) rfl)
  · replace hw := hw.2 c1
    refine i_iload_n (n := 5) C 2 rfl rfl rfl hl 1 rfl ?_
    refine i_aload_n (n := 6) C 3 rfl rfl rfl hl 0 rfl ?_
    refine fgC_Ne_56 (n := 9) C 4 rfl rfl h ?_
    refine i_icmp_ge (tgt := 16) (n := 12) C 5 rfl rfl rfl (fun c2 => ?_) (fun c2 => ?_)
    · replace hw := hw.1 c2
      refine i_iconst (v := (0 : Int32)) (n := 17) C 8 rfl rfl rfl ?_
      exact hret _ _ _ rfl hw (C.dg (k := 9) rfl)
    · replace hw := hw.2 c2
      refine i_iconst (v := (1 : Int32)) (n := 13) C 6 rfl rfl rfl ?_
      refine i_goto (tgt := 17) C 7 rfl rfl ?_
      exact hret _ _ _ rfl hw (C.dg (k := 9) rfl)
end S3
section S4
variable {p : Program} {l : Launch} {e : Env} {R : Room} {s : State} {m : MethodId} {args : Array Value} {below : List Frame} {meth : Method} {c : Code} {H : Heap} {locs : List Loc} {cells slots : Nat} {Q : State → Prop}
variable {cc : ByteArray} {pc n nL : Nat} {ls : Array Slot} {rest : List Value} {D : va_G} {cy : Nat → ClassId} {Z : Nat → Prop} {ad : Nat → Nat} {tb : List (Nat × Instr × Nat)} {lv : List (Nat × Value)}
set_option maxHeartbeats 4000000 in
set_option maxRecDepth 100000 in
theorem e_Pi_addMain_71 {T : Nat → Option Nat} {L : List Nat} {K : Nat → Nat} {F : Nat → Nat → Int32} {a1 : Int32} {a2 : Int32} {a3 : Int32} {P : Int32 → ((Nat → Int32) × (Nat → Nat → Int32)) → Prop} {kb15 : (Nat → Int32) → (Nat → Nat → Int32) → Int32 → Prop} (C : CX D cy R_Pi c_Pi_addMain tb_Pi_addMain 5 p s m args c Z) (hret : RetI p l e { frames := 0, cells := 0, slots := 0, locals := 0 } s m args below meth c c_Pi_addMain .int D Z Q (fun (u : (Nat → Int32) × (Nat → Nat → Int32)) => wC cy ad u.1 u.2 T L K F) P 0 0)
    (hb15 : ∀ (I : Nat → Int32) (A : Nat → Nat → Int32) (x4 : Int32) (ls : Array Slot) (H : Heap) (locs : List Loc), lv_has ls 5 [(0, .ref (ad 2)), (1, .int a1), (2, .int a2), (3, .int a3), (4, .int x4)] → HXw D Z s.heap H locs (wC cy ad I A T L K F) → kb15 I A x4 → W p l e { frames := 0, cells := 0, slots := 0, locals := 0 } s m args below meth c H locs 0 0 Q (F0 m 15 ls [])) :
    ∀ (I : Nat → Int32) (A : Nat → Nat → Int32) (x4 : Int32) (ls : Array Slot) (H : Heap) (locs : List Loc), lv_has ls 5 [(0, .ref (ad 2)), (1, .int a1), (2, .int a2), (3, .int a3), (4, .int x4)] → HXw D Z s.heap H locs (wC cy ad I A T L K F) → g_Pi_addMain_71 a1 a2 a3 P kb15 I A x4 → W p l e { frames := 0, cells := 0, slots := 0, locals := 0 } s m args below meth c H locs 0 0 Q (F0 m 71 ls []) := by
  intro I A x4 ls H locs hl h hw
  refine i_iinc (v := x4 + (1 : Int32)) (lv' := [(4, .int (x4 + (1 : Int32))), (0, .ref (ad 2)), (1, .int a1), (2, .int a2), (3, .int a3)]) (n := 74) C 38 rfl rfl hl 4 rfl rfl (by decide) rfl (fun ls hl => ?_)
  refine i_goto (tgt := 15) C 39 rfl rfl ?_
  exact hb15 I A (x4 + (1 : Int32)) ls _ _ (lv_sub hl [1, 2, 3, 4, 0] rfl) h hw
set_option maxHeartbeats 4000000 in
set_option maxRecDepth 100000 in
theorem e_Pi_addMain_46 {T : Nat → Option Nat} {L : List Nat} {K : Nat → Nat} {F : Nat → Nat → Int32} {a1 : Int32} {a2 : Int32} {a3 : Int32} {P : Int32 → ((Nat → Int32) × (Nat → Nat → Int32)) → Prop} {kb15 : (Nat → Int32) → (Nat → Nat → Int32) → Int32 → Prop} (C : CX D cy R_Pi c_Pi_addMain tb_Pi_addMain 5 p s m args c Z) (hret : RetI p l e { frames := 0, cells := 0, slots := 0, locals := 0 } s m args below meth c c_Pi_addMain .int D Z Q (fun (u : (Nat → Int32) × (Nat → Nat → Int32)) => wC cy ad u.1 u.2 T L K F) P 0 0)
    (hb15 : ∀ (I : Nat → Int32) (A : Nat → Nat → Int32) (x4 : Int32) (ls : Array Slot) (H : Heap) (locs : List Loc), lv_has ls 5 [(0, .ref (ad 2)), (1, .int a1), (2, .int a2), (3, .int a3), (4, .int x4)] → HXw D Z s.heap H locs (wC cy ad I A T L K F) → kb15 I A x4 → W p l e { frames := 0, cells := 0, slots := 0, locals := 0 } s m args below meth c H locs 0 0 Q (F0 m 15 ls [])) :
    ∀ (I : Nat → Int32) (A : Nat → Nat → Int32) (x4 : Int32) (ls : Array Slot) (H : Heap) (locs : List Loc), lv_has ls 5 [(0, .ref (ad 2)), (1, .int a1), (2, .int a2), (3, .int a3), (4, .int x4)] → HXw D Z s.heap H locs (wC cy ad I A T L K F) → g_Pi_addMain_46 a1 a2 a3 P kb15 I A x4 → W p l e { frames := 0, cells := 0, slots := 0, locals := 0 } s m args below meth c H locs 0 0 Q (F0 m 46 ls []) := by
  intro I A x4 ls H locs hl h hw
  refine i_aload_n (n := 47) C 24 rfl rfl rfl hl 0 rfl ?_
  refine fgC_Pi_9 (n := 50) C 25 rfl rfl h ?_
  refine i_iload (n := 52) C 26 rfl rfl hl 4 rfl ?_
  obtain ⟨hb, hw⟩ := hw
  refine i_iald (n := 53) C 27 rfl rfl h (wC_arr 17 (by decide) rfl) hb ?_
  refine i_iload_n (n := 54) C 28 rfl rfl rfl hl 2 rfl ?_
  refine i_icmp_ne (tgt := 71) (n := 57) C 29 rfl rfl rfl (fun c4 => ?_) (fun c4 => ?_)
  · replace hw := hw.1 c4
    exact e_Pi_addMain_71 C hret hb15 I A x4 ls _ _ hl h hw
  · replace hw := hw.2 c4
    refine i_aload_n (n := 58) C 30 rfl rfl rfl hl 0 rfl ?_
    refine fgC_Pi_15 (n := 61) C 31 rfl rfl h ?_
    refine i_iload (n := 63) C 32 rfl rfl hl 4 rfl ?_
    obtain ⟨hb, hw⟩ := hw
    refine i_iald (n := 64) C 33 rfl rfl h (wC_arr 18 (by decide) rfl) hb ?_
    refine i_iload_n (n := 65) C 34 rfl rfl rfl hl 1 rfl ?_
    refine i_icmp_ne (tgt := 71) (n := 68) C 35 rfl rfl rfl (fun c5 => ?_) (fun c5 => ?_)
    · replace hw := hw.1 c5
      exact e_Pi_addMain_71 C hret hb15 I A x4 ls _ _ hl h hw
    · replace hw := hw.2 c5
      refine i_bipush (v := (-5 : Int32)) (n := 70) C 36 rfl rfl rfl ?_
      exact hret _ (I, A) _ _ _ _ rfl hw h (C.dg (k := 37) rfl)
set_option maxHeartbeats 4000000 in
set_option maxRecDepth 100000 in
theorem e_Pi_addMain_15 {T : Nat → Option Nat} {L : List Nat} {K : Nat → Nat} {F : Nat → Nat → Int32} {a1 : Int32} {a2 : Int32} {a3 : Int32} {P : Int32 → ((Nat → Int32) × (Nat → Nat → Int32)) → Prop} {kx15 : (Nat → Int32) → (Nat → Nat → Int32) → Prop} (C : CX D cy R_Pi c_Pi_addMain tb_Pi_addMain 5 p s m args c Z) (hret : RetI p l e { frames := 0, cells := 0, slots := 0, locals := 0 } s m args below meth c c_Pi_addMain .int D Z Q (fun (u : (Nat → Int32) × (Nat → Nat → Int32)) => wC cy ad u.1 u.2 T L K F) P 0 0)
    (hx15 : ∀ (I : Nat → Int32) (A : Nat → Nat → Int32) (ls : Array Slot) (H : Heap) (locs : List Loc), lv_has ls 5 [(0, .ref (ad 2)), (1, .int a1), (2, .int a2), (3, .int a3)] → HXw D Z s.heap H locs (wC cy ad I A T L K F) → kx15 I A → W p l e { frames := 0, cells := 0, slots := 0, locals := 0 } s m args below meth c H locs 0 0 Q (F0 m 77 ls [])) :
    ∀ (n : Nat) (I : Nat → Int32) (A : Nat → Nat → Int32) (x4 : Int32) (ls : Array Slot) (H : Heap) (locs : List Loc), lv_has ls 5 [(0, .ref (ad 2)), (1, .int a1), (2, .int a2), (3, .int a3), (4, .int x4)] → HXw D Z s.heap H locs (wC cy ad I A T L K F) → g_Pi_addMain_15 a1 a2 a3 P kx15 n I A x4 → W p l e { frames := 0, cells := 0, slots := 0, locals := 0 } s m args below meth c H locs 0 0 Q (F0 m 15 ls []) := by
  intro n
  induction n with
  | zero => intro I A x4 ls H locs hl h hw; exact hw.elim
  | succ n ih =>
    intro I A x4 ls H locs hl h hw
    refine i_iload (n := 17) C 8 rfl rfl hl 4 rfl ?_
    refine i_aload_n (n := 18) C 9 rfl rfl rfl hl 0 rfl ?_
    refine fgC_Pi_27 (n := 21) C 10 rfl rfl h ?_
    refine i_icmp_ge (tgt := 77) (n := 24) C 11 rfl rfl rfl (fun c2 => ?_) (fun c2 => ?_)
    · replace hw := hw.1 c2
      exact hx15 I A ls _ _ (lv_sub hl [0, 1, 2, 3] rfl) h hw
    · replace hw := hw.2 c2
      refine i_aload_n (n := 25) C 12 rfl rfl rfl hl 0 rfl ?_
      refine fgC_Pi_9 (n := 28) C 13 rfl rfl h ?_
      refine i_iload (n := 30) C 14 rfl rfl hl 4 rfl ?_
      obtain ⟨hb, hw⟩ := hw
      refine i_iald (n := 31) C 15 rfl rfl h (wC_arr 17 (by decide) rfl) hb ?_
      refine i_iload_n (n := 32) C 16 rfl rfl rfl hl 1 rfl ?_
      refine i_icmp_ne (tgt := 46) (n := 35) C 17 rfl rfl rfl (fun c3 => ?_) (fun c3 => ?_)
      · replace hw := hw.1 c3
        exact e_Pi_addMain_46 C hret ih I A x4 ls _ _ hl h hw
      · replace hw := hw.2 c3
        refine i_aload_n (n := 36) C 18 rfl rfl rfl hl 0 rfl ?_
        refine fgC_Pi_15 (n := 39) C 19 rfl rfl h ?_
        refine i_iload (n := 41) C 20 rfl rfl hl 4 rfl ?_
        obtain ⟨hb, hw⟩ := hw
        refine i_iald (n := 42) C 21 rfl rfl h (wC_arr 18 (by decide) rfl) hb ?_
        refine i_iload_n (n := 43) C 22 rfl rfl rfl hl 2 rfl ?_
        refine i_icmp_eq (tgt := 68) (n := 46) C 23 rfl rfl rfl (fun c6 => ?_) (fun c6 => ?_)
        · replace hw := hw.1 c6
          refine i_bipush (v := (-5 : Int32)) (n := 70) C 36 rfl rfl rfl ?_
          exact hret _ (I, A) _ _ _ _ rfl hw h (C.dg (k := 37) rfl)
        · replace hw := hw.2 c6
          exact e_Pi_addMain_46 C hret ih I A x4 ls _ _ hl h hw
set_option maxHeartbeats 4000000 in
set_option maxRecDepth 100000 in
theorem m_Pi_addMain {l : Launch} {D : va_G} {cy : Nat → ClassId} {ad : Nat → Nat} {I : Nat → Int32} {A : Nat → Nat → Int32} {T : Nat → Option Nat} {L : List Nat} {K : Nat → Nat} {F : Nat → Nat → Int32} {a1 : Int32} {a2 : Int32} {a3 : Int32} {P : Int32 → ((Nat → Int32) × (Nat → Nat → Int32)) → Prop} (hw : g_Pi_addMain I A a1 a2 a3 P) : ∀ sz, Met l y_Pi_addMain (WL y_Pi_addMain c_Pi_addMain 5 (some .int)) { frames := 0, cells := 0, slots := 0, locals := 0 } (va_Pc [.ref (ad 2), .int a1, .int a2, .int a3] (PreW D cy (wC cy ad I A T L K F) sz)) (va_Qi P (fun u t => PostW D (va_A (wC cy ad I A T L K F) sz) ((fun (u : (Nat → Int32) × (Nat → Nat → Int32)) => wC cy ad u.1 u.2 T L K F) u) t) (va_A (wC cy ad I A T L K F) sz)) 0 0 (va_A (wC cy ad I A T L K F) sz) := by
  refine met_i (wf := fun (u : (Nat → Int32) × (Nat → Nat → Int32)) => wC cy ad u.1 u.2 T L K F) R_Pi .int db_Pi_addMain (by decide) rfl rfl (Nat.le_of_ble_eq_true rfl) ?_
  intro p e s m below meth c Z Q ls C h hl hret
  have hl : lv_has ls 5 [(0, .ref (ad 2)), (1, .int a1), (2, .int a2), (3, .int a3)] := hl
  refine i_aload_n (n := 1) C 0 rfl rfl rfl hl 0 rfl ?_
  refine fgC_Pi_27 (n := 4) C 1 rfl rfl h ?_
  refine i_bipush (v := (18 : Int32)) (n := 6) C 2 rfl rfl rfl ?_
  refine i_icmp_lt (tgt := 12) (n := 9) C 3 rfl rfl rfl (fun c1 => ?_) (fun c1 => ?_)
  · replace hw := hw.1 c1
    refine i_iconst (v := (0 : Int32)) (n := 13) C 6 rfl rfl rfl ?_
    refine i_istore (lv' := [(4, .int (0 : Int32)), (0, .ref (ad 2)), (1, .int a1), (2, .int a2), (3, .int a3)]) (n := 15) C 7 rfl rfl hl (by decide) rfl (fun ls hl => ?_)
    obtain ⟨n7, hw⟩ := hw
    refine e_Pi_addMain_15 C hret (fun I_7 A_7 ls H locs hl h hw => ?_) n7 I A (0 : Int32) ls _ _ (lv_sub hl [1, 2, 3, 4, 0] rfl) h hw
    have hl : lv_has ls 5 [(0, .ref (ad 2)), (1, .int a1), (2, .int a2), (3, .int a3)] := hl
    refine i_aload_n (n := 78) C 40 rfl rfl rfl hl 0 rfl ?_
    refine fgC_Pi_9 (n := 81) C 41 rfl rfl h ?_
    refine i_aload_n (n := 82) C 42 rfl rfl rfl hl 0 rfl ?_
    refine fgC_Pi_27 (n := 85) C 43 rfl rfl h ?_
    refine i_iload_n (n := 86) C 44 rfl rfl rfl hl 1 rfl ?_
    obtain ⟨hb, hw⟩ := hw
    refine i_iast (n := 87) C 45 rfl rfl h (wC_arr 17 (by decide) rfl) hb (wC_sA 17 (by decide) rfl _ _) (fun H locs h => ?_)
    refine i_aload_n (n := 88) C 46 rfl rfl rfl hl 0 rfl ?_
    refine fgC_Pi_15 (n := 91) C 47 rfl rfl h ?_
    refine i_aload_n (n := 92) C 48 rfl rfl rfl hl 0 rfl ?_
    refine fgC_Pi_27 (n := 95) C 49 rfl rfl h ?_
    refine i_iload_n (n := 96) C 50 rfl rfl rfl hl 2 rfl ?_
    obtain ⟨hb, hw⟩ := hw
    refine i_iast (n := 97) C 51 rfl rfl h (wC_arr 18 (by decide) rfl) hb (wC_sA 18 (by decide) rfl _ _) (fun H locs h => ?_)
    refine i_aload_n (n := 98) C 52 rfl rfl rfl hl 0 rfl ?_
    refine fgC_Pi_18 (n := 101) C 53 rfl rfl h ?_
    refine i_aload_n (n := 102) C 54 rfl rfl rfl hl 0 rfl ?_
    refine fgC_Pi_27 (n := 105) C 55 rfl rfl h ?_
    refine i_iload_n (n := 106) C 56 rfl rfl rfl hl 3 rfl ?_
    obtain ⟨hb, hw⟩ := hw
    refine i_iast (n := 107) C 57 rfl rfl h (wC_arr 19 (by decide) rfl) hb (wC_sA 19 (by decide) rfl _ _) (fun H locs h => ?_)
    refine i_aload_n (n := 108) C 58 rfl rfl rfl hl 0 rfl ?_
    refine i_dup (n := 109) C 59 rfl rfl rfl ?_
    refine fgC_Pi_27 (n := 112) C 60 rfl rfl h ?_
    refine i_dup_x1 (n := 113) C 61 rfl rfl rfl rfl ?_
    refine i_iconst (v := (1 : Int32)) (n := 114) C 62 rfl rfl rfl ?_
    refine i_iadd (n := 115) C 63 rfl rfl ?_
    refine fpC_Pi_27 (n := 118) C 64 rfl rfl h (fun H locs h => ?_)
    exact hret _ (va_up I_7 9 ((I_7 9) + (1 : Int32)), sA (sA (sA A_7 17 (I_7 9) a1) 18 (I_7 9) a2) 19 (I_7 9) a3) _ _ _ _ rfl hw h (C.dg (k := 65) rfl)
  · replace hw := hw.2 c1
    refine i_bipush (v := (-4 : Int32)) (n := 11) C 4 rfl rfl rfl ?_
    exact hret _ (I, A) _ _ _ _ rfl hw h (C.dg (k := 5) rfl)
end S4
theorem kV_Pw_77 {R : Room} {s : State} {args : Array Value} (hR : 0 + 1 ≤ R.frames ∧ 8 + (2 + 11) + 0 ≤ R.locals) (ht : ∀ w ∈ GW, w.before args s = true) : CallW R s args R_Pw R_Ne 77 y_Ne_has c_Ne_has 2 (some .boolean) (WL y_Ne_has c_Ne_has 2 (some .boolean)) { frames := 0, cells := 0, slots := 0, locals := 0 } 0 0 1 := cwV 1 ht (GW_v w_2_26 w_2_27 w_2_28 w_1_2 (GW_wl w_2_29)) rfl rfl rfl (by decide +kernel) hR
theorem kV_Pw_81 {R : Room} {s : State} {args : Array Value} (hR : 0 + 1 ≤ R.frames ∧ 8 + (5 + 11) + 0 ≤ R.locals) (ht : ∀ w ∈ GW, w.before args s = true) : CallW R s args R_Pw R_Pi 81 y_Pi_addMain c_Pi_addMain 5 (some .int) (WL y_Pi_addMain c_Pi_addMain 5 (some .int)) { frames := 0, cells := 0, slots := 0, locals := 0 } 0 0 3 := cwV 3 ht (GW_v w_2_30 w_2_31 w_2_32 w_1_3 (GW_wl w_2_33)) rfl rfl rfl (by decide +kernel) hR
section S5
variable {p : Program} {l : Launch} {e : Env} {R : Room} {s : State} {m : MethodId} {args : Array Value} {below : List Frame} {meth : Method} {c : Code} {H : Heap} {locs : List Loc} {cells slots : Nat} {Q : State → Prop}
variable {cc : ByteArray} {pc n nL : Nat} {ls : Array Slot} {rest : List Value} {D : va_G} {cy : Nat → ClassId} {Z : Nat → Prop} {ad : Nat → Nat} {tb : List (Nat × Instr × Nat)} {lv : List (Nat × Value)}
set_option maxHeartbeats 4000000 in
set_option maxRecDepth 100000 in
theorem m_Pw_main {l : Launch} {D : va_G} {cy : Nat → ClassId} {ad : Nat → Nat} {I : Nat → Int32} {A : Nat → Nat → Int32} {T : Nat → Option Nat} {L : List Nat} {K : Nat → Nat} {F : Nat → Nat → Int32} {a1 : Int32} {a2 : Int32} {a3 : Int32} {P : Int32 → ((Nat → Int32) × (Nat → Nat → Int32)) → Prop} (hw : g_Pw_main I A a1 a2 a3 P) : ∀ sz, Met l y_Pw_main (WL y_Pw_main c_Pw_main 4 (some .int)) { frames := 1, cells := 0, slots := 0, locals := 24 } (va_Pc [.ref (ad 0), .int a1, .int a2, .int a3] (PreW D cy (wC cy ad I A T L K F) sz)) (va_Qi P (fun u t => PostW D (va_A (wC cy ad I A T L K F) sz) ((fun (u : (Nat → Int32) × (Nat → Nat → Int32)) => wC cy ad u.1 u.2 T L K F) u) t) (va_A (wC cy ad I A T L K F) sz)) 0 0 (va_A (wC cy ad I A T L K F) sz) := by
  refine met_i (wf := fun (u : (Nat → Int32) × (Nat → Nat → Int32)) => wC cy ad u.1 u.2 T L K F) R_Pw .int db_Pw_main (by decide) rfl rfl (Nat.le_of_ble_eq_true rfl) ?_
  intro p e s m below meth c Z Q ls C h hl hret
  have hl : lv_has ls 4 [(0, .ref (ad 0)), (1, .int a1), (2, .int a2), (3, .int a3)] := hl
  refine i_aload_n (n := 1) C 0 rfl rfl rfl hl 0 rfl ?_
  refine fgC_Pw_10 (n := 4) C 1 rfl rfl h ?_
  refine i_iload_n (n := 5) C 2 rfl rfl rfl hl 1 rfl ?_
  refine i_callVp (rest := []) (ci := 5) (qc := (R_Ne, T_Ne, 17)) (n := 8) C 3 rfl rfl hl h rfl (wC_get (h := 1) (by decide)) (kV_Pw_77 ⟨by decide, by decide⟩) (m_Ne_has hw) rfl rfl (Nat.le_of_ble_eq_true rfl) ⟨by decide, by decide⟩ (fun r1 hw => ?_)
  refine i_if_eq (tgt := 27) (n := 11) C 4 rfl rfl rfl (fun c2 => ?_) (fun c2 => ?_)
  · replace hw := hw.1 c2
    refine i_iconst (v := (-1 : Int32)) (n := 28) C 13 rfl rfl rfl ?_
    exact hret _ (I, A) _ _ _ _ rfl hw h (C.dg (k := 14) rfl)
  · replace hw := hw.2 c2
    refine i_aload_n (n := 12) C 5 rfl rfl rfl hl 0 rfl ?_
    refine fgC_Pw_10 (n := 15) C 6 rfl rfl h ?_
    refine i_iload_n (n := 16) C 7 rfl rfl rfl hl 2 rfl ?_
    refine i_callVp (rest := []) (ci := 5) (qc := (R_Ne, T_Ne, 17)) (n := 19) C 8 rfl rfl hl h rfl (wC_get (h := 1) (by decide)) (kV_Pw_77 ⟨by decide, by decide⟩) (m_Ne_has hw) rfl rfl (Nat.le_of_ble_eq_true rfl) ⟨by decide, by decide⟩ (fun r3 hw => ?_)
    refine i_if_eq (tgt := 27) (n := 22) C 9 rfl rfl rfl (fun c4 => ?_) (fun c4 => ?_)
    · replace hw := hw.1 c4
      refine i_iconst (v := (-1 : Int32)) (n := 28) C 13 rfl rfl rfl ?_
      exact hret _ (I, A) _ _ _ _ rfl hw h (C.dg (k := 14) rfl)
    · replace hw := hw.2 c4
      refine i_iload_n (n := 23) C 10 rfl rfl rfl hl 1 rfl ?_
      refine i_iload_n (n := 24) C 11 rfl rfl rfl hl 2 rfl ?_
      refine i_icmp_ne (tgt := 29) (n := 27) C 12 rfl rfl rfl (fun c5 => ?_) (fun c5 => ?_)
      · replace hw := hw.1 c5
        refine i_iload_n (n := 30) C 15 rfl rfl rfl hl 3 rfl ?_
        refine i_iconst (v := (1 : Int32)) (n := 31) C 16 rfl rfl rfl ?_
        refine i_sipush (v := (1000 : Int32)) (n := 34) C 17 rfl rfl rfl ?_
        refine i_callSp (rest := []) (n := 37) C 18 rfl rfl hl h (kS_Pw_69 ⟨by decide, by decide⟩) (m_Pw_isWithin hw) rfl rfl (Nat.le_of_ble_eq_true rfl) ⟨by decide, by decide⟩ (fun r6 hw => ?_)
        refine i_if_eq (tgt := 53) (n := 40) C 19 rfl rfl rfl (fun c7 => ?_) (fun c7 => ?_)
        · replace hw := hw.1 c7
          refine i_bipush (v := (-2 : Int32)) (n := 55) C 27 rfl rfl rfl ?_
          exact hret _ (I, A) _ _ _ _ rfl hw h (C.dg (k := 28) rfl)
        · replace hw := hw.2 c7
          refine i_aload_n (n := 41) C 20 rfl rfl rfl hl 0 rfl ?_
          refine fgC_Pw_20 (n := 44) C 21 rfl rfl h ?_
          refine i_iload_n (n := 45) C 22 rfl rfl rfl hl 1 rfl ?_
          refine i_iload_n (n := 46) C 23 rfl rfl rfl hl 2 rfl ?_
          refine i_iload_n (n := 47) C 24 rfl rfl rfl hl 3 rfl ?_
          refine i_callVi (rest := []) (ci := 7) (qc := (R_Pi, T_Pi, 8)) (n := 50) C 25 rfl rfl hl h rfl (wC_get (h := 2) (by decide)) (kV_Pw_81 ⟨by decide, by decide⟩) (m_Pi_addMain hw) rfl rfl (Nat.le_of_ble_eq_true rfl) ⟨by decide, by decide⟩ (fun r8 u9 H locs hw h => ?_)
          refine i_goto (tgt := 55) C 26 rfl rfl ?_
          exact hret _ (u9.1, u9.2) _ _ _ _ rfl hw h (C.dg (k := 28) rfl)
      · replace hw := hw.2 c5
        refine i_iconst (v := (-1 : Int32)) (n := 28) C 13 rfl rfl rfl ?_
        exact hret _ (I, A) _ _ _ _ rfl hw h (C.dg (k := 14) rfl)
end S5
section S6
variable {p : Program} {l : Launch} {e : Env} {R : Room} {s : State} {m : MethodId} {args : Array Value} {below : List Frame} {meth : Method} {c : Code} {H : Heap} {locs : List Loc} {cells slots : Nat} {Q : State → Prop}
variable {cc : ByteArray} {pc n nL : Nat} {ls : Array Slot} {rest : List Value} {D : va_G} {cy : Nat → ClassId} {Z : Nat → Prop} {ad : Nat → Nat} {tb : List (Nat × Instr × Nat)} {lv : List (Nat × Value)}
set_option maxHeartbeats 4000000 in
set_option maxRecDepth 100000 in
theorem m_Pi_hasMain {l : Launch} {D : va_G} {cy : Nat → ClassId} {ad : Nat → Nat} {I : Nat → Int32} {A : Nat → Nat → Int32} {T : Nat → Option Nat} {L : List Nat} {K : Nat → Nat} {F : Nat → Nat → Int32} {a1 : Int32} {P : Int32 → Prop} (hw : g_Pi_hasMain I a1 P) : ∀ sz, Met l y_Pi_hasMain (WL y_Pi_hasMain c_Pi_hasMain 2 (some .boolean)) { frames := 0, cells := 0, slots := 0, locals := 0 } (va_Pc [.ref (ad 2), .int a1] (PreW D cy (wC cy ad I A T L K F) sz)) (vp_Si P) 0 0 (fun _ => False) := by
  refine met_p R_Pi .boolean db_Pi_hasMain (by decide) rfl rfl (Nat.le_of_ble_eq_true rfl) ?_
  intro p e s m below meth c Z Q ls C h hl hret
  have hl : lv_has ls 2 [(0, .ref (ad 2)), (1, .int a1)] := hl
  refine i_iload_n (n := 1) C 0 rfl rfl rfl hl 1 rfl ?_
  refine i_if_lt (tgt := 16) (n := 4) C 1 rfl rfl rfl (fun c1 => ?_) (fun c1 => ?_)
  · replace hw := hw.1 c1
    refine i_iconst (v := (0 : Int32)) (n := 17) C 8 rfl rfl rfl ?_
    exact hret _ _ _ rfl hw (C.dg (k := 9) rfl)
  · replace hw := hw.2 c1
    refine i_iload_n (n := 5) C 2 rfl rfl rfl hl 1 rfl ?_
    refine i_aload_n (n := 6) C 3 rfl rfl rfl hl 0 rfl ?_
    refine fgC_Pi_27 (n := 9) C 4 rfl rfl h ?_
    refine i_icmp_ge (tgt := 16) (n := 12) C 5 rfl rfl rfl (fun c2 => ?_) (fun c2 => ?_)
    · replace hw := hw.1 c2
      refine i_iconst (v := (0 : Int32)) (n := 17) C 8 rfl rfl rfl ?_
      exact hret _ _ _ rfl hw (C.dg (k := 9) rfl)
    · replace hw := hw.2 c2
      refine i_iconst (v := (1 : Int32)) (n := 13) C 6 rfl rfl rfl ?_
      refine i_goto (tgt := 17) C 7 rfl rfl ?_
      exact hret _ _ _ rfl hw (C.dg (k := 9) rfl)
end S6
section S7
variable {p : Program} {l : Launch} {e : Env} {R : Room} {s : State} {m : MethodId} {args : Array Value} {below : List Frame} {meth : Method} {c : Code} {H : Heap} {locs : List Loc} {cells slots : Nat} {Q : State → Prop}
variable {cc : ByteArray} {pc n nL : Nat} {ls : Array Slot} {rest : List Value} {D : va_G} {cy : Nat → ClassId} {Z : Nat → Prop} {ad : Nat → Nat} {tb : List (Nat × Instr × Nat)} {lv : List (Nat × Value)}
set_option maxHeartbeats 4000000 in
set_option maxRecDepth 100000 in
theorem e_Pi_valveIn_2 {I : Nat → Int32} {A : Nat → Nat → Int32} {T : Nat → Option Nat} {L : List Nat} {K : Nat → Nat} {F : Nat → Nat → Int32} {k1 : Nat} {a2 : Int32} {P : Int32 → Prop} {kx2 : Prop} (C : CX D cy R_Pi c_Pi_valveIn tb_Pi_valveIn 4 p s m args c Z) (h : HXw D Z s.heap H locs (wC cy ad I A T L K F)) (hk1 : k1 < 41 ∧ tyC k1 = 0) (hret : RetP p l e { frames := 0, cells := 0, slots := 0, locals := 0 } s m args below meth c c_Pi_valveIn .int H locs Q P)
    (hx2 : ∀ (ls : Array Slot), lv_has ls 4 [] → kx2  → W p l e { frames := 0, cells := 0, slots := 0, locals := 0 } s m args below meth c H locs 0 0 Q (F0 m 25 ls [])) :
    ∀ (n : Nat) (x3 : Int32) (ls : Array Slot), lv_has ls 4 [(0, .ref (ad 2)), (1, .ref (ad (k1 + 8))), (2, .int a2), (3, .int x3)] → g_Pi_valveIn_2 I A k1 a2 P kx2 n x3 → W p l e { frames := 0, cells := 0, slots := 0, locals := 0 } s m args below meth c H locs 0 0 Q (F0 m 2 ls []) := by
  intro n
  induction n with
  | zero => intro x3 ls hl hw; exact hw.elim
  | succ n ih =>
    intro x3 ls hl hw
    refine i_iload_n (n := 3) C 2 rfl rfl rfl hl 3 rfl ?_
    refine i_aload_n (n := 4) C 3 rfl rfl rfl hl 0 rfl ?_
    refine fgC_Pi_31 (n := 7) C 4 rfl rfl h ?_
    refine i_icmp_ge (tgt := 25) (n := 10) C 5 rfl rfl rfl (fun c1 => ?_) (fun c1 => ?_)
    · replace hw := hw.1 c1
      exact hx2  ls (lv_sub hl [] rfl) hw
    · replace hw := hw.2 c1
      refine i_aload_n (n := 11) C 6 rfl rfl rfl hl 1 rfl ?_
      refine i_iload_n (n := 12) C 7 rfl rfl rfl hl 3 rfl ?_
      obtain ⟨hb, hw⟩ := hw
      refine i_iald (n := 13) C 8 rfl rfl h (wC_arrI k1 hk1.1 hk1.2) hb ?_
      refine i_iload_n (n := 14) C 9 rfl rfl rfl hl 2 rfl ?_
      refine i_icmp_ne (tgt := 19) (n := 17) C 10 rfl rfl rfl (fun c2 => ?_) (fun c2 => ?_)
      · replace hw := hw.1 c2
        refine i_iinc (v := x3 + (1 : Int32)) (lv' := [(3, .int (x3 + (1 : Int32))), (0, .ref (ad 2)), (1, .ref (ad (k1 + 8))), (2, .int a2)]) (n := 22) C 13 rfl rfl hl 3 rfl rfl (by decide) rfl (fun ls hl => ?_)
        refine i_goto (tgt := 2) C 14 rfl rfl ?_
        exact ih (x3 + (1 : Int32)) ls (lv_sub hl [1, 2, 3, 0] rfl) hw
      · replace hw := hw.2 c2
        refine i_iload_n (n := 18) C 11 rfl rfl rfl hl 3 rfl ?_
        exact hret _ _ _ rfl hw (C.dg (k := 12) rfl)
set_option maxHeartbeats 4000000 in
set_option maxRecDepth 100000 in
theorem m_Pi_valveIn {l : Launch} {D : va_G} {cy : Nat → ClassId} {ad : Nat → Nat} {I : Nat → Int32} {A : Nat → Nat → Int32} {T : Nat → Option Nat} {L : List Nat} {K : Nat → Nat} {F : Nat → Nat → Int32} {k1 : Nat} {a2 : Int32} {P : Int32 → Prop} (hk1 : k1 < 41 ∧ tyC k1 = 0) (hw : g_Pi_valveIn I A k1 a2 P) : ∀ sz, Met l y_Pi_valveIn (WL y_Pi_valveIn c_Pi_valveIn 4 (some .int)) { frames := 0, cells := 0, slots := 0, locals := 0 } (va_Pc [.ref (ad 2), .ref (ad (k1 + 8)), .int a2] (PreW D cy (wC cy ad I A T L K F) sz)) (vp_Si P) 0 0 (fun _ => False) := by
  refine met_p R_Pi .int db_Pi_valveIn (by decide) rfl rfl (Nat.le_of_ble_eq_true rfl) ?_
  intro p e s m below meth c Z Q ls C h hl hret
  have hl : lv_has ls 4 [(0, .ref (ad 2)), (1, .ref (ad (k1 + 8))), (2, .int a2)] := hl
  refine i_iconst (v := (0 : Int32)) (n := 1) C 0 rfl rfl rfl ?_
  refine i_istore_n (lv' := [(3, .int (0 : Int32)), (0, .ref (ad 2)), (1, .ref (ad (k1 + 8))), (2, .int a2)]) (n := 2) C 1 rfl rfl rfl hl (by decide) rfl (fun ls hl => ?_)
  obtain ⟨n3, hw⟩ := hw
  refine e_Pi_valveIn_2 C h hk1 hret (fun  ls hl hw => ?_) n3 (0 : Int32) ls (lv_sub hl [1, 2, 3, 0] rfl) hw
  have hl : lv_has ls 4 [] := hl
  refine i_bipush (v := (-6 : Int32)) (n := 27) C 15 rfl rfl rfl ?_
  exact hret _ _ _ rfl hw (C.dg (k := 16) rfl)
end S7
theorem kV_Pi_41 {R : Room} {s : State} {args : Array Value} (hR : 0 + 1 ≤ R.frames ∧ 8 + (4 + 11) + 0 ≤ R.locals) (ht : ∀ w ∈ GW, w.before args s = true) : CallW R s args R_Pi R_Pi 41 y_Pi_valveIn c_Pi_valveIn 4 (some .int) (WL y_Pi_valveIn c_Pi_valveIn 4 (some .int)) { frames := 0, cells := 0, slots := 0, locals := 0 } 0 0 2 := cwV 2 ht (GW_v w_2_50 w_2_52 w_0_0 w_1_3 (GW_wl w_2_53)) rfl rfl rfl (by decide +kernel) hR
section S8
variable {p : Program} {l : Launch} {e : Env} {R : Room} {s : State} {m : MethodId} {args : Array Value} {below : List Frame} {meth : Method} {c : Code} {H : Heap} {locs : List Loc} {cells slots : Nat} {Q : State → Prop}
variable {cc : ByteArray} {pc n nL : Nat} {ls : Array Slot} {rest : List Value} {D : va_G} {cy : Nat → ClassId} {Z : Nat → Prop} {ad : Nat → Nat} {tb : List (Nat × Instr × Nat)} {lv : List (Nat × Value)}
set_option maxHeartbeats 4000000 in
set_option maxRecDepth 100000 in
theorem m_Pi_valveOn {l : Launch} {D : va_G} {cy : Nat → ClassId} {ad : Nat → Nat} {I : Nat → Int32} {A : Nat → Nat → Int32} {T : Nat → Option Nat} {L : List Nat} {K : Nat → Nat} {F : Nat → Nat → Int32} {a1 : Int32} {P : Int32 → Prop} (hw : g_Pi_valveOn I A a1 P) : ∀ sz, Met l y_Pi_valveOn (WL y_Pi_valveOn c_Pi_valveOn 2 (some .int)) { frames := 1, cells := 0, slots := 0, locals := 23 } (va_Pc [.ref (ad 2), .int a1] (PreW D cy (wC cy ad I A T L K F) sz)) (vp_Si P) 0 0 (fun _ => False) := by
  refine met_p R_Pi .int db_Pi_valveOn (by decide) rfl rfl (Nat.le_of_ble_eq_true rfl) ?_
  intro p e s m below meth c Z Q ls C h hl hret
  have hl : lv_has ls 2 [(0, .ref (ad 2)), (1, .int a1)] := hl
  refine i_aload_n (n := 1) C 0 rfl rfl rfl hl 0 rfl ?_
  refine i_aload_n (n := 2) C 1 rfl rfl rfl hl 0 rfl ?_
  refine fgC_Pi_21 (n := 5) C 2 rfl rfl h ?_
  refine i_iload_n (n := 6) C 3 rfl rfl rfl hl 1 rfl ?_
  refine i_callVp (rest := []) (ci := 7) (qc := (R_Pi, T_Pi, 8)) (n := 9) C 4 rfl rfl hl h rfl (wC_get (h := 2) (by decide)) (kV_Pi_41 ⟨by decide, by decide⟩) (m_Pi_valveIn ⟨by decide, rfl⟩ hw) rfl rfl (Nat.le_of_ble_eq_true rfl) ⟨by decide, by decide⟩ (fun r1 hw => ?_)
  exact hret _ _ _ rfl hw (C.dg (k := 5) rfl)
end S8
section S9
variable {p : Program} {l : Launch} {e : Env} {R : Room} {s : State} {m : MethodId} {args : Array Value} {below : List Frame} {meth : Method} {c : Code} {H : Heap} {locs : List Loc} {cells slots : Nat} {Q : State → Prop}
variable {cc : ByteArray} {pc n nL : Nat} {ls : Array Slot} {rest : List Value} {D : va_G} {cy : Nat → ClassId} {Z : Nat → Prop} {ad : Nat → Nat} {tb : List (Nat × Instr × Nat)} {lv : List (Nat × Value)}
set_option maxHeartbeats 4000000 in
set_option maxRecDepth 100000 in
theorem m_Pi_valveTold {l : Launch} {D : va_G} {cy : Nat → ClassId} {ad : Nat → Nat} {I : Nat → Int32} {A : Nat → Nat → Int32} {T : Nat → Option Nat} {L : List Nat} {K : Nat → Nat} {F : Nat → Nat → Int32} {a1 : Int32} {P : Int32 → Prop} (hw : g_Pi_valveTold I A a1 P) : ∀ sz, Met l y_Pi_valveTold (WL y_Pi_valveTold c_Pi_valveTold 2 (some .int)) { frames := 1, cells := 0, slots := 0, locals := 23 } (va_Pc [.ref (ad 2), .int a1] (PreW D cy (wC cy ad I A T L K F) sz)) (vp_Si P) 0 0 (fun _ => False) := by
  refine met_p R_Pi .int db_Pi_valveTold (by decide) rfl rfl (Nat.le_of_ble_eq_true rfl) ?_
  intro p e s m below meth c Z Q ls C h hl hret
  have hl : lv_has ls 2 [(0, .ref (ad 2)), (1, .int a1)] := hl
  refine i_aload_n (n := 1) C 0 rfl rfl rfl hl 0 rfl ?_
  refine i_aload_n (n := 2) C 1 rfl rfl rfl hl 0 rfl ?_
  refine fgC_Pi_24 (n := 5) C 2 rfl rfl h ?_
  refine i_iload_n (n := 6) C 3 rfl rfl rfl hl 1 rfl ?_
  refine i_callVp (rest := []) (ci := 7) (qc := (R_Pi, T_Pi, 8)) (n := 9) C 4 rfl rfl hl h rfl (wC_get (h := 2) (by decide)) (kV_Pi_41 ⟨by decide, by decide⟩) (m_Pi_valveIn ⟨by decide, rfl⟩ hw) rfl rfl (Nat.le_of_ble_eq_true rfl) ⟨by decide, by decide⟩ (fun r1 hw => ?_)
  exact hret _ _ _ rfl hw (C.dg (k := 5) rfl)
end S9
theorem kV_Pi_34 {R : Room} {s : State} {args : Array Value} (hR : 1 + 1 ≤ R.frames ∧ 8 + (2 + 11) + 23 ≤ R.locals) (ht : ∀ w ∈ GW, w.before args s = true) : CallW R s args R_Pi R_Pi 34 y_Pi_valveOn c_Pi_valveOn 2 (some .int) (WL y_Pi_valveOn c_Pi_valveOn 2 (some .int)) { frames := 1, cells := 0, slots := 0, locals := 23 } 0 0 1 := cwV 1 ht (GW_v w_2_46 w_2_47 w_2_48 w_1_3 (GW_wl w_2_49)) rfl rfl rfl (by decide +kernel) hR
theorem kV_Pi_38 {R : Room} {s : State} {args : Array Value} (hR : 1 + 1 ≤ R.frames ∧ 8 + (2 + 11) + 23 ≤ R.locals) (ht : ∀ w ∈ GW, w.before args s = true) : CallW R s args R_Pi R_Pi 38 y_Pi_valveTold c_Pi_valveTold 2 (some .int) (WL y_Pi_valveTold c_Pi_valveTold 2 (some .int)) { frames := 1, cells := 0, slots := 0, locals := 23 } 0 0 1 := cwV 1 ht (GW_v w_2_54 w_2_55 w_2_56 w_1_3 (GW_wl w_2_57)) rfl rfl rfl (by decide +kernel) hR
section S10
variable {p : Program} {l : Launch} {e : Env} {R : Room} {s : State} {m : MethodId} {args : Array Value} {below : List Frame} {meth : Method} {c : Code} {H : Heap} {locs : List Loc} {cells slots : Nat} {Q : State → Prop}
variable {cc : ByteArray} {pc n nL : Nat} {ls : Array Slot} {rest : List Value} {D : va_G} {cy : Nat → ClassId} {Z : Nat → Prop} {ad : Nat → Nat} {tb : List (Nat × Instr × Nat)} {lv : List (Nat × Value)}
set_option maxHeartbeats 4000000 in
set_option maxRecDepth 100000 in
theorem m_Pi_addValve {l : Launch} {D : va_G} {cy : Nat → ClassId} {ad : Nat → Nat} {I : Nat → Int32} {A : Nat → Nat → Int32} {T : Nat → Option Nat} {L : List Nat} {K : Nat → Nat} {F : Nat → Nat → Int32} {a1 : Int32} {a2 : Int32} {P : Int32 → ((Nat → Int32) × (Nat → Nat → Int32)) → Prop} (hw : g_Pi_addValve I A a1 a2 P) : ∀ sz, Met l y_Pi_addValve (WL y_Pi_addValve c_Pi_addValve 3 (some .int)) { frames := 2, cells := 0, slots := 0, locals := 44 } (va_Pc [.ref (ad 2), .int a1, .int a2] (PreW D cy (wC cy ad I A T L K F) sz)) (va_Qi P (fun u t => PostW D (va_A (wC cy ad I A T L K F) sz) ((fun (u : (Nat → Int32) × (Nat → Nat → Int32)) => wC cy ad u.1 u.2 T L K F) u) t) (va_A (wC cy ad I A T L K F) sz)) 0 0 (va_A (wC cy ad I A T L K F) sz) := by
  refine met_i (wf := fun (u : (Nat → Int32) × (Nat → Nat → Int32)) => wC cy ad u.1 u.2 T L K F) R_Pi .int db_Pi_addValve (by decide) rfl rfl (Nat.le_of_ble_eq_true rfl) ?_
  intro p e s m below meth c Z Q ls C h hl hret
  have hl : lv_has ls 3 [(0, .ref (ad 2)), (1, .int a1), (2, .int a2)] := hl
  refine i_aload_n (n := 1) C 0 rfl rfl rfl hl 0 rfl ?_
  refine fgC_Pi_31 (n := 4) C 1 rfl rfl h ?_
  refine i_bipush (v := (12 : Int32)) (n := 6) C 2 rfl rfl rfl ?_
  refine i_icmp_lt (tgt := 12) (n := 9) C 3 rfl rfl rfl (fun c1 => ?_) (fun c1 => ?_)
  · replace hw := hw.1 c1
    refine i_aload_n (n := 13) C 6 rfl rfl rfl hl 0 rfl ?_
    refine i_iload_n (n := 14) C 7 rfl rfl rfl hl 1 rfl ?_
    refine i_callVp (rest := []) (ci := 7) (qc := (R_Pi, T_Pi, 8)) (n := 17) C 8 rfl rfl hl h rfl (wC_get (h := 2) (by decide)) (kV_Pi_34 ⟨by decide, by decide⟩) (m_Pi_valveOn hw) rfl rfl (Nat.le_of_ble_eq_true rfl) ⟨by decide, by decide⟩ (fun r2 hw => ?_)
    refine i_bipush (v := (-6 : Int32)) (n := 19) C 9 rfl rfl rfl ?_
    refine i_icmp_ne (tgt := 32) (n := 22) C 10 rfl rfl rfl (fun c3 => ?_) (fun c3 => ?_)
    · replace hw := hw.1 c3
      refine i_bipush (v := (-5 : Int32)) (n := 34) C 16 rfl rfl rfl ?_
      exact hret _ (I, A) _ _ _ _ rfl hw h (C.dg (k := 17) rfl)
    · replace hw := hw.2 c3
      refine i_aload_n (n := 23) C 11 rfl rfl rfl hl 0 rfl ?_
      refine i_iload_n (n := 24) C 12 rfl rfl rfl hl 2 rfl ?_
      refine i_callVp (rest := []) (ci := 7) (qc := (R_Pi, T_Pi, 8)) (n := 27) C 13 rfl rfl hl h rfl (wC_get (h := 2) (by decide)) (kV_Pi_38 ⟨by decide, by decide⟩) (m_Pi_valveTold hw) rfl rfl (Nat.le_of_ble_eq_true rfl) ⟨by decide, by decide⟩ (fun r4 hw => ?_)
      refine i_bipush (v := (-6 : Int32)) (n := 29) C 14 rfl rfl rfl ?_
      refine i_icmp_eq (tgt := 35) (n := 32) C 15 rfl rfl rfl (fun c5 => ?_) (fun c5 => ?_)
      · replace hw := hw.1 c5
        refine i_aload_n (n := 36) C 18 rfl rfl rfl hl 0 rfl ?_
        refine fgC_Pi_21 (n := 39) C 19 rfl rfl h ?_
        refine i_aload_n (n := 40) C 20 rfl rfl rfl hl 0 rfl ?_
        refine fgC_Pi_31 (n := 43) C 21 rfl rfl h ?_
        refine i_iload_n (n := 44) C 22 rfl rfl rfl hl 1 rfl ?_
        obtain ⟨hb, hw⟩ := hw
        refine i_iast (n := 45) C 23 rfl rfl h (wC_arr 20 (by decide) rfl) hb (wC_sA 20 (by decide) rfl _ _) (fun H locs h => ?_)
        refine i_aload_n (n := 46) C 24 rfl rfl rfl hl 0 rfl ?_
        refine fgC_Pi_24 (n := 49) C 25 rfl rfl h ?_
        refine i_aload_n (n := 50) C 26 rfl rfl rfl hl 0 rfl ?_
        refine fgC_Pi_31 (n := 53) C 27 rfl rfl h ?_
        refine i_iload_n (n := 54) C 28 rfl rfl rfl hl 2 rfl ?_
        obtain ⟨hb, hw⟩ := hw
        refine i_iast (n := 55) C 29 rfl rfl h (wC_arr 21 (by decide) rfl) hb (wC_sA 21 (by decide) rfl _ _) (fun H locs h => ?_)
        refine i_aload_n (n := 56) C 30 rfl rfl rfl hl 0 rfl ?_
        refine i_dup (n := 57) C 31 rfl rfl rfl ?_
        refine fgC_Pi_31 (n := 60) C 32 rfl rfl h ?_
        refine i_dup_x1 (n := 61) C 33 rfl rfl rfl rfl ?_
        refine i_iconst (v := (1 : Int32)) (n := 62) C 34 rfl rfl rfl ?_
        refine i_iadd (n := 63) C 35 rfl rfl ?_
        refine fpC_Pi_31 (n := 66) C 36 rfl rfl h (fun H locs h => ?_)
        exact hret _ (va_up I 10 ((I 10) + (1 : Int32)), sA (sA A 20 (I 10) a1) 21 (I 10) a2) _ _ _ _ rfl hw h (C.dg (k := 37) rfl)
      · replace hw := hw.2 c5
        refine i_bipush (v := (-5 : Int32)) (n := 34) C 16 rfl rfl rfl ?_
        exact hret _ (I, A) _ _ _ _ rfl hw h (C.dg (k := 17) rfl)
  · replace hw := hw.2 c1
    refine i_bipush (v := (-4 : Int32)) (n := 11) C 4 rfl rfl rfl ?_
    exact hret _ (I, A) _ _ _ _ rfl hw h (C.dg (k := 5) rfl)
end S10
theorem kV_Pw_87 {R : Room} {s : State} {args : Array Value} (hR : 0 + 1 ≤ R.frames ∧ 8 + (2 + 11) + 0 ≤ R.locals) (ht : ∀ w ∈ GW, w.before args s = true) : CallW R s args R_Pw R_Pi 87 y_Pi_hasMain c_Pi_hasMain 2 (some .boolean) (WL y_Pi_hasMain c_Pi_hasMain 2 (some .boolean)) { frames := 0, cells := 0, slots := 0, locals := 0 } 0 0 1 := cwV 1 ht (GW_v w_2_38 w_2_39 w_2_40 w_1_3 (GW_wl w_2_41)) rfl rfl rfl (by decide +kernel) hR
theorem kV_Pw_90 {R : Room} {s : State} {args : Array Value} (hR : 2 + 1 ≤ R.frames ∧ 8 + (3 + 11) + 44 ≤ R.locals) (ht : ∀ w ∈ GW, w.before args s = true) : CallW R s args R_Pw R_Pi 90 y_Pi_addValve c_Pi_addValve 3 (some .int) (WL y_Pi_addValve c_Pi_addValve 3 (some .int)) { frames := 2, cells := 0, slots := 0, locals := 44 } 0 0 2 := cwV 2 ht (GW_v w_2_42 w_2_43 w_2_44 w_1_3 (GW_wl w_2_45)) rfl rfl rfl (by decide +kernel) hR
section S11
variable {p : Program} {l : Launch} {e : Env} {R : Room} {s : State} {m : MethodId} {args : Array Value} {below : List Frame} {meth : Method} {c : Code} {H : Heap} {locs : List Loc} {cells slots : Nat} {Q : State → Prop}
variable {cc : ByteArray} {pc n nL : Nat} {ls : Array Slot} {rest : List Value} {D : va_G} {cy : Nat → ClassId} {Z : Nat → Prop} {ad : Nat → Nat} {tb : List (Nat × Instr × Nat)} {lv : List (Nat × Value)}
set_option maxHeartbeats 4000000 in
set_option maxRecDepth 100000 in
theorem m_Pw_valve {l : Launch} {D : va_G} {cy : Nat → ClassId} {ad : Nat → Nat} {I : Nat → Int32} {A : Nat → Nat → Int32} {T : Nat → Option Nat} {L : List Nat} {K : Nat → Nat} {F : Nat → Nat → Int32} {a1 : Int32} {a2 : Int32} {P : Int32 → ((Nat → Int32) × (Nat → Nat → Int32)) → Prop} (hw : g_Pw_valve I A a1 a2 P) : ∀ sz, Met l y_Pw_valve (WL y_Pw_valve c_Pw_valve 3 (some .int)) { frames := 3, cells := 0, slots := 0, locals := 66 } (va_Pc [.ref (ad 0), .int a1, .int a2] (PreW D cy (wC cy ad I A T L K F) sz)) (va_Qi P (fun u t => PostW D (va_A (wC cy ad I A T L K F) sz) ((fun (u : (Nat → Int32) × (Nat → Nat → Int32)) => wC cy ad u.1 u.2 T L K F) u) t) (va_A (wC cy ad I A T L K F) sz)) 0 0 (va_A (wC cy ad I A T L K F) sz) := by
  refine met_i (wf := fun (u : (Nat → Int32) × (Nat → Nat → Int32)) => wC cy ad u.1 u.2 T L K F) R_Pw .int db_Pw_valve (by decide) rfl rfl (Nat.le_of_ble_eq_true rfl) ?_
  intro p e s m below meth c Z Q ls C h hl hret
  have hl : lv_has ls 3 [(0, .ref (ad 0)), (1, .int a1), (2, .int a2)] := hl
  refine i_aload_n (n := 1) C 0 rfl rfl rfl hl 0 rfl ?_
  refine fgC_Pw_20 (n := 4) C 1 rfl rfl h ?_
  refine i_iload_n (n := 5) C 2 rfl rfl rfl hl 1 rfl ?_
  refine i_callVp (rest := []) (ci := 7) (qc := (R_Pi, T_Pi, 8)) (n := 8) C 3 rfl rfl hl h rfl (wC_get (h := 2) (by decide)) (kV_Pw_87 ⟨by decide, by decide⟩) (m_Pi_hasMain hw) rfl rfl (Nat.le_of_ble_eq_true rfl) ⟨by decide, by decide⟩ (fun r1 hw => ?_)
  refine i_if_eq (tgt := 34) (n := 11) C 4 rfl rfl rfl (fun c2 => ?_) (fun c2 => ?_)
  · replace hw := hw.1 c2
    refine i_iconst (v := (-1 : Int32)) (n := 35) C 16 rfl rfl rfl ?_
    exact hret _ (I, A) _ _ _ _ rfl hw h (C.dg (k := 17) rfl)
  · replace hw := hw.2 c2
    refine i_aload_n (n := 12) C 5 rfl rfl rfl hl 0 rfl ?_
    refine fgC_Pw_20 (n := 15) C 6 rfl rfl h ?_
    refine i_iload_n (n := 16) C 7 rfl rfl rfl hl 2 rfl ?_
    refine i_callVp (rest := []) (ci := 7) (qc := (R_Pi, T_Pi, 8)) (n := 19) C 8 rfl rfl hl h rfl (wC_get (h := 2) (by decide)) (kV_Pw_87 ⟨by decide, by decide⟩) (m_Pi_hasMain hw) rfl rfl (Nat.le_of_ble_eq_true rfl) ⟨by decide, by decide⟩ (fun r3 hw => ?_)
    refine i_if_eq (tgt := 34) (n := 22) C 9 rfl rfl rfl (fun c4 => ?_) (fun c4 => ?_)
    · replace hw := hw.1 c4
      refine i_iconst (v := (-1 : Int32)) (n := 35) C 16 rfl rfl rfl ?_
      exact hret _ (I, A) _ _ _ _ rfl hw h (C.dg (k := 17) rfl)
    · replace hw := hw.2 c4
      refine i_aload_n (n := 23) C 10 rfl rfl rfl hl 0 rfl ?_
      refine fgC_Pw_20 (n := 26) C 11 rfl rfl h ?_
      refine i_iload_n (n := 27) C 12 rfl rfl rfl hl 1 rfl ?_
      refine i_iload_n (n := 28) C 13 rfl rfl rfl hl 2 rfl ?_
      refine i_callVi (rest := []) (ci := 7) (qc := (R_Pi, T_Pi, 8)) (n := 31) C 14 rfl rfl hl h rfl (wC_get (h := 2) (by decide)) (kV_Pw_90 ⟨by decide, by decide⟩) (m_Pi_addValve hw) rfl rfl (Nat.le_of_ble_eq_true rfl) ⟨by decide, by decide⟩ (fun r5 u6 H locs hw h => ?_)
      refine i_goto (tgt := 35) C 15 rfl rfl ?_
      exact hret _ (u6.1, u6.2) _ _ _ _ rfl hw h (C.dg (k := 17) rfl)
end S11
section S12
variable {p : Program} {l : Launch} {e : Env} {R : Room} {s : State} {m : MethodId} {args : Array Value} {below : List Frame} {meth : Method} {c : Code} {H : Heap} {locs : List Loc} {cells slots : Nat} {Q : State → Prop}
variable {cc : ByteArray} {pc n nL : Nat} {ls : Array Slot} {rest : List Value} {D : va_G} {cy : Nat → ClassId} {Z : Nat → Prop} {ad : Nat → Nat} {tb : List (Nat × Instr × Nat)} {lv : List (Nat × Value)}
set_option maxHeartbeats 4000000 in
set_option maxRecDepth 100000 in
theorem m_Pi_hasValve {l : Launch} {D : va_G} {cy : Nat → ClassId} {ad : Nat → Nat} {I : Nat → Int32} {A : Nat → Nat → Int32} {T : Nat → Option Nat} {L : List Nat} {K : Nat → Nat} {F : Nat → Nat → Int32} {a1 : Int32} {P : Int32 → Prop} (hw : g_Pi_hasValve I a1 P) : ∀ sz, Met l y_Pi_hasValve (WL y_Pi_hasValve c_Pi_hasValve 2 (some .boolean)) { frames := 0, cells := 0, slots := 0, locals := 0 } (va_Pc [.ref (ad 2), .int a1] (PreW D cy (wC cy ad I A T L K F) sz)) (vp_Si P) 0 0 (fun _ => False) := by
  refine met_p R_Pi .boolean db_Pi_hasValve (by decide) rfl rfl (Nat.le_of_ble_eq_true rfl) ?_
  intro p e s m below meth c Z Q ls C h hl hret
  have hl : lv_has ls 2 [(0, .ref (ad 2)), (1, .int a1)] := hl
  refine i_iload_n (n := 1) C 0 rfl rfl rfl hl 1 rfl ?_
  refine i_if_lt (tgt := 16) (n := 4) C 1 rfl rfl rfl (fun c1 => ?_) (fun c1 => ?_)
  · replace hw := hw.1 c1
    refine i_iconst (v := (0 : Int32)) (n := 17) C 8 rfl rfl rfl ?_
    exact hret _ _ _ rfl hw (C.dg (k := 9) rfl)
  · replace hw := hw.2 c1
    refine i_iload_n (n := 5) C 2 rfl rfl rfl hl 1 rfl ?_
    refine i_aload_n (n := 6) C 3 rfl rfl rfl hl 0 rfl ?_
    refine fgC_Pi_31 (n := 9) C 4 rfl rfl h ?_
    refine i_icmp_ge (tgt := 16) (n := 12) C 5 rfl rfl rfl (fun c2 => ?_) (fun c2 => ?_)
    · replace hw := hw.1 c2
      refine i_iconst (v := (0 : Int32)) (n := 17) C 8 rfl rfl rfl ?_
      exact hret _ _ _ rfl hw (C.dg (k := 9) rfl)
    · replace hw := hw.2 c2
      refine i_iconst (v := (1 : Int32)) (n := 13) C 6 rfl rfl rfl ?_
      refine i_goto (tgt := 17) C 7 rfl rfl ?_
      exact hret _ _ _ rfl hw (C.dg (k := 9) rfl)
end S12
section S13
variable {p : Program} {l : Launch} {e : Env} {R : Room} {s : State} {m : MethodId} {args : Array Value} {below : List Frame} {meth : Method} {c : Code} {H : Heap} {locs : List Loc} {cells slots : Nat} {Q : State → Prop}
variable {cc : ByteArray} {pc n nL : Nat} {ls : Array Slot} {rest : List Value} {D : va_G} {cy : Nat → ClassId} {Z : Nat → Prop} {ad : Nat → Nat} {tb : List (Nat × Instr × Nat)} {lv : List (Nat × Value)}
set_option maxHeartbeats 4000000 in
set_option maxRecDepth 100000 in
theorem m_Pw_hasBit {l : Launch} {D : va_G} {cy : Nat → ClassId}   {a1 : Int32} {a2 : Int32} {w : va_W} {P : Int32 → Prop} (hw : g_Pw_hasBit a1 a2 P) : ∀ sz, Met l y_Pw_hasBit (WL y_Pw_hasBit c_Pw_hasBit 2 (some .boolean)) { frames := 0, cells := 0, slots := 0, locals := 0 } (va_Pc [.int a1, .int a2] (PreW D cy (w) sz)) (vp_Si P) 0 0 (fun _ => False) := by
  refine met_p R_Pw .boolean db_Pw_hasBit (by decide) rfl rfl (Nat.le_of_ble_eq_true rfl) ?_
  intro p e s m below meth c Z Q ls C h hl hret
  have hl : lv_has ls 2 [(0, .int a1), (1, .int a2)] := hl
  refine i_iload_n (n := 1) C 0 rfl rfl rfl hl 0 rfl ?_
  refine i_iload_n (n := 2) C 1 rfl rfl rfl hl 1 rfl ?_
  refine i_ishr (n := 3) C 2 rfl rfl ?_
  refine i_iconst (v := (1 : Int32)) (n := 4) C 3 rfl rfl rfl ?_
  refine i_iand (n := 5) C 4 rfl rfl ?_
  refine i_if_eq (tgt := 12) (n := 8) C 5 rfl rfl rfl (fun c1 => ?_) (fun c1 => ?_)
  · replace hw := hw.1 c1
    refine i_iconst (v := (0 : Int32)) (n := 13) C 8 rfl rfl rfl ?_
    exact hret _ _ _ rfl hw (C.dg (k := 9) rfl)
  · replace hw := hw.2 c1
    refine i_iconst (v := (1 : Int32)) (n := 9) C 6 rfl rfl rfl ?_
    refine i_goto (tgt := 13) C 7 rfl rfl ?_
    exact hret _ _ _ rfl hw (C.dg (k := 9) rfl)
end S13
theorem kSN_Pi_48 {R : Room} {s : State} {args : Array Value} (hR : 0 + 1 ≤ R.frames ∧ 8 + (2 + 11) + 0 ≤ R.locals) (ht : ∀ w ∈ GW, w.before args s = true) (hN : NX s) : va_CN R s args R_Pi 48 y_Pw_hasBit R_Pw c_Pw_hasBit 2 (some .boolean) (WL y_Pw_hasBit c_Pw_hasBit 2 (some .boolean)) { frames := 0, cells := 0, slots := 0, locals := 0 } 0 0 2 ∧ (Cond.static y_Pw_hasBit).before args s = true ∧ True := ⟨va_cnB 2 ht (GW_in (GW_wl w_2_76)) rfl rfl rfl (hN.1 _ (by simp [nxW])) (ht _ w_1_1) (by decide +kernel) hR, ht _ w_2_75, trivial⟩
section S14
variable {p : Program} {l : Launch} {e : Env} {R : Room} {s : State} {m : MethodId} {args : Array Value} {below : List Frame} {meth : Method} {c : Code} {H : Heap} {locs : List Loc} {cells slots : Nat} {Q : State → Prop}
variable {cc : ByteArray} {pc n nL : Nat} {ls : Array Slot} {rest : List Value} {D : va_G} {cy : Nat → ClassId} {Z : Nat → Prop} {ad : Nat → Nat} {tb : List (Nat × Instr × Nat)} {lv : List (Nat × Value)}
set_option maxHeartbeats 4000000 in
set_option maxRecDepth 100000 in
theorem m_Pi_isShut {l : Launch} {D : va_G} {cy : Nat → ClassId} {ad : Nat → Nat} {I : Nat → Int32} {A : Nat → Nat → Int32} {T : Nat → Option Nat} {L : List Nat} {K : Nat → Nat} {F : Nat → Nat → Int32} {a1 : Int32} {P : Int32 → Prop} (hw : g_Pi_isShut I a1 P) : ∀ sz, Met l y_Pi_isShut (WL y_Pi_isShut c_Pi_isShut 2 (some .boolean)) { frames := 1, cells := 0, slots := 0, locals := 21 } (va_Pc [.ref (ad 2), .int a1] (PreW D cy (wC cy ad I A T L K F) sz)) (vp_Si P) 0 0 (fun _ => False) := by
  refine met_p R_Pi .boolean db_Pi_isShut (by decide) rfl rfl (Nat.le_of_ble_eq_true rfl) ?_
  intro p e s m below meth c Z Q ls C h hl hret
  have hl : lv_has ls 2 [(0, .ref (ad 2)), (1, .int a1)] := hl
  refine i_aload_n (n := 1) C 0 rfl rfl rfl hl 0 rfl ?_
  refine fgC_Pi_45 (n := 4) C 1 rfl rfl h ?_
  refine i_iload_n (n := 5) C 2 rfl rfl rfl hl 1 rfl ?_
  refine i_callSNp (rest := []) (n := 8) C 3 rfl rfl hl h (kSN_Pi_48 ⟨by decide, by decide⟩) (m_Pw_hasBit hw) rfl rfl (Nat.le_of_ble_eq_true rfl) ⟨by decide, by decide⟩ (fun r1 hw => ?_)
  obtain ⟨hB, hw⟩ := hw
  exact hret _ _ _ hB.nar hw (C.dg (k := 4) rfl)
end S14
section S15
variable {p : Program} {l : Launch} {e : Env} {R : Room} {s : State} {m : MethodId} {args : Array Value} {below : List Frame} {meth : Method} {c : Code} {H : Heap} {locs : List Loc} {cells slots : Nat} {Q : State → Prop}
variable {cc : ByteArray} {pc n nL : Nat} {ls : Array Slot} {rest : List Value} {D : va_G} {cy : Nat → ClassId} {Z : Nat → Prop} {ad : Nat → Nat} {tb : List (Nat × Instr × Nat)} {lv : List (Nat × Value)}
set_option maxHeartbeats 4000000 in
set_option maxRecDepth 100000 in
theorem m_Pw_bit {l : Launch} {D : va_G} {cy : Nat → ClassId}   {a1 : Int32} {w : va_W} {P : Int32 → Prop} (hw : g_Pw_bit a1 P) : ∀ sz, Met l y_Pw_bit (WL y_Pw_bit c_Pw_bit 1 (some .int)) { frames := 0, cells := 0, slots := 0, locals := 0 } (va_Pc [.int a1] (PreW D cy (w) sz)) (vp_Si P) 0 0 (fun _ => False) := by
  refine met_p R_Pw .int db_Pw_bit (by decide) rfl rfl (Nat.le_of_ble_eq_true rfl) ?_
  intro p e s m below meth c Z Q ls C h hl hret
  have hl : lv_has ls 1 [(0, .int a1)] := hl
  refine i_iload_n (n := 1) C 0 rfl rfl rfl hl 0 rfl ?_
  refine i_if_eq (tgt := 8) (n := 4) C 1 rfl rfl rfl (fun c1 => ?_) (fun c1 => ?_)
  · replace hw := hw.1 c1
    refine i_iconst (v := (0 : Int32)) (n := 9) C 4 rfl rfl rfl ?_
    exact hret _ _ _ rfl hw (C.dg (k := 5) rfl)
  · replace hw := hw.2 c1
    refine i_iconst (v := (1 : Int32)) (n := 5) C 2 rfl rfl rfl ?_
    refine i_goto (tgt := 9) C 3 rfl rfl ?_
    exact hret _ _ _ rfl hw (C.dg (k := 5) rfl)
end S15
theorem kV_Pi_52 {R : Room} {s : State} {args : Array Value} (hR : 1 + 1 ≤ R.frames ∧ 8 + (2 + 11) + 21 ≤ R.locals) (ht : ∀ w ∈ GW, w.before args s = true) : CallW R s args R_Pi R_Pi 52 y_Pi_isShut c_Pi_isShut 2 (some .boolean) (WL y_Pi_isShut c_Pi_isShut 2 (some .boolean)) { frames := 1, cells := 0, slots := 0, locals := 21 } 0 0 1 := cwV 1 ht (GW_v w_2_70 w_2_71 w_2_72 w_1_3 (GW_wl w_2_73)) rfl rfl rfl (by decide +kernel) hR
theorem kSN_Pi_56 {R : Room} {s : State} {args : Array Value} (hR : 0 + 1 ≤ R.frames ∧ 8 + (1 + 11) + 0 ≤ R.locals) (ht : ∀ w ∈ GW, w.before args s = true) (hN : NX s) : va_CN R s args R_Pi 56 y_Pw_bit R_Pw c_Pw_bit 1 (some .int) (WL y_Pw_bit c_Pw_bit 1 (some .int)) { frames := 0, cells := 0, slots := 0, locals := 0 } 0 0 1 ∧ (Cond.static y_Pw_bit).before args s = true ∧ True := ⟨va_cnB 1 ht (GW_in (GW_wl w_2_79)) rfl rfl rfl (hN.1 _ (by simp [nxW])) (ht _ w_1_1) (by decide +kernel) hR, ht _ w_2_78, trivial⟩
section S16
variable {p : Program} {l : Launch} {e : Env} {R : Room} {s : State} {m : MethodId} {args : Array Value} {below : List Frame} {meth : Method} {c : Code} {H : Heap} {locs : List Loc} {cells slots : Nat} {Q : State → Prop}
variable {cc : ByteArray} {pc n nL : Nat} {ls : Array Slot} {rest : List Value} {D : va_G} {cy : Nat → ClassId} {Z : Nat → Prop} {ad : Nat → Nat} {tb : List (Nat × Instr × Nat)} {lv : List (Nat × Value)}
set_option maxHeartbeats 4000000 in
set_option maxRecDepth 100000 in
theorem m_Pi_turnValve {l : Launch} {D : va_G} {cy : Nat → ClassId} {ad : Nat → Nat} {I : Nat → Int32} {A : Nat → Nat → Int32} {T : Nat → Option Nat} {L : List Nat} {K : Nat → Nat} {F : Nat → Nat → Int32} {a1 : Int32} {P : Int32 → ((Nat → Int32)) → Prop} (hw : g_Pi_turnValve I a1 P) : ∀ sz, Met l y_Pi_turnValve (WL y_Pi_turnValve c_Pi_turnValve 2 (some .int)) { frames := 2, cells := 0, slots := 0, locals := 42 } (va_Pc [.ref (ad 2), .int a1] (PreW D cy (wC cy ad I A T L K F) sz)) (va_Qi P (fun u t => PostW D (va_A (wC cy ad I A T L K F) sz) ((fun (u : (Nat → Int32)) => wC cy ad u A T L K F) u) t) (va_A (wC cy ad I A T L K F) sz)) 0 0 (va_A (wC cy ad I A T L K F) sz) := by
  refine met_i (wf := fun (u : (Nat → Int32)) => wC cy ad u A T L K F) R_Pi .int db_Pi_turnValve (by decide) rfl rfl (Nat.le_of_ble_eq_true rfl) ?_
  intro p e s m below meth c Z Q ls C h hl hret
  have hl : lv_has ls 2 [(0, .ref (ad 2)), (1, .int a1)] := hl
  refine i_aload_n (n := 1) C 0 rfl rfl rfl hl 0 rfl ?_
  refine i_dup (n := 2) C 1 rfl rfl rfl ?_
  refine fgC_Pi_45 (n := 5) C 2 rfl rfl h ?_
  refine i_iconst (v := (1 : Int32)) (n := 6) C 3 rfl rfl rfl ?_
  refine i_iload_n (n := 7) C 4 rfl rfl rfl hl 1 rfl ?_
  refine i_ishl (n := 8) C 5 rfl rfl ?_
  refine i_ixor (n := 9) C 6 rfl rfl ?_
  refine fpC_Pi_45 (n := 12) C 7 rfl rfl h (fun H locs h => ?_)
  refine i_aload_n (n := 13) C 8 rfl rfl rfl hl 0 rfl ?_
  refine i_iload_n (n := 14) C 9 rfl rfl rfl hl 1 rfl ?_
  refine i_callVp (rest := []) (ci := 7) (qc := (R_Pi, T_Pi, 8)) (n := 17) C 10 rfl rfl hl h rfl (wC_get (h := 2) (by decide)) (kV_Pi_52 ⟨by decide, by decide⟩) (m_Pi_isShut hw) rfl rfl (Nat.le_of_ble_eq_true rfl) ⟨by decide, by decide⟩ (fun r1 hw => ?_)
  refine i_callSNp (rest := []) (n := 20) C 11 rfl rfl hl h (kSN_Pi_56 ⟨by decide, by decide⟩) (m_Pw_bit hw) rfl rfl (Nat.le_of_ble_eq_true rfl) ⟨by decide, by decide⟩ (fun r2 hw => ?_)
  exact hret _ (va_up I 11 ((I 11) ^^^ ((1 : Int32) <<< (a1 &&& 31)))) _ _ _ _ rfl hw h (C.dg (k := 12) rfl)
end S16
