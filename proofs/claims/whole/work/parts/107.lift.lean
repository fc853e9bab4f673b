theorem kV_Ne_103 {R : Room} {s : State} {args : Array Value} (hR : 3 + 1 ≤ R.frames ∧ 8 + (4 + 11) + 68 ≤ R.locals) (ht : ∀ w ∈ GW, w.before args s = true) : CallW R s args R_Ne R_Ne 103 y_Ne_noteInputs c_Ne_noteInputs 4 (some .boolean) (WL y_Ne_noteInputs c_Ne_noteInputs 4 (some .boolean)) { frames := 3, cells := 0, slots := 0, locals := 68 } 0 0 1 := cwV 1 ht (GW_v w_3_152 w_3_154 w_0_2 w_1_2 (GW_wl w_3_155)) rfl rfl rfl (by decide +kernel) hR
theorem kV_Ne_110 {R : Room} {s : State} {args : Array Value} (hR : 4 + 1 ≤ R.frames ∧ 8 + (5 + 11) + 92 ≤ R.locals) (ht : ∀ w ∈ GW, w.before args s = true) : CallW R s args R_Ne R_Ne 110 y_Ne_runSweeps c_Ne_runSweeps 5 (some .int) (WL y_Ne_runSweeps c_Ne_runSweeps 5 (some .int)) { frames := 4, cells := 0, slots := 0, locals := 92 } 0 0 1 := cwV 1 ht (GW_v w_3_180 w_3_181 w_3_182 w_1_2 (GW_wl w_3_183)) rfl rfl rfl (by decide +kernel) hR
section S91
variable {p : Program} {l : Launch} {e : Env} {R : Room} {s : State} {m : MethodId} {args : Array Value} {below : List Frame} {meth : Method} {c : Code} {H : Heap} {locs : List Loc} {cells slots : Nat} {Q : State → Prop}
variable {cc : ByteArray} {pc n nL : Nat} {ls : Array Slot} {rest : List Value} {D : va_G} {cy : Nat → ClassId} {Z : Nat → Prop} {ad : Nat → Nat} {tb : List (Nat × Instr × Nat)} {lv : List (Nat × Value)}
def g_Ne_settle_41 (T : Nat → Option Nat) (L : List Nat) (K : Nat → Nat) (F : Nat → Nat → Int32) (a1 : Int32) (P : ((Nat → Int32) × (Nat → Nat → Int32)) → Prop)  (I : Nat → Int32) (A : Nat → Nat → Int32) (x3 : Int32) (s1 : Int32) : Prop := isB s1 ∧ ((((va_up I 7 s1) 7) = 0 → (P (va_up (va_up I 7 s1) 6 (500 : Int32), A))) ∧ (¬ ((va_up I 7 s1) 7) = 0 → (P (va_up (va_up I 7 s1) 6 x3, A))))
set_option maxHeartbeats 4000000 in
set_option maxRecDepth 100000 in
theorem e_Ne_settle_41 {T : Nat → Option Nat} {L : List Nat} {K : Nat → Nat} {F : Nat → Nat → Int32} {a1 : Int32} {P : ((Nat → Int32) × (Nat → Nat → Int32)) → Prop}  (C : CX D cy R_Ne c_Ne_settle tb_Ne_settle 4 p s m args c Z) (hret : RetV p l e { frames := 5, cells := 0, slots := 0, locals := 116 } s m args below meth c c_Ne_settle D Z Q (fun (u : (Nat → Int32) × (Nat → Nat → Int32)) => wC cy ad u.1 u.2 T L K F) P 0 0) :
    ∀ (I : Nat → Int32) (A : Nat → Nat → Int32) (x3 : Int32) (s1 : Int32) (ls : Array Slot) (H : Heap) (locs : List Loc), lv_has ls 4 [(0, .ref (ad 1)), (3, .int x3)] → HXw D Z s.heap H locs (wC cy ad I A T L K F) → g_Ne_settle_41 T L K F a1 P  I A x3 s1 → W p l e { frames := 5, cells := 0, slots := 0, locals := 116 } s m args below meth c H locs 0 0 Q (F0 m 41 ls [.int s1, .ref (ad 1)]) := by
  intro I A x3 s1 ls H locs hl h hw
  obtain ⟨hB, hw⟩ := hw
  refine fpC_Ne_113 (n := 44) C 24 rfl rfl h hB (fun H locs h => ?_)
  refine i_aload_n (n := 45) C 25 rfl rfl rfl hl 0 rfl ?_
  refine i_aload_n (n := 46) C 26 rfl rfl rfl hl 0 rfl ?_
  refine fgC_Ne_113 (n := 49) C 27 rfl rfl h ?_
  refine i_if_eq (tgt := 56) (n := 52) C 28 rfl rfl rfl (fun c7 => ?_) (fun c7 => ?_)
  · replace hw := hw.1 c7
    refine i_sipush (v := (500 : Int32)) (n := 59) C 31 rfl rfl rfl ?_
    refine fpC_Ne_116 (n := 62) C 32 rfl rfl h (fun H locs h => ?_)
    exact hret (va_up (va_up I 7 s1) 6 (500 : Int32), A) _ _ _ _ hw h (C.dg (k := 33) rfl)
  · replace hw := hw.2 c7
    refine i_iload_n (n := 53) C 29 rfl rfl rfl hl 1 rfl ?_
    refine i_goto (tgt := 59) C 30 rfl rfl ?_
    refine fpC_Ne_116 (n := 62) C 32 rfl rfl h (fun H locs h => ?_)
    exact hret (va_up (va_up I 7 s1) 6 x3, A) _ _ _ _ hw h (C.dg (k := 33) rfl)
def g_Ne_settle_18 (T : Nat → Option Nat) (L : List Nat) (K : Nat → Nat) (F : Nat → Nat → Int32) (a1 : Int32) (P : ((Nat → Int32) × (Nat → Nat → Int32)) → Prop)  (I : Nat → Int32) (A : Nat → Nat → Int32) : Prop := g_Ne_runSweeps (va_up I 8 (1 : Int32)) A T L K F a1 (fun r4 u5 => ((r4 = (-5 : Int32) → (g_Ne_settle_41 T L K F a1 P  (va_up I 8 (1 : Int32)) u5 r4 (0 : Int32))) ∧ (¬ r4 = (-5 : Int32) → (g_Ne_settle_41 T L K F a1 P  (va_up I 8 (1 : Int32)) u5 r4 (1 : Int32)))))
set_option maxHeartbeats 4000000 in
set_option maxRecDepth 100000 in
theorem e_Ne_settle_18 {T : Nat → Option Nat} {L : List Nat} {K : Nat → Nat} {F : Nat → Nat → Int32} {a1 : Int32} {P : ((Nat → Int32) × (Nat → Nat → Int32)) → Prop}  (C : CX D cy R_Ne c_Ne_settle tb_Ne_settle 4 p s m args c Z) (hret : RetV p l e { frames := 5, cells := 0, slots := 0, locals := 116 } s m args below meth c c_Ne_settle D Z Q (fun (u : (Nat → Int32) × (Nat → Nat → Int32)) => wC cy ad u.1 u.2 T L K F) P 0 0) :
    ∀ (I : Nat → Int32) (A : Nat → Nat → Int32) (ls : Array Slot) (H : Heap) (locs : List Loc), lv_has ls 4 [(0, .ref (ad 1)), (1, .int a1)] → HXw D Z s.heap H locs (wC cy ad I A T L K F) → g_Ne_settle_18 T L K F a1 P  I A → W p l e { frames := 5, cells := 0, slots := 0, locals := 116 } s m args below meth c H locs 0 0 Q (F0 m 18 ls []) := by
  intro I A ls H locs hl h hw
  refine i_aload_n (n := 19) C 10 rfl rfl rfl hl 0 rfl ?_
  refine i_iconst (v := (1 : Int32)) (n := 20) C 11 rfl rfl rfl ?_
  refine fpC_Ne_106 (n := 23) C 12 rfl rfl h (by first | exact Or.inl rfl | exact Or.inr rfl) (fun H locs h => ?_)
  refine i_aload_n (n := 24) C 13 rfl rfl rfl hl 0 rfl ?_
  refine i_iload_n (n := 25) C 14 rfl rfl rfl hl 1 rfl ?_
  refine i_callVi (rest := []) (ci := 5) (qc := (R_Ne, T_Ne, 17)) (n := 28) C 15 rfl rfl hl h rfl (wC_get (h := 1) (by decide)) (kV_Ne_110 ⟨by decide, by decide⟩) (m_Ne_runSweeps hw) rfl rfl (Nat.le_of_ble_eq_true rfl) ⟨by decide, by decide⟩ (fun r4 u5 H locs hw h => ?_)
  refine i_istore_n (lv' := [(3, .int r4), (0, .ref (ad 1)), (1, .int a1)]) (n := 29) C 16 rfl rfl rfl hl (by decide) rfl (fun ls hl => ?_)
  refine i_aload_n (n := 30) C 17 rfl rfl rfl hl 1 rfl ?_
  refine i_iload_n (n := 31) C 18 rfl rfl rfl hl 0 rfl ?_
  refine i_bipush (v := (-5 : Int32)) (n := 33) C 19 rfl rfl rfl ?_
  refine i_icmp_eq (tgt := 40) (n := 36) C 20 rfl rfl rfl (fun c6 => ?_) (fun c6 => ?_)
  · replace hw := hw.1 c6
    refine i_iconst (v := (0 : Int32)) (n := 41) C 23 rfl rfl rfl ?_
    exact e_Ne_settle_41 C hret  (va_up I 8 (1 : Int32)) u5 r4 (0 : Int32) ls _ _ (lv_sub hl [1, 0] rfl) h hw
  · replace hw := hw.2 c6
    refine i_iconst (v := (1 : Int32)) (n := 37) C 21 rfl rfl rfl ?_
    refine i_goto (tgt := 41) C 22 rfl rfl ?_
    exact e_Ne_settle_41 C hret  (va_up I 8 (1 : Int32)) u5 r4 (1 : Int32) ls _ _ (lv_sub hl [1, 0] rfl) h hw
def g_Ne_settle (I : Nat → Int32) (A : Nat → Nat → Int32) (T : Nat → Option Nat) (L : List Nat) (K : Nat → Nat) (F : Nat → Nat → Int32) (a1 : Int32) (P : ((Nat → Int32) × (Nat → Nat → Int32)) → Prop) : Prop := g_Ne_noteInputs I A T L K F a1 (fun r1 u2 => (((I 8) = 0 → (g_Ne_settle_18 T L K F a1 P  I u2)) ∧ (¬ (I 8) = 0 → ((¬ r1 = 0 → (g_Ne_settle_18 T L K F a1 P  I u2)) ∧ (r1 = 0 → (P (I, u2)))))))
set_option maxHeartbeats 4000000 in
set_option maxRecDepth 100000 in
theorem m_Ne_settle {l : Launch} {D : va_G} {cy : Nat → ClassId} {ad : Nat → Nat} {I : Nat → Int32} {A : Nat → Nat → Int32} {T : Nat → Option Nat} {L : List Nat} {K : Nat → Nat} {F : Nat → Nat → Int32} {a1 : Int32} {P : ((Nat → Int32) × (Nat → Nat → Int32)) → Prop} (hw : g_Ne_settle I A T L K F a1 P) : ∀ sz, Met l y_Ne_settle (WL y_Ne_settle c_Ne_settle 4 none) { frames := 5, cells := 0, slots := 0, locals := 116 } (va_Pc [.ref (ad 1), .int a1] (PreW D cy (wC cy ad I A T L K F) sz)) (va_Qv P (fun u t => PostW D (va_A (wC cy ad I A T L K F) sz) ((fun (u : (Nat → Int32) × (Nat → Nat → Int32)) => wC cy ad u.1 u.2 T L K F) u) t) (va_A (wC cy ad I A T L K F) sz)) 0 0 (va_A (wC cy ad I A T L K F) sz) := by
  refine met_v (wf := fun (u : (Nat → Int32) × (Nat → Nat → Int32)) => wC cy ad u.1 u.2 T L K F) R_Ne db_Ne_settle (by decide) rfl (Nat.le_of_ble_eq_true rfl) ?_
  intro p e s m below meth c Z Q ls hin C h hl hret
  have hl : lv_has ls 4 [(0, .ref (ad 1)), (1, .int a1)] := hl
  refine i_aload_n (n := 1) C 0 rfl rfl rfl hl 0 rfl ?_
  refine i_iload_n (n := 2) C 1 rfl rfl rfl hl 1 rfl ?_
  refine i_callVi (rest := []) (ci := 5) (qc := (R_Ne, T_Ne, 17)) (n := 5) C 2 rfl rfl hl h rfl (wC_get (h := 1) (by decide)) (kV_Ne_103 ⟨by decide, by decide⟩) (m_Ne_noteInputs hw) rfl rfl (Nat.le_of_ble_eq_true rfl) ⟨by decide, by decide⟩ (fun r1 u2 H locs hw h => ?_)
  refine i_istore_n (lv' := [(2, .int r1), (0, .ref (ad 1)), (1, .int a1)]) (n := 6) C 3 rfl rfl rfl hl (by decide) rfl (fun ls hl => ?_)
  refine i_aload_n (n := 7) C 4 rfl rfl rfl hl 1 rfl ?_
  refine fgC_Ne_106 (n := 10) C 5 rfl rfl h ?_
  refine i_if_eq (tgt := 18) (n := 13) C 6 rfl rfl rfl (fun c3 => ?_) (fun c3 => ?_)
  · replace hw := hw.1 c3
    exact e_Ne_settle_18 C hret  I u2 ls _ _ (lv_sub hl [1, 2] rfl) h hw
  · replace hw := hw.2 c3
    refine i_iload_n (n := 14) C 7 rfl rfl rfl hl 0 rfl ?_
    refine i_if_ne (tgt := 18) (n := 17) C 8 rfl rfl rfl (fun c8 => ?_) (fun c8 => ?_)
    · replace hw := hw.1 c8
      exact e_Ne_settle_18 C hret  I u2 ls _ _ (lv_sub hl [1, 2] rfl) h hw
    · replace hw := hw.2 c8
      exact hret (I, u2) _ _ _ _ hw h (C.dg (k := 9) rfl)
end S91
theorem kV_Pw_212 {R : Room} {s : State} {args : Array Value} (hR : 5 + 1 ≤ R.frames ∧ 8 + (4 + 11) + 116 ≤ R.locals) (ht : ∀ w ∈ GW, w.before args s = true) : CallW R s args R_Pw R_Ne 212 y_Ne_settle c_Ne_settle 4 none (WL y_Ne_settle c_Ne_settle 4 none) { frames := 5, cells := 0, slots := 0, locals := 116 } 0 0 1 := cwV 1 ht (GW_v w_3_148 w_3_149 w_3_150 w_1_2 (GW_wl w_3_151)) rfl rfl rfl (by decide +kernel) hR
section S92
variable {p : Program} {l : Launch} {e : Env} {R : Room} {s : State} {m : MethodId} {args : Array Value} {below : List Frame} {meth : Method} {c : Code} {H : Heap} {locs : List Loc} {cells slots : Nat} {Q : State → Prop}
variable {cc : ByteArray} {pc n nL : Nat} {ls : Array Slot} {rest : List Value} {D : va_G} {cy : Nat → ClassId} {Z : Nat → Prop} {ad : Nat → Nat} {tb : List (Nat × Instr × Nat)} {lv : List (Nat × Value)}
def g_Pw_work (I : Nat → Int32) (A : Nat → Nat → Int32) (T : Nat → Option Nat) (L : List Nat) (K : Nat → Nat) (F : Nat → Nat → Int32) (P : Int32 → ((Nat → Int32) × (Nat → Nat → Int32)) → Prop) : Prop := g_Ne_settle I A T L K F (I 0) (fun u1 => (((u1.1 7) = 0 → (P (-5 : Int32) (u1.1, u1.2))) ∧ (¬ (u1.1 7) = 0 → (P (u1.1 6) (u1.1, u1.2)))))
set_option maxHeartbeats 4000000 in
set_option maxRecDepth 100000 in
theorem m_Pw_work {l : Launch} {D : va_G} {cy : Nat → ClassId} {ad : Nat → Nat} {I : Nat → Int32} {A : Nat → Nat → Int32} {T : Nat → Option Nat} {L : List Nat} {K : Nat → Nat} {F : Nat → Nat → Int32}  {P : Int32 → ((Nat → Int32) × (Nat → Nat → Int32)) → Prop} (hw : g_Pw_work I A T L K F P) : ∀ sz, Met l y_Pw_work (WL y_Pw_work c_Pw_work 1 (some .int)) { frames := 6, cells := 0, slots := 0, locals := 139 } (va_Pc [.ref (ad 0)] (PreW D cy (wC cy ad I A T L K F) sz)) (va_Qi P (fun u t => PostW D (va_A (wC cy ad I A T L K F) sz) ((fun (u : (Nat → Int32) × (Nat → Nat → Int32)) => wC cy ad u.1 u.2 T L K F) u) t) (va_A (wC cy ad I A T L K F) sz)) 0 0 (va_A (wC cy ad I A T L K F) sz) := by
  refine met_i (wf := fun (u : (Nat → Int32) × (Nat → Nat → Int32)) => wC cy ad u.1 u.2 T L K F) R_Pw .int db_Pw_work (by decide) rfl rfl (Nat.le_of_ble_eq_true rfl) ?_
  intro p e s m below meth c Z Q ls C h hl hret
  have hl : lv_has ls 1 [(0, .ref (ad 0))] := hl
  refine i_aload_n (n := 1) C 0 rfl rfl rfl hl 0 rfl ?_
  refine fgC_Pw_10 (n := 4) C 1 rfl rfl h ?_
  refine i_aload_n (n := 5) C 2 rfl rfl rfl hl 0 rfl ?_
  refine fgC_Pw_184 (n := 8) C 3 rfl rfl h ?_
  refine i_callVv (rest := []) (ci := 5) (qc := (R_Ne, T_Ne, 17)) (n := 11) C 4 rfl rfl hl h rfl (wC_get (h := 1) (by decide)) (kV_Pw_212 ⟨by decide, by decide⟩) (m_Ne_settle hw) rfl rfl (Nat.le_of_ble_eq_true rfl) ⟨by decide, by decide⟩ (fun u1 H locs hw h => ?_)
  refine i_aload_n (n := 12) C 5 rfl rfl rfl hl 0 rfl ?_
  refine fgC_Pw_10 (n := 15) C 6 rfl rfl h ?_
  refine fgC_Pw_216 (n := 18) C 7 rfl rfl h ?_
  refine i_if_eq (tgt := 31) (n := 21) C 8 rfl rfl rfl (fun c2 => ?_) (fun c2 => ?_)
  · replace hw := hw.1 c2
    refine i_bipush (v := (-5 : Int32)) (n := 33) C 13 rfl rfl rfl ?_
    exact hret _ (u1.1, u1.2) _ _ _ _ rfl hw h (C.dg (k := 14) rfl)
  · replace hw := hw.2 c2
    refine i_aload_n (n := 22) C 9 rfl rfl rfl hl 0 rfl ?_
    refine fgC_Pw_10 (n := 25) C 10 rfl rfl h ?_
    refine fgC_Pw_219 (n := 28) C 11 rfl rfl h ?_
    refine i_goto (tgt := 33) C 12 rfl rfl ?_
    exact hret _ (u1.1, u1.2) _ _ _ _ rfl hw h (C.dg (k := 14) rfl)
end S92
section S93
variable {p : Program} {l : Launch} {e : Env} {R : Room} {s : State} {m : MethodId} {args : Array Value} {below : List Frame} {meth : Method} {c : Code} {H : Heap} {locs : List Loc} {cells slots : Nat} {Q : State → Prop}
variable {cc : ByteArray} {pc n nL : Nat} {ls : Array Slot} {rest : List Value} {D : va_G} {cy : Nat → ClassId} {Z : Nat → Prop} {ad : Nat → Nat} {tb : List (Nat × Instr × Nat)} {lv : List (Nat × Value)}
def g_Pw_near (I : Nat → Int32) (a1 : Int32) (P : Int32 → ((Nat → Int32)) → Prop) : Prop := g_Pw_isWithin a1 (0 : Int32) (100 : Int32) (fun r1 => ((¬ r1 = 0 → (∀ y3 : Int32, y3 = (I 5) → (P y3 (va_up I 5 a1)))) ∧ (r1 = 0 → (P (-2 : Int32) I))))
set_option maxHeartbeats 4000000 in
set_option maxRecDepth 100000 in
theorem m_Pw_near {l : Launch} {D : va_G} {cy : Nat → ClassId} {ad : Nat → Nat} {I : Nat → Int32} {A : Nat → Nat → Int32} {T : Nat → Option Nat} {L : List Nat} {K : Nat → Nat} {F : Nat → Nat → Int32} {a1 : Int32} {P : Int32 → ((Nat → Int32)) → Prop} (hw : g_Pw_near I a1 P) : ∀ sz, Met l y_Pw_near (WL y_Pw_near c_Pw_near 3 (some .int)) { frames := 1, cells := 0, slots := 0, locals := 22 } (va_Pc [.ref (ad 0), .int a1] (PreW D cy (wC cy ad I A T L K F) sz)) (va_Qi P (fun u t => PostW D (va_A (wC cy ad I A T L K F) sz) ((fun (u : (Nat → Int32)) => wC cy ad u A T L K F) u) t) (va_A (wC cy ad I A T L K F) sz)) 0 0 (va_A (wC cy ad I A T L K F) sz) := by
  refine met_i (wf := fun (u : (Nat → Int32)) => wC cy ad u A T L K F) R_Pw .int db_Pw_near (by decide) rfl rfl (Nat.le_of_ble_eq_true rfl) ?_
  intro p e s m below meth c Z Q ls C h hl hret
  have hl : lv_has ls 3 [(0, .ref (ad 0)), (1, .int a1)] := hl
  refine i_iload_n (n := 1) C 0 rfl rfl rfl hl 1 rfl ?_
  refine i_iconst (v := (0 : Int32)) (n := 2) C 1 rfl rfl rfl ?_
  refine i_bipush (v := (100 : Int32)) (n := 4) C 2 rfl rfl rfl ?_
  refine i_callSp (rest := []) (n := 7) C 3 rfl rfl hl h (kS_Pw_69 ⟨by decide, by decide⟩) (m_Pw_isWithin hw) rfl rfl (Nat.le_of_ble_eq_true rfl) ⟨by decide, by decide⟩ (fun r1 hw => ?_)
  refine i_if_ne (tgt := 13) (n := 10) C 4 rfl rfl rfl (fun c2 => ?_) (fun c2 => ?_)
  · replace hw := hw.1 c2
    refine i_aload_n (n := 14) C 7 rfl rfl rfl hl 0 rfl ?_
    refine fgC_Pw_10 (n := 17) C 8 rfl rfl h ?_
    refine fgC_Pw_222 (n := 20) C 9 rfl rfl h ?_
    refine lv_topi (fun y3 ey3 => ?_)
    replace hw := hw y3 ey3
    refine i_istore_n (lv' := [(2, .int y3), (0, .ref (ad 0)), (1, .int a1)]) (n := 21) C 10 rfl rfl rfl hl (by decide) rfl (fun ls hl => ?_)
    refine i_aload_n (n := 22) C 11 rfl rfl rfl hl 1 rfl ?_
    refine fgC_Pw_10 (n := 25) C 12 rfl rfl h ?_
    refine i_iload_n (n := 26) C 13 rfl rfl rfl hl 2 rfl ?_
    refine fpC_Pw_222 (n := 29) C 14 rfl rfl h (fun H locs h => ?_)
    refine i_iload_n (n := 30) C 15 rfl rfl rfl hl 0 rfl ?_
    exact hret _ (va_up I 5 a1) _ _ _ _ rfl hw h (C.dg (k := 16) rfl)
  · replace hw := hw.2 c2
    refine i_bipush (v := (-2 : Int32)) (n := 12) C 5 rfl rfl rfl ?_
    exact hret _ I _ _ _ _ rfl hw h (C.dg (k := 6) rfl)
end S93
theorem kV_Pw_230 {R : Room} {s : State} {args : Array Value} (hR : 0 + 1 ≤ R.frames ∧ 8 + (2 + 11) + 0 ≤ R.locals) (ht : ∀ w ∈ GW, w.before args s = true) : CallW R s args R_Pw R_Ne 230 y_Ne_pressAt c_Ne_pressAt 2 (some .int) (WL y_Ne_pressAt c_Ne_pressAt 2 (some .int)) { frames := 0, cells := 0, slots := 0, locals := 0 } 0 0 1 := cwV 1 ht (GW_v w_3_230 w_3_56 w_3_57 w_1_2 (GW_wl w_3_58)) rfl rfl rfl (by decide +kernel) hR
section S94
variable {p : Program} {l : Launch} {e : Env} {R : Room} {s : State} {m : MethodId} {args : Array Value} {below : List Frame} {meth : Method} {c : Code} {H : Heap} {locs : List Loc} {cells slots : Nat} {Q : State → Prop}
variable {cc : ByteArray} {pc n nL : Nat} {ls : Array Slot} {rest : List Value} {D : va_G} {cy : Nat → ClassId} {Z : Nat → Prop} {ad : Nat → Nat} {tb : List (Nat × Instr × Nat)} {lv : List (Nat × Value)}
def g_Pw_press (I : Nat → Int32) (A : Nat → Nat → Int32) (a1 : Int32) (a2 : Int32) (P : Int32 → Prop) : Prop := g_Ne_has I a1 (fun r1 => ((¬ r1 = 0 → (g_Pw_isWithin a2 (0 : Int32) (1 : Int32) (fun r3 => ((¬ r3 = 0 → ((¬ a2 = 0 → (g_Ne_pressAt A a1 (fun r6 => (P r6)))) ∧ (a2 = 0 → (vp_in a1 12 ∧ (P (A 9 a1.toNatClampNeg)))))) ∧ (r3 = 0 → (P (-1000002 : Int32))))))) ∧ (r1 = 0 → (P (-1000001 : Int32)))))
set_option maxHeartbeats 4000000 in
set_option maxRecDepth 100000 in
theorem m_Pw_press {l : Launch} {D : va_G} {cy : Nat → ClassId} {ad : Nat → Nat} {I : Nat → Int32} {A : Nat → Nat → Int32} {T : Nat → Option Nat} {L : List Nat} {K : Nat → Nat} {F : Nat → Nat → Int32} {a1 : Int32} {a2 : Int32} {P : Int32 → Prop} (hw : g_Pw_press I A a1 a2 P) : ∀ sz, Met l y_Pw_press (WL y_Pw_press c_Pw_press 3 (some .int)) { frames := 1, cells := 0, slots := 0, locals := 22 } (va_Pc [.ref (ad 0), .int a1, .int a2] (PreW D cy (wC cy ad I A T L K F) sz)) (vp_Si P) 0 0 (fun _ => False) := by
  refine met_p R_Pw .int db_Pw_press (by decide) rfl rfl (Nat.le_of_ble_eq_true rfl) ?_
  intro p e s m below meth c Z Q ls C h hl hret
  have hl : lv_has ls 3 [(0, .ref (ad 0)), (1, .int a1), (2, .int a2)] := hl
  refine i_aload_n (n := 1) C 0 rfl rfl rfl hl 0 rfl ?_
  refine fgC_Pw_10 (n := 4) C 1 rfl rfl h ?_
  refine i_iload_n (n := 5) C 2 rfl rfl rfl hl 1 rfl ?_
  refine i_callVp (rest := []) (ci := 5) (qc := (R_Ne, T_Ne, 17)) (n := 8) C 3 rfl rfl hl h rfl (wC_get (h := 1) (by decide)) (kV_Pw_77 ⟨by decide, by decide⟩) (m_Ne_has hw) rfl rfl (Nat.le_of_ble_eq_true rfl) ⟨by decide, by decide⟩ (fun r1 hw => ?_)
  refine i_if_ne (tgt := 14) (n := 11) C 4 rfl rfl rfl (fun c2 => ?_) (fun c2 => ?_)
  · replace hw := hw.1 c2
    refine i_iload_n (n := 15) C 7 rfl rfl rfl hl 2 rfl ?_
    refine i_iconst (v := (0 : Int32)) (n := 16) C 8 rfl rfl rfl ?_
    refine i_iconst (v := (1 : Int32)) (n := 17) C 9 rfl rfl rfl ?_
    refine i_callSp (rest := []) (n := 20) C 10 rfl rfl hl h (kS_Pw_69 ⟨by decide, by decide⟩) (m_Pw_isWithin hw) rfl rfl (Nat.le_of_ble_eq_true rfl) ⟨by decide, by decide⟩ (fun r3 hw => ?_)
    refine i_if_ne (tgt := 26) (n := 23) C 11 rfl rfl rfl (fun c4 => ?_) (fun c4 => ?_)
    · replace hw := hw.1 c4
      refine i_iload_n (n := 27) C 14 rfl rfl rfl hl 2 rfl ?_
      refine i_if_ne (tgt := 42) (n := 30) C 15 rfl rfl rfl (fun c5 => ?_) (fun c5 => ?_)
      · replace hw := hw.1 c5
        refine i_aload_n (n := 43) C 22 rfl rfl rfl hl 0 rfl ?_
        refine fgC_Pw_10 (n := 46) C 23 rfl rfl h ?_
        refine i_iload_n (n := 47) C 24 rfl rfl rfl hl 1 rfl ?_
        refine i_callVp (rest := []) (ci := 5) (qc := (R_Ne, T_Ne, 17)) (n := 50) C 25 rfl rfl hl h rfl (wC_get (h := 1) (by decide)) (kV_Pw_230 ⟨by decide, by decide⟩) (m_Ne_pressAt hw) rfl rfl (Nat.le_of_ble_eq_true rfl) ⟨by decide, by decide⟩ (fun r6 hw => ?_)
        exact hret _ _ _ rfl hw (C.dg (k := 26) rfl)
      · replace hw := hw.2 c5
        refine i_aload_n (n := 31) C 16 rfl rfl rfl hl 0 rfl ?_
        refine fgC_Pw_10 (n := 34) C 17 rfl rfl h ?_
        refine fgC_Pw_227 (n := 37) C 18 rfl rfl h ?_
        refine i_iload_n (n := 38) C 19 rfl rfl rfl hl 1 rfl ?_
        obtain ⟨hb, hw⟩ := hw
        refine i_iald (n := 39) C 20 rfl rfl h (wC_arr 9 (by decide) rfl) hb ?_
        refine i_goto (tgt := 50) C 21 rfl rfl ?_
        exact hret _ _ _ rfl hw (C.dg (k := 26) rfl)
    · replace hw := hw.2 c4
      refine i_ldc (n := 25) C 12 rfl rfl w_3_229 ?_
      exact hret _ _ _ rfl hw (C.dg (k := 13) rfl)
  · replace hw := hw.2 c2
    refine i_ldc (n := 13) C 5 rfl rfl w_3_228 ?_
    exact hret _ _ _ rfl hw (C.dg (k := 6) rfl)
end S94
section S95
variable {p : Program} {l : Launch} {e : Env} {R : Room} {s : State} {m : MethodId} {args : Array Value} {below : List Frame} {meth : Method} {c : Code} {H : Heap} {locs : List Loc} {cells slots : Nat} {Q : State → Prop}
variable {cc : ByteArray} {pc n nL : Nat} {ls : Array Slot} {rest : List Value} {D : va_G} {cy : Nat → ClassId} {Z : Nat → Prop} {ad : Nat → Nat} {tb : List (Nat × Instr × Nat)} {lv : List (Nat × Value)}
def g_Ne_flowOf (A : Nat → Nat → Int32) (a1 : Int32) (P : Int32 → Prop) : Prop := vp_in a1 18 ∧ (vp_in a1 18 ∧ (vp_in (A 17 a1.toNatClampNeg) 12 ∧ (vp_in a1 18 ∧ (vp_in (A 18 a1.toNatClampNeg) 12 ∧ (P (((A 19 a1.toNatClampNeg) * ((A 9 (A 17 a1.toNatClampNeg).toNatClampNeg) - (A 9 (A 18 a1.toNatClampNeg).toNatClampNeg))) / (1000 : Int32)))))))
set_option maxHeartbeats 4000000 in
set_option maxRecDepth 100000 in
theorem m_Ne_flowOf {l : Launch} {D : va_G} {cy : Nat → ClassId} {ad : Nat → Nat} {I : Nat → Int32} {A : Nat → Nat → Int32} {T : Nat → Option Nat} {L : List Nat} {K : Nat → Nat} {F : Nat → Nat → Int32} {a1 : Int32} {P : Int32 → Prop} (hw : g_Ne_flowOf A a1 P) : ∀ sz, Met l y_Ne_flowOf (WL y_Ne_flowOf c_Ne_flowOf 2 (some .int)) { frames := 0, cells := 0, slots := 0, locals := 0 } (va_Pc [.ref (ad 1), .int a1] (PreW D cy (wC cy ad I A T L K F) sz)) (vp_Si P) 0 0 (fun _ => False) := by
  refine met_p R_Ne .int db_Ne_flowOf (by decide) rfl rfl (Nat.le_of_ble_eq_true rfl) ?_
  intro p e s m below meth c Z Q ls C h hl hret
  have hl : lv_has ls 2 [(0, .ref (ad 1)), (1, .int a1)] := hl
  refine i_aload_n (n := 1) C 0 rfl rfl rfl hl 0 rfl ?_
  refine fgC_Ne_12 (n := 4) C 1 rfl rfl h ?_
  refine fgC_Ne_79 (n := 7) C 2 rfl rfl h ?_
  refine i_iload_n (n := 8) C 3 rfl rfl rfl hl 1 rfl ?_
  obtain ⟨hb, hw⟩ := hw
  refine i_iald (n := 9) C 4 rfl rfl h (wC_arr 19 (by decide) rfl) hb ?_
  refine i_aload_n (n := 10) C 5 rfl rfl rfl hl 0 rfl ?_
  refine fgC_Ne_25 (n := 13) C 6 rfl rfl h ?_
  refine i_aload_n (n := 14) C 7 rfl rfl rfl hl 0 rfl ?_
  refine fgC_Ne_12 (n := 17) C 8 rfl rfl h ?_
  refine fgC_Ne_82 (n := 20) C 9 rfl rfl h ?_
  refine i_iload_n (n := 21) C 10 rfl rfl rfl hl 1 rfl ?_
  obtain ⟨hb, hw⟩ := hw
  refine i_iald (n := 22) C 11 rfl rfl h (wC_arr 17 (by decide) rfl) hb ?_
  obtain ⟨hb, hw⟩ := hw
  refine i_iald (n := 23) C 12 rfl rfl h (wC_arr 9 (by decide) rfl) hb ?_
  refine i_aload_n (n := 24) C 13 rfl rfl rfl hl 0 rfl ?_
  refine fgC_Ne_25 (n := 27) C 14 rfl rfl h ?_
  refine i_aload_n (n := 28) C 15 rfl rfl rfl hl 0 rfl ?_
  refine fgC_Ne_12 (n := 31) C 16 rfl rfl h ?_
  refine fgC_Ne_85 (n := 34) C 17 rfl rfl h ?_
  refine i_iload_n (n := 35) C 18 rfl rfl rfl hl 1 rfl ?_
  obtain ⟨hb, hw⟩ := hw
  refine i_iald (n := 36) C 19 rfl rfl h (wC_arr 18 (by decide) rfl) hb ?_
  obtain ⟨hb, hw⟩ := hw
  refine i_iald (n := 37) C 20 rfl rfl h (wC_arr 9 (by decide) rfl) hb ?_
  refine i_isub (n := 38) C 21 rfl rfl ?_
  refine i_imul (n := 39) C 22 rfl rfl ?_
  refine i_sipush (v := (1000 : Int32)) (n := 42) C 23 rfl rfl rfl ?_
  refine i_idiv (n := 43) C 24 rfl rfl (by decide) ?_
  exact hret _ _ _ rfl hw (C.dg (k := 25) rfl)
end S95
theorem kV_Pw_233 {R : Room} {s : State} {args : Array Value} (hR : 0 + 1 ≤ R.frames ∧ 8 + (2 + 11) + 0 ≤ R.locals) (ht : ∀ w ∈ GW, w.before args s = true) : CallW R s args R_Pw R_Ne 233 y_Ne_flowOf c_Ne_flowOf 2 (some .int) (WL y_Ne_flowOf c_Ne_flowOf 2 (some .int)) { frames := 0, cells := 0, slots := 0, locals := 0 } 0 0 1 := cwV 1 ht (GW_v w_3_235 w_3_236 w_3_237 w_1_2 (GW_wl w_3_238)) rfl rfl rfl (by decide +kernel) hR
section S96
variable {p : Program} {l : Launch} {e : Env} {R : Room} {s : State} {m : MethodId} {args : Array Value} {below : List Frame} {meth : Method} {c : Code} {H : Heap} {locs : List Loc} {cells slots : Nat} {Q : State → Prop}
variable {cc : ByteArray} {pc n nL : Nat} {ls : Array Slot} {rest : List Value} {D : va_G} {cy : Nat → ClassId} {Z : Nat → Prop} {ad : Nat → Nat} {tb : List (Nat × Instr × Nat)} {lv : List (Nat × Value)}
def g_Pw_flow (I : Nat → Int32) (A : Nat → Nat → Int32) (a1 : Int32) (P : Int32 → Prop) : Prop := g_Pi_hasMain I a1 (fun r1 => ((¬ r1 = 0 → (g_Pi_isOpen I A a1 (fun r3 => ((r3 = 0 → (P (0 : Int32))) ∧ (¬ r3 = 0 → (g_Ne_flowOf A a1 (fun r5 => (P r5)))))))) ∧ (r1 = 0 → (P (-1000001 : Int32)))))
set_option maxHeartbeats 4000000 in
set_option maxRecDepth 100000 in
theorem m_Pw_flow {l : Launch} {D : va_G} {cy : Nat → ClassId} {ad : Nat → Nat} {I : Nat → Int32} {A : Nat → Nat → Int32} {T : Nat → Option Nat} {L : List Nat} {K : Nat → Nat} {F : Nat → Nat → Int32} {a1 : Int32} {P : Int32 → Prop} (hw : g_Pw_flow I A a1 P) : ∀ sz, Met l y_Pw_flow (WL y_Pw_flow c_Pw_flow 2 (some .int)) { frames := 3, cells := 0, slots := 0, locals := 66 } (va_Pc [.ref (ad 0), .int a1] (PreW D cy (wC cy ad I A T L K F) sz)) (vp_Si P) 0 0 (fun _ => False) := by
  refine met_p R_Pw .int db_Pw_flow (by decide) rfl rfl (Nat.le_of_ble_eq_true rfl) ?_
  intro p e s m below meth c Z Q ls C h hl hret
  have hl : lv_has ls 2 [(0, .ref (ad 0)), (1, .int a1)] := hl
  refine i_aload_n (n := 1) C 0 rfl rfl rfl hl 0 rfl ?_
  refine fgC_Pw_20 (n := 4) C 1 rfl rfl h ?_
  refine i_iload_n (n := 5) C 2 rfl rfl rfl hl 1 rfl ?_
  refine i_callVp (rest := []) (ci := 7) (qc := (R_Pi, T_Pi, 8)) (n := 8) C 3 rfl rfl hl h rfl (wC_get (h := 2) (by decide)) (kV_Pw_87 ⟨by decide, by decide⟩) (m_Pi_hasMain hw) rfl rfl (Nat.le_of_ble_eq_true rfl) ⟨by decide, by decide⟩ (fun r1 hw => ?_)
  refine i_if_ne (tgt := 14) (n := 11) C 4 rfl rfl rfl (fun c2 => ?_) (fun c2 => ?_)
  · replace hw := hw.1 c2
    refine i_aload_n (n := 15) C 7 rfl rfl rfl hl 0 rfl ?_
    refine fgC_Pw_20 (n := 18) C 8 rfl rfl h ?_
    refine i_iload_n (n := 19) C 9 rfl rfl rfl hl 1 rfl ?_
    refine i_callVp (rest := []) (ci := 7) (qc := (R_Pi, T_Pi, 8)) (n := 22) C 10 rfl rfl hl h rfl (wC_get (h := 2) (by decide)) (kV_Pw_100 ⟨by decide, by decide⟩) (m_Pi_isOpen hw) rfl rfl (Nat.le_of_ble_eq_true rfl) ⟨by decide, by decide⟩ (fun r3 hw => ?_)
    refine i_if_eq (tgt := 36) (n := 25) C 11 rfl rfl rfl (fun c4 => ?_) (fun c4 => ?_)
    · replace hw := hw.1 c4
      refine i_iconst (v := (0 : Int32)) (n := 37) C 17 rfl rfl rfl ?_
      exact hret _ _ _ rfl hw (C.dg (k := 18) rfl)
    · replace hw := hw.2 c4
      refine i_aload_n (n := 26) C 12 rfl rfl rfl hl 0 rfl ?_
      refine fgC_Pw_10 (n := 29) C 13 rfl rfl h ?_
      refine i_iload_n (n := 30) C 14 rfl rfl rfl hl 1 rfl ?_
      refine i_callVp (rest := []) (ci := 5) (qc := (R_Ne, T_Ne, 17)) (n := 33) C 15 rfl rfl hl h rfl (wC_get (h := 1) (by decide)) (kV_Pw_233 ⟨by decide, by decide⟩) (m_Ne_flowOf hw) rfl rfl (Nat.le_of_ble_eq_true rfl) ⟨by decide, by decide⟩ (fun r5 hw => ?_)
      refine i_goto (tgt := 37) C 16 rfl rfl ?_
      exact hret _ _ _ rfl hw (C.dg (k := 18) rfl)
  · replace hw := hw.2 c2
    refine i_ldc (n := 13) C 5 rfl rfl w_3_228 ?_
    exact hret _ _ _ rfl hw (C.dg (k := 6) rfl)
end S96
section S97
variable {p : Program} {l : Launch} {e : Env} {R : Room} {s : State} {m : MethodId} {args : Array Value} {below : List Frame} {meth : Method} {c : Code} {H : Heap} {locs : List Loc} {cells slots : Nat} {Q : State → Prop}
variable {cc : ByteArray} {pc n nL : Nat} {ls : Array Slot} {rest : List Value} {D : va_G} {cy : Nat → ClassId} {Z : Nat → Prop} {ad : Nat → Nat} {tb : List (Nat × Instr × Nat)} {lv : List (Nat × Value)}
def g_Dr_strokesOf (a1 : Int32) (P : Int32 → Prop) : Prop := P a1
set_option maxHeartbeats 4000000 in
set_option maxRecDepth 100000 in
theorem m_Dr_strokesOf {l : Launch} {D : va_G} {cy : Nat → ClassId}   {a1 : Int32} {b : Nat} {w : va_W} {P : Int32 → Prop} (hw : g_Dr_strokesOf a1 P) : ∀ sz, Met l y_Dr_strokesOf (WL y_Dr_strokesOf c_Dr_strokesOf 2 (some .int)) { frames := 0, cells := 0, slots := 0, locals := 0 } (va_Pc [.ref b, .int a1] (PreW D cy (w) sz)) (vp_Si P) 0 0 (fun _ => False) := by
  refine met_p R_Dr .int db_Dr_strokesOf (by decide) rfl rfl (Nat.le_of_ble_eq_true rfl) ?_
  intro p e s m below meth c Z Q ls C h hl hret
  have hl : lv_has ls 2 [(0, .ref b), (1, .int a1)] := hl
  refine i_iload_n (n := 1) C 0 rfl rfl rfl hl 1 rfl ?_
  exact hret _ _ _ rfl hw (C.dg (k := 1) rfl)
end S97
section S98
variable {p : Program} {l : Launch} {e : Env} {R : Room} {s : State} {m : MethodId} {args : Array Value} {below : List Frame} {meth : Method} {c : Code} {H : Heap} {locs : List Loc} {cells slots : Nat} {Q : State → Prop}
variable {cc : ByteArray} {pc n nL : Nat} {ls : Array Slot} {rest : List Value} {D : va_G} {cy : Nat → ClassId} {Z : Nat → Prop} {ad : Nat → Nat} {tb : List (Nat × Instr × Nat)} {lv : List (Nat × Value)}
def g_Th_strokesOf (a1 : Int32) (P : Int32 → Prop) : Prop := P (0 : Int32)
set_option maxHeartbeats 4000000 in
set_option maxRecDepth 100000 in
theorem m_Th_strokesOf {l : Launch} {D : va_G} {cy : Nat → ClassId}   {a1 : Int32} {b : Nat} {w : va_W} {P : Int32 → Prop} (hw : g_Th_strokesOf a1 P) : ∀ sz, Met l y_Th_strokesOf (WL y_Th_strokesOf c_Th_strokesOf 2 (some .int)) { frames := 0, cells := 0, slots := 0, locals := 0 } (va_Pc [.ref b, .int a1] (PreW D cy (w) sz)) (vp_Si P) 0 0 (fun _ => False) := by
  refine met_p R_Th .int db_Th_strokesOf (by decide) rfl rfl (Nat.le_of_ble_eq_true rfl) ?_
  intro p e s m below meth c Z Q ls C h hl hret
  have hl : lv_has ls 2 [(0, .ref b), (1, .int a1)] := hl
  refine i_iconst (v := (0 : Int32)) (n := 1) C 0 rfl rfl rfl ?_
  exact hret _ _ _ rfl hw (C.dg (k := 1) rfl)
end S98
section S99
variable {p : Program} {l : Launch} {e : Env} {R : Room} {s : State} {m : MethodId} {args : Array Value} {below : List Frame} {meth : Method} {c : Code} {H : Heap} {locs : List Loc} {cells slots : Nat} {Q : State → Prop}
variable {cc : ByteArray} {pc n nL : Nat} {ls : Array Slot} {rest : List Value} {D : va_G} {cy : Nat → ClassId} {Z : Nat → Prop} {ad : Nat → Nat} {tb : List (Nat × Instr × Nat)} {lv : List (Nat × Value)}
def g_Th_givesAndTakes  (P : Int32 → Prop) : Prop := P (0 : Int32)
set_option maxHeartbeats 4000000 in
set_option maxRecDepth 100000 in
theorem m_Th_givesAndTakes {l : Launch} {D : va_G} {cy : Nat → ClassId}    {b : Nat} {w : va_W} {P : Int32 → Prop} (hw : g_Th_givesAndTakes  P) : ∀ sz, Met l y_Th_givesAndTakes (WL y_Th_givesAndTakes c_Th_givesAndTakes 1 (some .boolean)) { frames := 0, cells := 0, slots := 0, locals := 0 } (va_Pc [.ref b] (PreW D cy (w) sz)) (vp_Si P) 0 0 (fun _ => False) := by
  refine met_p R_Th .boolean db_Th_givesAndTakes (by decide) rfl rfl (Nat.le_of_ble_eq_true rfl) ?_
  intro p e s m below meth c Z Q ls C h hl hret
  have hl : lv_has ls 1 [(0, .ref b)] := hl
  refine i_iconst (v := (0 : Int32)) (n := 1) C 0 rfl rfl rfl ?_
  exact hret _ _ _ rfl hw (C.dg (k := 1) rfl)
end S99
section S100
variable {p : Program} {l : Launch} {e : Env} {R : Room} {s : State} {m : MethodId} {args : Array Value} {below : List Frame} {meth : Method} {c : Code} {H : Heap} {locs : List Loc} {cells slots : Nat} {Q : State → Prop}
variable {cc : ByteArray} {pc n nL : Nat} {ls : Array Slot} {rest : List Value} {D : va_G} {cy : Nat → ClassId} {Z : Nat → Prop} {ad : Nat → Nat} {tb : List (Nat × Instr × Nat)} {lv : List (Nat × Value)}
def g_Ho_givesAndTakes  (P : Int32 → Prop) : Prop := P (0 : Int32)
set_option maxHeartbeats 4000000 in
set_option maxRecDepth 100000 in
theorem m_Ho_givesAndTakes {l : Launch} {D : va_G} {cy : Nat → ClassId}    {b : Nat} {w : va_W} {P : Int32 → Prop} (hw : g_Ho_givesAndTakes  P) : ∀ sz, Met l y_Ho_givesAndTakes (WL y_Ho_givesAndTakes c_Ho_givesAndTakes 1 (some .boolean)) { frames := 0, cells := 0, slots := 0, locals := 0 } (va_Pc [.ref b] (PreW D cy (w) sz)) (vp_Si P) 0 0 (fun _ => False) := by
  refine met_p R_Ho .boolean db_Ho_givesAndTakes (by decide) rfl rfl (Nat.le_of_ble_eq_true rfl) ?_
  intro p e s m below meth c Z Q ls C h hl hret
  have hl : lv_has ls 1 [(0, .ref b)] := hl
  refine i_iconst (v := (0 : Int32)) (n := 1) C 0 rfl rfl rfl ?_
  exact hret _ _ _ rfl hw (C.dg (k := 1) rfl)
end S100
section S101
variable {p : Program} {l : Launch} {e : Env} {R : Room} {s : State} {m : MethodId} {args : Array Value} {below : List Frame} {meth : Method} {c : Code} {H : Heap} {locs : List Loc} {cells slots : Nat} {Q : State → Prop}
variable {cc : ByteArray} {pc n nL : Nat} {ls : Array Slot} {rest : List Value} {D : va_G} {cy : Nat → ClassId} {Z : Nat → Prop} {ad : Nat → Nat} {tb : List (Nat × Instr × Nat)} {lv : List (Nat × Value)}
def g_To_givesAndTakes  (P : Int32 → Prop) : Prop := P (1 : Int32)
set_option maxHeartbeats 4000000 in
set_option maxRecDepth 100000 in
theorem m_To_givesAndTakes {l : Launch} {D : va_G} {cy : Nat → ClassId}    {b : Nat} {w : va_W} {P : Int32 → Prop} (hw : g_To_givesAndTakes  P) : ∀ sz, Met l y_To_givesAndTakes (WL y_To_givesAndTakes c_To_givesAndTakes 1 (some .boolean)) { frames := 0, cells := 0, slots := 0, locals := 0 } (va_Pc [.ref b] (PreW D cy (w) sz)) (vp_Si P) 0 0 (fun _ => False) := by
  refine met_p R_To .boolean db_To_givesAndTakes (by decide) rfl rfl (Nat.le_of_ble_eq_true rfl) ?_
  intro p e s m below meth c Z Q ls C h hl hret
  have hl : lv_has ls 1 [(0, .ref b)] := hl
  refine i_iconst (v := (1 : Int32)) (n := 1) C 0 rfl rfl rfl ?_
  exact hret _ _ _ rfl hw (C.dg (k := 1) rfl)
end S101
theorem kV_Ne_94 {R : Room} {s : State} {args : Array Value} (hR : 0 + 1 ≤ R.frames ∧ 8 + (2 + 11) + 0 ≤ R.locals) (ht : ∀ w ∈ GW, w.before args s = true) : CallW R s args R_Ne R_Ne 94 y_Ne_flowOf c_Ne_flowOf 2 (some .int) (WL y_Ne_flowOf c_Ne_flowOf 2 (some .int)) { frames := 0, cells := 0, slots := 0, locals := 0 } 0 0 1 := cwV 1 ht (GW_v w_4_38 w_3_236 w_3_237 w_1_2 (GW_wl w_3_238)) rfl rfl rfl (by decide +kernel) hR
section S102
variable {p : Program} {l : Launch} {e : Env} {R : Room} {s : State} {m : MethodId} {args : Array Value} {below : List Frame} {meth : Method} {c : Code} {H : Heap} {locs : List Loc} {cells slots : Nat} {Q : State → Prop}
variable {cc : ByteArray} {pc n nL : Nat} {ls : Array Slot} {rest : List Value} {D : va_G} {cy : Nat → ClassId} {Z : Nat → Prop} {ad : Nat → Nat} {tb : List (Nat × Instr × Nat)} {lv : List (Nat × Value)}
def g_Ne_flowOut_77 (I : Nat → Int32) (A : Nat → Nat → Int32) (a1 : Int32) (a2 : Int32) (P : Int32 → Prop) (kb5 : Int32 → Int32 → Prop) (x3 : Int32) (x4 : Int32) : Prop := kb5 x3 (x4 + (1 : Int32))
set_option maxHeartbeats 4000000 in
set_option maxRecDepth 100000 in
theorem e_Ne_flowOut_77 {I : Nat → Int32} {A : Nat → Nat → Int32} {T : Nat → Option Nat} {L : List Nat} {K : Nat → Nat} {F : Nat → Nat → Int32} {a1 : Int32} {a2 : Int32} {P : Int32 → Prop} {kb5 : Int32 → Int32 → Prop} (C : CX D cy R_Ne c_Ne_flowOut tb_Ne_flowOut 5 p s m args c Z) (h : HXw D Z s.heap H locs (wC cy ad I A T L K F)) (hret : RetP p l e { frames := 1, cells := 0, slots := 0, locals := 21 } s m args below meth c c_Ne_flowOut .int H locs Q P)
    (hb5 : ∀ (x3 : Int32) (x4 : Int32) (ls : Array Slot), lv_has ls 5 [(0, .ref (ad 1)), (1, .int a1), (2, .int a2), (3, .int x3), (4, .int x4)] → kb5 x3 x4 → W p l e { frames := 1, cells := 0, slots := 0, locals := 21 } s m args below meth c H locs 0 0 Q (F0 m 5 ls [])) :
    ∀ (x3 : Int32) (x4 : Int32) (ls : Array Slot), lv_has ls 5 [(0, .ref (ad 1)), (1, .int a1), (2, .int a2), (3, .int x3), (4, .int x4)] → g_Ne_flowOut_77 I A a1 a2 P kb5 x3 x4 → W p l e { frames := 1, cells := 0, slots := 0, locals := 21 } s m args below meth c H locs 0 0 Q (F0 m 77 ls []) := by
  intro x3 x4 ls hl hw
  refine i_iinc (v := x4 + (1 : Int32)) (lv' := [(4, .int (x4 + (1 : Int32))), (0, .ref (ad 1)), (1, .int a1), (2, .int a2), (3, .int x3)]) (n := 80) C 40 rfl rfl hl 4 rfl rfl (by decide) rfl (fun ls hl => ?_)
  refine i_goto (tgt := 5) C 41 rfl rfl ?_
  exact hb5 x3 (x4 + (1 : Int32)) ls (lv_sub hl [1, 2, 3, 4, 0] rfl) hw
def g_Ne_flowOut_75 (I : Nat → Int32) (A : Nat → Nat → Int32) (a1 : Int32) (a2 : Int32) (P : Int32 → Prop) (kb5 : Int32 → Int32 → Prop) (x4 : Int32) (s0 : Int32) (s1 : Int32) : Prop := ∀ y6 : Int32, y6 = (s0 + s1) → (g_Ne_flowOut_77 I A a1 a2 P kb5 y6 x4)
set_option maxHeartbeats 4000000 in
set_option maxRecDepth 100000 in
theorem e_Ne_flowOut_75 {I : Nat → Int32} {A : Nat → Nat → Int32} {T : Nat → Option Nat} {L : List Nat} {K : Nat → Nat} {F : Nat → Nat → Int32} {a1 : Int32} {a2 : Int32} {P : Int32 → Prop} {kb5 : Int32 → Int32 → Prop} (C : CX D cy R_Ne c_Ne_flowOut tb_Ne_flowOut 5 p s m args c Z) (h : HXw D Z s.heap H locs (wC cy ad I A T L K F)) (hret : RetP p l e { frames := 1, cells := 0, slots := 0, locals := 21 } s m args below meth c c_Ne_flowOut .int H locs Q P)
    (hb5 : ∀ (x3 : Int32) (x4 : Int32) (ls : Array Slot), lv_has ls 5 [(0, .ref (ad 1)), (1, .int a1), (2, .int a2), (3, .int x3), (4, .int x4)] → kb5 x3 x4 → W p l e { frames := 1, cells := 0, slots := 0, locals := 21 } s m args below meth c H locs 0 0 Q (F0 m 5 ls [])) :
    ∀ (x4 : Int32) (s0 : Int32) (s1 : Int32) (ls : Array Slot), lv_has ls 5 [(0, .ref (ad 1)), (1, .int a1), (2, .int a2), (4, .int x4)] → g_Ne_flowOut_75 I A a1 a2 P kb5 x4 s0 s1 → W p l e { frames := 1, cells := 0, slots := 0, locals := 21 } s m args below meth c H locs 0 0 Q (F0 m 75 ls [.int s1, .int s0]) := by
  intro x4 s0 s1 ls hl hw
  refine i_iadd (n := 76) C 38 rfl rfl ?_
  refine lv_topi (fun y6 ey6 => ?_)
  replace hw := hw y6 ey6
  refine i_istore_n (lv' := [(3, .int y6), (0, .ref (ad 1)), (1, .int a1), (2, .int a2), (4, .int x4)]) (n := 77) C 39 rfl rfl rfl hl (by decide) rfl (fun ls hl => ?_)
  exact e_Ne_flowOut_77 C h hret hb5 y6 x4 ls (lv_sub hl [1, 2, 3, 0, 4] rfl) hw
def g_Ne_flowOut_5 (I : Nat → Int32) (A : Nat → Nat → Int32) (a1 : Int32) (a2 : Int32) (P : Int32 → Prop) (kx5 : Int32 → Prop) : Nat → Int32 → Int32 → Prop
  | 0, _, _ => False
  | n5 + 1, x3, x4 => ((I 9) ≤ x4 → (kx5 x3)) ∧ (¬ (I 9) ≤ x4 → (g_Pw_hasBit a2 x4 (fun r2 => ((r2 = 0 → (g_Ne_flowOut_77 I A a1 a2 P (g_Ne_flowOut_5 I A a1 a2 P kx5 n5) x3 x4)) ∧ (¬ r2 = 0 → (vp_in x4 18 ∧ ((¬ (A 17 x4.toNatClampNeg) = a1 → (vp_in x4 18 ∧ ((¬ (A 18 x4.toNatClampNeg) = a1 → (g_Ne_flowOut_75 I A a1 a2 P (g_Ne_flowOut_5 I A a1 a2 P kx5 n5) x4 x3 (0 : Int32))) ∧ ((A 18 x4.toNatClampNeg) = a1 → (g_Ne_flowOf A x4 (fun r7 => (g_Ne_flowOut_75 I A a1 a2 P (g_Ne_flowOut_5 I A a1 a2 P kx5 n5) x4 x3 (-r7)))))))) ∧ ((A 17 x4.toNatClampNeg) = a1 → (g_Ne_flowOf A x4 (fun r8 => (g_Ne_flowOut_75 I A a1 a2 P (g_Ne_flowOut_5 I A a1 a2 P kx5 n5) x4 x3 r8)))))))))))
set_option maxHeartbeats 4000000 in
set_option maxRecDepth 100000 in
theorem e_Ne_flowOut_5 {I : Nat → Int32} {A : Nat → Nat → Int32} {T : Nat → Option Nat} {L : List Nat} {K : Nat → Nat} {F : Nat → Nat → Int32} {a1 : Int32} {a2 : Int32} {P : Int32 → Prop} {kx5 : Int32 → Prop} (C : CX D cy R_Ne c_Ne_flowOut tb_Ne_flowOut 5 p s m args c Z) (h : HXw D Z s.heap H locs (wC cy ad I A T L K F)) (hret : RetP p l e { frames := 1, cells := 0, slots := 0, locals := 21 } s m args below meth c c_Ne_flowOut .int H locs Q P)
    (hx5 : ∀ (x3 : Int32) (ls : Array Slot), lv_has ls 5 [(3, .int x3)] → kx5 x3 → W p l e { frames := 1, cells := 0, slots := 0, locals := 21 } s m args below meth c H locs 0 0 Q (F0 m 83 ls [])) :
    ∀ (n : Nat) (x3 : Int32) (x4 : Int32) (ls : Array Slot), lv_has ls 5 [(0, .ref (ad 1)), (1, .int a1), (2, .int a2), (3, .int x3), (4, .int x4)] → g_Ne_flowOut_5 I A a1 a2 P kx5 n x3 x4 → W p l e { frames := 1, cells := 0, slots := 0, locals := 21 } s m args below meth c H locs 0 0 Q (F0 m 5 ls []) := by
  intro n
  induction n with
  | zero => intro x3 x4 ls hl hw; exact hw.elim
  | succ n ih =>
    intro x3 x4 ls hl hw
    refine i_iload (n := 7) C 4 rfl rfl hl 4 rfl ?_
    refine i_aload_n (n := 8) C 5 rfl rfl rfl hl 0 rfl ?_
    refine fgC_Ne_12 (n := 11) C 6 rfl rfl h ?_
    refine fgC_Ne_88 (n := 14) C 7 rfl rfl h ?_
    refine i_icmp_ge (tgt := 83) (n := 17) C 8 rfl rfl rfl (fun c1 => ?_) (fun c1 => ?_)
    · replace hw := hw.1 c1
      exact hx5 x3 ls (lv_sub hl [3] rfl) hw
    · replace hw := hw.2 c1
      refine i_iload_n (n := 18) C 9 rfl rfl rfl hl 2 rfl ?_
      refine i_iload (n := 20) C 10 rfl rfl hl 4 rfl ?_
      refine i_callSNp (rest := []) (n := 23) C 11 rfl rfl hl h (kSN_Ne_91 ⟨by decide, by decide⟩) (m_Pw_hasBit hw) rfl rfl (Nat.le_of_ble_eq_true rfl) ⟨by decide, by decide⟩ (fun r2 hw => ?_)
      refine i_if_eq (tgt := 77) (n := 26) C 12 rfl rfl rfl (fun c3 => ?_) (fun c3 => ?_)
      · replace hw := hw.1 c3
        exact e_Ne_flowOut_77 C h hret ih x3 x4 ls hl hw
      · replace hw := hw.2 c3
        refine i_iload_n (n := 27) C 13 rfl rfl rfl hl 3 rfl ?_
        refine i_aload_n (n := 28) C 14 rfl rfl rfl hl 0 rfl ?_
        refine fgC_Ne_12 (n := 31) C 15 rfl rfl h ?_
        refine fgC_Ne_82 (n := 34) C 16 rfl rfl h ?_
        refine i_iload (n := 36) C 17 rfl rfl hl 4 rfl ?_
        obtain ⟨hb, hw⟩ := hw
        refine i_iald (n := 37) C 18 rfl rfl h (wC_arr 17 (by decide) rfl) hb ?_
        refine i_iload_n (n := 38) C 19 rfl rfl rfl hl 1 rfl ?_
        refine i_icmp_ne (tgt := 50) (n := 41) C 20 rfl rfl rfl (fun c4 => ?_) (fun c4 => ?_)
        · replace hw := hw.1 c4
          refine i_aload_n (n := 51) C 25 rfl rfl rfl hl 0 rfl ?_
          refine fgC_Ne_12 (n := 54) C 26 rfl rfl h ?_
          refine fgC_Ne_85 (n := 57) C 27 rfl rfl h ?_
          refine i_iload (n := 59) C 28 rfl rfl hl 4 rfl ?_
          obtain ⟨hb, hw⟩ := hw
          refine i_iald (n := 60) C 29 rfl rfl h (wC_arr 18 (by decide) rfl) hb ?_
          refine i_iload_n (n := 61) C 30 rfl rfl rfl hl 1 rfl ?_
          refine i_icmp_ne (tgt := 74) (n := 64) C 31 rfl rfl rfl (fun c5 => ?_) (fun c5 => ?_)
          · replace hw := hw.1 c5
            refine i_iconst (v := (0 : Int32)) (n := 75) C 37 rfl rfl rfl ?_
            exact e_Ne_flowOut_75 C h hret ih x4 x3 (0 : Int32) ls (lv_sub hl [0, 1, 2, 4] rfl) hw
          · replace hw := hw.2 c5
            refine i_aload_n (n := 65) C 32 rfl rfl rfl hl 0 rfl ?_
            refine i_iload (n := 67) C 33 rfl rfl hl 4 rfl ?_
            refine i_callVp (rest := [.int x3]) (ci := 5) (qc := (R_Ne, T_Ne, 17)) (n := 70) C 34 rfl rfl hl h rfl (wC_get (h := 1) (by decide)) (kV_Ne_94 ⟨by decide, by decide⟩) (m_Ne_flowOf hw) rfl rfl (Nat.le_of_ble_eq_true rfl) ⟨by decide, by decide⟩ (fun r7 hw => ?_)
            refine i_ineg (n := 71) C 35 rfl rfl ?_
            refine i_goto (tgt := 75) C 36 rfl rfl ?_
            exact e_Ne_flowOut_75 C h hret ih x4 x3 (-r7) ls (lv_sub hl [0, 1, 2, 4] rfl) hw
        · replace hw := hw.2 c4
          refine i_aload_n (n := 42) C 21 rfl rfl rfl hl 0 rfl ?_
          refine i_iload (n := 44) C 22 rfl rfl hl 4 rfl ?_
          refine i_callVp (rest := [.int x3]) (ci := 5) (qc := (R_Ne, T_Ne, 17)) (n := 47) C 23 rfl rfl hl h rfl (wC_get (h := 1) (by decide)) (kV_Ne_94 ⟨by decide, by decide⟩) (m_Ne_flowOf hw) rfl rfl (Nat.le_of_ble_eq_true rfl) ⟨by decide, by decide⟩ (fun r8 hw => ?_)
          refine i_goto (tgt := 75) C 24 rfl rfl ?_
          exact e_Ne_flowOut_75 C h hret ih x4 x3 r8 ls (lv_sub hl [0, 1, 2, 4] rfl) hw
def g_Ne_flowOut (I : Nat → Int32) (A : Nat → Nat → Int32) (a1 : Int32) (a2 : Int32) (P : Int32 → Prop) : Prop := ∃ N : Nat, g_Ne_flowOut_5 I A a1 a2 P (fun (x3_9 : Int32) => P x3_9) N (0 : Int32) (0 : Int32)
set_option maxHeartbeats 4000000 in
set_option maxRecDepth 100000 in
theorem m_Ne_flowOut {l : Launch} {D : va_G} {cy : Nat → ClassId} {ad : Nat → Nat} {I : Nat → Int32} {A : Nat → Nat → Int32} {T : Nat → Option Nat} {L : List Nat} {K : Nat → Nat} {F : Nat → Nat → Int32} {a1 : Int32} {a2 : Int32} {P : Int32 → Prop} (hw : g_Ne_flowOut I A a1 a2 P) : ∀ sz, Met l y_Ne_flowOut (WL y_Ne_flowOut c_Ne_flowOut 5 (some .int)) { frames := 1, cells := 0, slots := 0, locals := 21 } (va_Pc [.ref (ad 1), .int a1, .int a2] (PreW D cy (wC cy ad I A T L K F) sz)) (vp_Si P) 0 0 (fun _ => False) := by
  refine met_p R_Ne .int db_Ne_flowOut (by decide) rfl rfl (Nat.le_of_ble_eq_true rfl) ?_
  intro p e s m below meth c Z Q ls C h hl hret
  have hl : lv_has ls 5 [(0, .ref (ad 1)), (1, .int a1), (2, .int a2)] := hl
  refine i_iconst (v := (0 : Int32)) (n := 1) C 0 rfl rfl rfl ?_
  refine i_istore_n (lv' := [(3, .int (0 : Int32)), (0, .ref (ad 1)), (1, .int a1), (2, .int a2)]) (n := 2) C 1 rfl rfl rfl hl (by decide) rfl (fun ls hl => ?_)
  refine i_iconst (v := (0 : Int32)) (n := 3) C 2 rfl rfl rfl ?_
  refine i_istore (lv' := [(4, .int (0 : Int32)), (3, .int (0 : Int32)), (0, .ref (ad 1)), (1, .int a1), (2, .int a2)]) (n := 5) C 3 rfl rfl hl (by decide) rfl (fun ls hl => ?_)
  obtain ⟨n9, hw⟩ := hw
  refine e_Ne_flowOut_5 C h hret (fun x3_9 ls hl hw => ?_) n9 (0 : Int32) (0 : Int32) ls (lv_sub hl [2, 3, 4, 1, 0] rfl) hw
  have hl : lv_has ls 5 [(3, .int x3_9)] := hl
  refine i_iload_n (n := 84) C 42 rfl rfl rfl hl 0 rfl ?_
  exact hret _ _ _ rfl hw (C.dg (k := 43) rfl)
end S102
section S103
variable {p : Program} {l : Launch} {e : Env} {R : Room} {s : State} {m : MethodId} {args : Array Value} {below : List Frame} {meth : Method} {c : Code} {H : Heap} {locs : List Loc} {cells slots : Nat} {Q : State → Prop}
variable {cc : ByteArray} {pc n nL : Nat} {ls : Array Slot} {rest : List Value} {D : va_G} {cy : Nat → ClassId} {Z : Nat → Prop} {ad : Nat → Nat} {tb : List (Nat × Instr × Nat)} {lv : List (Nat × Value)}
def g_Th_fill (a1 : Int32) (a2 : Int32) (P : Int32 → Prop) : Prop := P (0 : Int32)
set_option maxHeartbeats 4000000 in
set_option maxRecDepth 100000 in
theorem m_Th_fill {l : Launch} {D : va_G} {cy : Nat → ClassId}   {a1 : Int32} {a2 : Int32} {b : Nat} {w : va_W} {P : Int32 → Prop} (hw : g_Th_fill a1 a2 P) : ∀ sz, Met l y_Th_fill (WL y_Th_fill c_Th_fill 3 (some .int)) { frames := 0, cells := 0, slots := 0, locals := 0 } (va_Pc [.ref b, .int a1, .int a2] (PreW D cy (w) sz)) (vp_Si P) 0 0 (fun _ => False) := by
  refine met_p R_Th .int db_Th_fill (by decide) rfl rfl (Nat.le_of_ble_eq_true rfl) ?_
  intro p e s m below meth c Z Q ls C h hl hret
  have hl : lv_has ls 3 [(0, .ref b), (1, .int a1), (2, .int a2)] := hl
  refine i_iconst (v := (0 : Int32)) (n := 1) C 0 rfl rfl rfl ?_
  exact hret _ _ _ rfl hw (C.dg (k := 1) rfl)
end S103
section S104
variable {p : Program} {l : Launch} {e : Env} {R : Room} {s : State} {m : MethodId} {args : Array Value} {below : List Frame} {meth : Method} {c : Code} {H : Heap} {locs : List Loc} {cells slots : Nat} {Q : State → Prop}
variable {cc : ByteArray} {pc n nL : Nat} {ls : Array Slot} {rest : List Value} {D : va_G} {cy : Nat → ClassId} {Z : Nat → Prop} {ad : Nat → Nat} {tb : List (Nat × Instr × Nat)} {lv : List (Nat × Value)}
def g_To_fill_Ho_17 (b : Nat) (a1 : Int32) (a2 : Int32) (P : Int32 → ((Nat → Nat → Int32)) → Prop)  (F : Nat → Nat → Int32) (s0 : Int32) : Prop := P (if (0 : Int32) < (s0 - ((sF F b 2 (if (0 : Int32) < (if s0 < (F b 1) then s0 else (F b 1)) then (if s0 < (F b 1) then s0 else (F b 1)) else (0 : Int32))) b 1)) then (s0 - ((sF F b 2 (if (0 : Int32) < (if s0 < (F b 1) then s0 else (F b 1)) then (if s0 < (F b 1) then s0 else (F b 1)) else (0 : Int32))) b 1)) else (0 : Int32)) (sF F b 2 (if (0 : Int32) < (if s0 < (F b 1) then s0 else (F b 1)) then (if s0 < (F b 1) then s0 else (F b 1)) else (0 : Int32)))
set_option maxHeartbeats 4000000 in
set_option maxRecDepth 100000 in
theorem e_To_fill_Ho_17 {I : Nat → Int32} {A : Nat → Nat → Int32} {T : Nat → Option Nat} {L : List Nat} {K : Nat → Nat} {b : Nat} {a1 : Int32} {a2 : Int32} {P : Int32 → ((Nat → Nat → Int32)) → Prop}  (C : CX D cy R_To c_To_fill tb_To_fill 4 p s m args c Z) (hbq : b ∈ L) (hbk : K b = 2) (hret : RetI p l e { frames := 1, cells := 0, slots := 0, locals := 21 } s m args below meth c c_To_fill .int D Z Q (fun (u : (Nat → Nat → Int32)) => wC cy ad I A T L K u) P 0 0) :
    ∀ (F : Nat → Nat → Int32) (s0 : Int32) (ls : Array Slot) (H : Heap) (locs : List Loc), lv_has ls 4 [(0, .ref b)] → HXw D Z s.heap H locs (wC cy ad I A T L K F) → g_To_fill_Ho_17 b a1 a2 P  F s0 → W p l e { frames := 1, cells := 0, slots := 0, locals := 21 } s m args below meth c H locs 0 0 Q (F0 m 17 ls [.int s0]) := by
  intro F s0 ls H locs hl h hw
  refine i_istore_n (lv' := [(3, .int s0), (0, .ref b)]) (n := 18) C 9 rfl rfl rfl hl (by decide) rfl (fun ls hl => ?_)
  refine i_aload_n (n := 19) C 10 rfl rfl rfl hl 1 rfl ?_
  refine i_iconst (v := (0 : Int32)) (n := 20) C 11 rfl rfl rfl ?_
  refine i_aload_n (n := 21) C 12 rfl rfl rfl hl 1 rfl ?_
  refine tg_To_13_Ho (n := 24) C 13 rfl rfl h hbq hbk ?_
  refine i_iload_n (n := 25) C 14 rfl rfl rfl hl 0 rfl ?_
  refine i_mmin (n := 28) C 15 rfl rfl hl w_4_47 (by decide) (Nat.le_of_ble_eq_true rfl) (Nat.le_of_ble_eq_true rfl) (Nat.le_of_ble_eq_true rfl) ?_
  refine i_mmax (n := 31) C 16 rfl rfl hl w_4_50 (by decide) (Nat.le_of_ble_eq_true rfl) (Nat.le_of_ble_eq_true rfl) (Nat.le_of_ble_eq_true rfl) ?_
  refine tp_To_16_Ho (n := 34) C 17 rfl rfl h hbq hbk (fun H locs h => ?_)
  refine i_iconst (v := (0 : Int32)) (n := 35) C 18 rfl rfl rfl ?_
  refine i_iload_n (n := 36) C 19 rfl rfl rfl hl 0 rfl ?_
  refine i_aload_n (n := 37) C 20 rfl rfl rfl hl 1 rfl ?_
  refine tg_To_13_Ho (n := 40) C 21 rfl rfl h hbq hbk ?_
  refine i_isub (n := 41) C 22 rfl rfl ?_
  refine i_mmax (n := 44) C 23 rfl rfl hl w_4_50 (by decide) (Nat.le_of_ble_eq_true rfl) (Nat.le_of_ble_eq_true rfl) (Nat.le_of_ble_eq_true rfl) ?_
  exact hret _ (sF F b 2 (if (0 : Int32) < (if s0 < (F b 1) then s0 else (F b 1)) then (if s0 < (F b 1) then s0 else (F b 1)) else (0 : Int32))) _ _ _ _ rfl hw h (C.dg (k := 24) rfl)
def g_To_fill_Ho (F : Nat → Nat → Int32) (b : Nat) (a1 : Int32) (a2 : Int32) (P : Int32 → ((Nat → Nat → Int32)) → Prop) : Prop := ((F b 2) ≤ 0 → (g_To_fill_Ho_17 b a1 a2 P  F a1)) ∧ (¬ (F b 2) ≤ 0 → (g_To_fill_Ho_17 b a1 a2 P  F ((F b 2) - a2)))
set_option maxHeartbeats 4000000 in
set_option maxRecDepth 100000 in
theorem m_To_fill_Ho {l : Launch} {D : va_G} {cy : Nat → ClassId} {ad : Nat → Nat} {I : Nat → Int32} {A : Nat → Nat → Int32} {T : Nat → Option Nat} {L : List Nat} {K : Nat → Nat} {F : Nat → Nat → Int32} {b : Nat} {a1 : Int32} {a2 : Int32} {P : Int32 → ((Nat → Nat → Int32)) → Prop} (hbq : b ∈ L) (hbk : K b = 2) (hw : g_To_fill_Ho F b a1 a2 P) : ∀ sz, Met l y_To_fill (WL y_To_fill c_To_fill 4 (some .int)) { frames := 1, cells := 0, slots := 0, locals := 21 } (va_Pc [.ref b, .int a1, .int a2] (PreW D cy (wC cy ad I A T L K F) sz)) (va_Qi P (fun u t => PostW D (va_A (wC cy ad I A T L K F) sz) ((fun (u : (Nat → Nat → Int32)) => wC cy ad I A T L K u) u) t) (va_A (wC cy ad I A T L K F) sz)) 0 0 (va_A (wC cy ad I A T L K F) sz) := by
  refine met_i (wf := fun (u : (Nat → Nat → Int32)) => wC cy ad I A T L K u) R_To .int db_To_fill (by decide) rfl rfl (Nat.le_of_ble_eq_true rfl) ?_
  intro p e s m below meth c Z Q ls C h hl hret
  have hl : lv_has ls 4 [(0, .ref b), (1, .int a1), (2, .int a2)] := hl
  refine i_aload_n (n := 1) C 0 rfl rfl rfl hl 0 rfl ?_
  refine tg_To_16_Ho (n := 4) C 1 rfl rfl h hbq hbk ?_
  refine i_if_le (tgt := 16) (n := 7) C 2 rfl rfl rfl (fun c1 => ?_) (fun c1 => ?_)
  · replace hw := hw.1 c1
    refine i_iload_n (n := 17) C 8 rfl rfl rfl hl 1 rfl ?_
    exact e_To_fill_Ho_17 C hbq hbk hret  F a1 ls _ _ (lv_sub hl [0] rfl) h hw
  · replace hw := hw.2 c1
    refine i_aload_n (n := 8) C 3 rfl rfl rfl hl 0 rfl ?_
    refine tg_To_16_Ho (n := 11) C 4 rfl rfl h hbq hbk ?_
    refine i_iload_n (n := 12) C 5 rfl rfl rfl hl 2 rfl ?_
    refine i_isub (n := 13) C 6 rfl rfl ?_
    refine i_goto (tgt := 17) C 7 rfl rfl ?_
    exact e_To_fill_Ho_17 C hbq hbk hret  F ((F b 2) - a2) ls _ _ (lv_sub hl [0] rfl) h hw
end S104
section S105
variable {p : Program} {l : Launch} {e : Env} {R : Room} {s : State} {m : MethodId} {args : Array Value} {below : List Frame} {meth : Method} {c : Code} {H : Heap} {locs : List Loc} {cells slots : Nat} {Q : State → Prop}
variable {cc : ByteArray} {pc n nL : Nat} {ls : Array Slot} {rest : List Value} {D : va_G} {cy : Nat → ClassId} {Z : Nat → Prop} {ad : Nat → Nat} {tb : List (Nat × Instr × Nat)} {lv : List (Nat × Value)}
def g_To_fill_To_17 (b : Nat) (a1 : Int32) (a2 : Int32) (P : Int32 → ((Nat → Nat → Int32)) → Prop)  (F : Nat → Nat → Int32) (s0 : Int32) : Prop := P (if (0 : Int32) < (s0 - ((sF F b 2 (if (0 : Int32) < (if s0 < (F b 1) then s0 else (F b 1)) then (if s0 < (F b 1) then s0 else (F b 1)) else (0 : Int32))) b 1)) then (s0 - ((sF F b 2 (if (0 : Int32) < (if s0 < (F b 1) then s0 else (F b 1)) then (if s0 < (F b 1) then s0 else (F b 1)) else (0 : Int32))) b 1)) else (0 : Int32)) (sF F b 2 (if (0 : Int32) < (if s0 < (F b 1) then s0 else (F b 1)) then (if s0 < (F b 1) then s0 else (F b 1)) else (0 : Int32)))
set_option maxHeartbeats 4000000 in
set_option maxRecDepth 100000 in
theorem e_To_fill_To_17 {I : Nat → Int32} {A : Nat → Nat → Int32} {T : Nat → Option Nat} {L : List Nat} {K : Nat → Nat} {b : Nat} {a1 : Int32} {a2 : Int32} {P : Int32 → ((Nat → Nat → Int32)) → Prop}  (C : CX D cy R_To c_To_fill tb_To_fill 4 p s m args c Z) (hbq : b ∈ L) (hbk : K b = 9) (hret : RetI p l e { frames := 1, cells := 0, slots := 0, locals := 21 } s m args below meth c c_To_fill .int D Z Q (fun (u : (Nat → Nat → Int32)) => wC cy ad I A T L K u) P 0 0) :
    ∀ (F : Nat → Nat → Int32) (s0 : Int32) (ls : Array Slot) (H : Heap) (locs : List Loc), lv_has ls 4 [(0, .ref b)] → HXw D Z s.heap H locs (wC cy ad I A T L K F) → g_To_fill_To_17 b a1 a2 P  F s0 → W p l e { frames := 1, cells := 0, slots := 0, locals := 21 } s m args below meth c H locs 0 0 Q (F0 m 17 ls [.int s0]) := by
  intro F s0 ls H locs hl h hw
  refine i_istore_n (lv' := [(3, .int s0), (0, .ref b)]) (n := 18) C 9 rfl rfl rfl hl (by decide) rfl (fun ls hl => ?_)
  refine i_aload_n (n := 19) C 10 rfl rfl rfl hl 1 rfl ?_
  refine i_iconst (v := (0 : Int32)) (n := 20) C 11 rfl rfl rfl ?_
  refine i_aload_n (n := 21) C 12 rfl rfl rfl hl 1 rfl ?_
  refine tg_To_13_To (n := 24) C 13 rfl rfl h hbq hbk ?_
  refine i_iload_n (n := 25) C 14 rfl rfl rfl hl 0 rfl ?_
  refine i_mmin (n := 28) C 15 rfl rfl hl w_4_47 (by decide) (Nat.le_of_ble_eq_true rfl) (Nat.le_of_ble_eq_true rfl) (Nat.le_of_ble_eq_true rfl) ?_
  refine i_mmax (n := 31) C 16 rfl rfl hl w_4_50 (by decide) (Nat.le_of_ble_eq_true rfl) (Nat.le_of_ble_eq_true rfl) (Nat.le_of_ble_eq_true rfl) ?_
  refine tp_To_16_To (n := 34) C 17 rfl rfl h hbq hbk (fun H locs h => ?_)
  refine i_iconst (v := (0 : Int32)) (n := 35) C 18 rfl rfl rfl ?_
  refine i_iload_n (n := 36) C 19 rfl rfl rfl hl 0 rfl ?_
  refine i_aload_n (n := 37) C 20 rfl rfl rfl hl 1 rfl ?_
  refine tg_To_13_To (n := 40) C 21 rfl rfl h hbq hbk ?_
  refine i_isub (n := 41) C 22 rfl rfl ?_
  refine i_mmax (n := 44) C 23 rfl rfl hl w_4_50 (by decide) (Nat.le_of_ble_eq_true rfl) (Nat.le_of_ble_eq_true rfl) (Nat.le_of_ble_eq_true rfl) ?_
  exact hret _ (sF F b 2 (if (0 : Int32) < (if s0 < (F b 1) then s0 else (F b 1)) then (if s0 < (F b 1) then s0 else (F b 1)) else (0 : Int32))) _ _ _ _ rfl hw h (C.dg (k := 24) rfl)
def g_To_fill_To (F : Nat → Nat → Int32) (b : Nat) (a1 : Int32) (a2 : Int32) (P : Int32 → ((Nat → Nat → Int32)) → Prop) : Prop := ((F b 2) ≤ 0 → (g_To_fill_To_17 b a1 a2 P  F a1)) ∧ (¬ (F b 2) ≤ 0 → (g_To_fill_To_17 b a1 a2 P  F ((F b 2) - a2)))
set_option maxHeartbeats 4000000 in
set_option maxRecDepth 100000 in
theorem m_To_fill_To {l : Launch} {D : va_G} {cy : Nat → ClassId} {ad : Nat → Nat} {I : Nat → Int32} {A : Nat → Nat → Int32} {T : Nat → Option Nat} {L : List Nat} {K : Nat → Nat} {F : Nat → Nat → Int32} {b : Nat} {a1 : Int32} {a2 : Int32} {P : Int32 → ((Nat → Nat → Int32)) → Prop} (hbq : b ∈ L) (hbk : K b = 9) (hw : g_To_fill_To F b a1 a2 P) : ∀ sz, Met l y_To_fill (WL y_To_fill c_To_fill 4 (some .int)) { frames := 1, cells := 0, slots := 0, locals := 21 } (va_Pc [.ref b, .int a1, .int a2] (PreW D cy (wC cy ad I A T L K F) sz)) (va_Qi P (fun u t => PostW D (va_A (wC cy ad I A T L K F) sz) ((fun (u : (Nat → Nat → Int32)) => wC cy ad I A T L K u) u) t) (va_A (wC cy ad I A T L K F) sz)) 0 0 (va_A (wC cy ad I A T L K F) sz) := by
  refine met_i (wf := fun (u : (Nat → Nat → Int32)) => wC cy ad I A T L K u) R_To .int db_To_fill (by decide) rfl rfl (Nat.le_of_ble_eq_true rfl) ?_
  intro p e s m below meth c Z Q ls C h hl hret
  have hl : lv_has ls 4 [(0, .ref b), (1, .int a1), (2, .int a2)] := hl
  refine i_aload_n (n := 1) C 0 rfl rfl rfl hl 0 rfl ?_
  refine tg_To_16_To (n := 4) C 1 rfl rfl h hbq hbk ?_
  refine i_if_le (tgt := 16) (n := 7) C 2 rfl rfl rfl (fun c1 => ?_) (fun c1 => ?_)
  · replace hw := hw.1 c1
    refine i_iload_n (n := 17) C 8 rfl rfl rfl hl 1 rfl ?_
    exact e_To_fill_To_17 C hbq hbk hret  F a1 ls _ _ (lv_sub hl [0] rfl) h hw
  · replace hw := hw.2 c1
    refine i_aload_n (n := 8) C 3 rfl rfl rfl hl 0 rfl ?_
    refine tg_To_16_To (n := 11) C 4 rfl rfl h hbq hbk ?_
    refine i_iload_n (n := 12) C 5 rfl rfl rfl hl 2 rfl ?_
    refine i_isub (n := 13) C 6 rfl rfl ?_
    refine i_goto (tgt := 17) C 7 rfl rfl ?_
    exact e_To_fill_To_17 C hbq hbk hret  F ((F b 2) - a2) ls _ _ (lv_sub hl [0] rfl) h hw
end S105
section S106
variable {p : Program} {l : Launch} {e : Env} {R : Room} {s : State} {m : MethodId} {args : Array Value} {below : List Frame} {meth : Method} {c : Code} {H : Heap} {locs : List Loc} {cells slots : Nat} {Q : State → Prop}
variable {cc : ByteArray} {pc n nL : Nat} {ls : Array Slot} {rest : List Value} {D : va_G} {cy : Nat → ClassId} {Z : Nat → Prop} {ad : Nat → Nat} {tb : List (Nat × Instr × Nat)} {lv : List (Nat × Value)}
def g_Th_burns (a1 : Int32) (P : Int32 → Prop) : Prop := P (0 : Int32)
set_option maxHeartbeats 4000000 in
set_option maxRecDepth 100000 in
theorem m_Th_burns {l : Launch} {D : va_G} {cy : Nat → ClassId}   {a1 : Int32} {b : Nat} {w : va_W} {P : Int32 → Prop} (hw : g_Th_burns a1 P) : ∀ sz, Met l y_Th_burns (WL y_Th_burns c_Th_burns 2 (some .int)) { frames := 0, cells := 0, slots := 0, locals := 0 } (va_Pc [.ref b, .int a1] (PreW D cy (w) sz)) (vp_Si P) 0 0 (fun _ => False) := by
  refine met_p R_Th .int db_Th_burns (by decide) rfl rfl (Nat.le_of_ble_eq_true rfl) ?_
  intro p e s m below meth c Z Q ls C h hl hret
  have hl : lv_has ls 2 [(0, .ref b), (1, .int a1)] := hl
  refine i_iconst (v := (0 : Int32)) (n := 1) C 0 rfl rfl rfl ?_
  exact hret _ _ _ rfl hw (C.dg (k := 1) rfl)
end S106
section S107
variable {p : Program} {l : Launch} {e : Env} {R : Room} {s : State} {m : MethodId} {args : Array Value} {below : List Frame} {meth : Method} {c : Code} {H : Heap} {locs : List Loc} {cells slots : Nat} {Q : State → Prop}
variable {cc : ByteArray} {pc n nL : Nat} {ls : Array Slot} {rest : List Value} {D : va_G} {cy : Nat → ClassId} {Z : Nat → Prop} {ad : Nat → Nat} {tb : List (Nat × Instr × Nat)} {lv : List (Nat × Value)}
def g_Ho_burns_Ho (F : Nat → Nat → Int32) (b : Nat) (a1 : Int32) (P : Int32 → Prop) : Prop := ((F b 5) = 0 → (P (0 : Int32))) ∧ (¬ (F b 5) = 0 → ((¬ (a1 - a1 / (4 : Int32) * (4 : Int32)) = (3 : Int32) → (P (0 : Int32))) ∧ ((a1 - a1 / (4 : Int32) * (4 : Int32)) = (3 : Int32) → (P (F b 4)))))
set_option maxHeartbeats 4000000 in
set_option maxRecDepth 100000 in
theorem m_Ho_burns_Ho {l : Launch} {D : va_G} {cy : Nat → ClassId} {ad : Nat → Nat} {I : Nat → Int32} {A : Nat → Nat → Int32} {T : Nat → Option Nat} {L : List Nat} {K : Nat → Nat} {F : Nat → Nat → Int32} {b : Nat} {a1 : Int32} {P : Int32 → Prop} (hbq : b ∈ L) (hbk : K b = 2) (hw : g_Ho_burns_Ho F b a1 P) : ∀ sz, Met l y_Ho_burns (WL y_Ho_burns c_Ho_burns 2 (some .int)) { frames := 0, cells := 0, slots := 0, locals := 0 } (va_Pc [.ref b, .int a1] (PreW D cy (wC cy ad I A T L K F) sz)) (vp_Si P) 0 0 (fun _ => False) := by
  refine met_p R_Ho .int db_Ho_burns (by decide) rfl rfl (Nat.le_of_ble_eq_true rfl) ?_
  intro p e s m below meth c Z Q ls C h hl hret
  have hl : lv_has ls 2 [(0, .ref b), (1, .int a1)] := hl
  refine i_aload_n (n := 1) C 0 rfl rfl rfl hl 0 rfl ?_
  refine tg_Ho_18_Ho (n := 4) C 1 rfl rfl h hbq hbk ?_
  refine i_if_eq (tgt := 21) (n := 7) C 2 rfl rfl rfl (fun c1 => ?_) (fun c1 => ?_)
  · replace hw := hw.1 c1
    refine i_iconst (v := (0 : Int32)) (n := 22) C 11 rfl rfl rfl ?_
    exact hret _ _ _ rfl hw (C.dg (k := 12) rfl)
  · replace hw := hw.2 c1
    refine i_iload_n (n := 8) C 3 rfl rfl rfl hl 1 rfl ?_
    refine i_iconst (v := (4 : Int32)) (n := 9) C 4 rfl rfl rfl ?_
    refine i_irem (n := 10) C 5 rfl rfl (by decide) ?_
    refine i_iconst (v := (3 : Int32)) (n := 11) C 6 rfl rfl rfl ?_
    refine i_icmp_ne (tgt := 21) (n := 14) C 7 rfl rfl rfl (fun c2 => ?_) (fun c2 => ?_)
    · replace hw := hw.1 c2
      refine i_iconst (v := (0 : Int32)) (n := 22) C 11 rfl rfl rfl ?_
      exact hret _ _ _ rfl hw (C.dg (k := 12) rfl)
    · replace hw := hw.2 c2
      refine i_aload_n (n := 15) C 8 rfl rfl rfl hl 0 rfl ?_
      refine tg_Ho_15_Ho (n := 18) C 9 rfl rfl h hbq hbk ?_
      refine i_goto (tgt := 22) C 10 rfl rfl ?_
      exact hret _ _ _ rfl hw (C.dg (k := 12) rfl)
end S107
