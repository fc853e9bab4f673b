theorem kSN_Pi_48 {R : Room} {s : State} {args : Array Value} (hR : 0 + 1 ≤ R.frames ∧ 8 + (2 + 11) + 0 ≤ R.locals) (ht : ∀ w ∈ GW, w.before args s = true) (hN : NX s) : va_CN R s args R_Pi 48 y_Pw_hasBit R_Pw c_Pw_hasBit 2 (some .boolean) (WL y_Pw_hasBit c_Pw_hasBit 2 (some .boolean)) { frames := 0, cells := 0, slots := 0, locals := 0 } 0 0 2 ∧ (Cond.static y_Pw_hasBit).before args s = true ∧ True := ⟨va_cnB 2 ht (GW_in (GW_wl w_2_76)) rfl rfl rfl (hN.1 _ (by simp [nxW])) (ht _ w_1_1) (by decide +kernel) hR, ht _ w_2_75, trivial⟩
section S14
variable {p : Program} {l : Launch} {e : Env} {R : Room} {s : State} {m : MethodId} {args : Array Value} {below : List Frame} {meth : Method} {c : Code} {H : Heap} {locs : List Loc} {cells slots : Nat} {Q : State → Prop}
variable {cc : ByteArray} {pc n nL : Nat} {ls : Array Slot} {rest : List Value} {D : va_G} {cy : Nat → ClassId} {Z : Nat → Prop} {ad : Nat → Nat} {tb : List (Nat × Instr × Nat)} {lv : List (Nat × Value)}
def g_Pi_isShut (I : Nat → Int32) (a1 : Int32) (P : Int32 → Prop) : Prop := g_Pw_hasBit (I 11) a1 (fun r1 => (isB r1 ∧ P r1))
set_option maxHeartbeats 4000000 in
set_option maxRecDepth 100000 in
theorem m_Pi_isShut {l : Launch} {D : va_G} {cy : Nat → ClassId} {ad : Nat → Nat} {I : Nat → Int32} {A : Nat → Nat → Int32} {T : Nat → Option Nat} {L : List Nat} {K : Nat → Nat} {F : Nat → Nat → Int32} {a1 : Int32} {P : Int32 → Prop} (hw : g_Pi_isShut I a1 P) : ∀ sz, Met l y_Pi_isShut (WL y_Pi_isShut c_Pi_isShut 2 (some .boolean)) { frames := 1, cells := 0, slots := 0, locals := 21 } (va_Pc [.ref (ad 2), .int a1] (PreW D cy (wC cy ad I A T L K F) sz)) (vp_Si P) 0 0 (fun _ => False) := by
  refine met_p R_Pi .boolean db_Pi_isShut (by decide) rfl rfl (Nat.le_of_ble_eq_true rfl) ?_
  intro p e s m below meth c Z Q ls C h hl hret
  have hl : lv_has ls 2 [(0, .ref (ad 2)), (1, .int a1)] := hl
  refine i_aload_n (n := 1) C 0 rfl rfl rfl hl 0 rfl ?_
  refine fgC_Pi_45 (n := 4) C 1 rfl rfl h ?_
  refine i_iload_n (n := 5) C 2 rfl rfl rfl hl 1 rfl ?_
  refine i_callSNp (rest := []) (n := 8) C 3 rfl rfl hl h (kSN_Pi_48 ⟨by decide, by decide⟩) (m_Pw_hasBit hw) rfl rfl (Nat.le_of_ble_eq_true rfl) ⟨by decide, by decide⟩ (fun r1 hw => ?_)
  obtain ⟨hB, hw⟩ := hw
  exact hret _ _ _ hB.nar hw (C.dg (k := 4) rfl)
end S14
section S15
variable {p : Program} {l : Launch} {e : Env} {R : Room} {s : State} {m : MethodId} {args : Array Value} {below : List Frame} {meth : Method} {c : Code} {H : Heap} {locs : List Loc} {cells slots : Nat} {Q : State → Prop}
variable {cc : ByteArray} {pc n nL : Nat} {ls : Array Slot} {rest : List Value} {D : va_G} {cy : Nat → ClassId} {Z : Nat → Prop} {ad : Nat → Nat} {tb : List (Nat × Instr × Nat)} {lv : List (Nat × Value)}
def g_Pw_bit (a1 : Int32) (P : Int32 → Prop) : Prop := (a1 = 0 → (P (0 : Int32))) ∧ (¬ a1 = 0 → (P (1 : Int32)))
set_option maxHeartbeats 4000000 in
set_option maxRecDepth 100000 in
theorem m_Pw_bit {l : Launch} {D : va_G} {cy : Nat → ClassId}   {a1 : Int32} {w : va_W} {P : Int32 → Prop} (hw : g_Pw_bit a1 P) : ∀ sz, Met l y_Pw_bit (WL y_Pw_bit c_Pw_bit 1 (some .int)) { frames := 0, cells := 0, slots := 0, locals := 0 } (va_Pc [.int a1] (PreW D cy (w) sz)) (vp_Si P) 0 0 (fun _ => False) := by
  refine met_p R_Pw .int db_Pw_bit (by decide) rfl rfl (Nat.le_of_ble_eq_true rfl) ?_
  intro p e s m below meth c Z Q ls C h hl hret
  have hl : lv_has ls 1 [(0, .int a1)] := hl
  refine i_iload_n (n := 1) C 0 rfl rfl rfl hl 0 rfl ?_
  refine i_if_eq (tgt := 8) (n := 4) C 1 rfl rfl rfl (fun c1 => ?_) (fun c1 => ?_)
  · replace hw := hw.1 c1
    refine i_iconst (v := (0 : Int32)) (n := 9) C 4 rfl rfl rfl ?_
    exact hret _ _ _ rfl hw (C.dg (k := 5) rfl)
  · replace hw := hw.2 c1
    refine i_iconst (v := (1 : Int32)) (n := 5) C 2 rfl rfl rfl ?_
    refine i_goto (tgt := 9) C 3 rfl rfl ?_
    exact hret _ _ _ rfl hw (C.dg (k := 5) rfl)
end S15
theorem kV_Pi_52 {R : Room} {s : State} {args : Array Value} (hR : 1 + 1 ≤ R.frames ∧ 8 + (2 + 11) + 21 ≤ R.locals) (ht : ∀ w ∈ GW, w.before args s = true) : CallW R s args R_Pi R_Pi 52 y_Pi_isShut c_Pi_isShut 2 (some .boolean) (WL y_Pi_isShut c_Pi_isShut 2 (some .boolean)) { frames := 1, cells := 0, slots := 0, locals := 21 } 0 0 1 := cwV 1 ht (GW_v w_2_70 w_2_71 w_2_72 w_1_3 (GW_wl w_2_73)) rfl rfl rfl (by decide +kernel) hR
theorem kSN_Pi_56 {R : Room} {s : State} {args : Array Value} (hR : 0 + 1 ≤ R.frames ∧ 8 + (1 + 11) + 0 ≤ R.locals) (ht : ∀ w ∈ GW, w.before args s = true) (hN : NX s) : va_CN R s args R_Pi 56 y_Pw_bit R_Pw c_Pw_bit 1 (some .int) (WL y_Pw_bit c_Pw_bit 1 (some .int)) { frames := 0, cells := 0, slots := 0, locals := 0 } 0 0 1 ∧ (Cond.static y_Pw_bit).before args s = true ∧ True := ⟨va_cnB 1 ht (GW_in (GW_wl w_2_79)) rfl rfl rfl (hN.1 _ (by simp [nxW])) (ht _ w_1_1) (by decide +kernel) hR, ht _ w_2_78, trivial⟩
section S16
variable {p : Program} {l : Launch} {e : Env} {R : Room} {s : State} {m : MethodId} {args : Array Value} {below : List Frame} {meth : Method} {c : Code} {H : Heap} {locs : List Loc} {cells slots : Nat} {Q : State → Prop}
variable {cc : ByteArray} {pc n nL : Nat} {ls : Array Slot} {rest : List Value} {D : va_G} {cy : Nat → ClassId} {Z : Nat → Prop} {ad : Nat → Nat} {tb : List (Nat × Instr × Nat)} {lv : List (Nat × Value)}
def g_Pi_turnValve (I : Nat → Int32) (a1 : Int32) (P : Int32 → ((Nat → Int32)) → Prop) : Prop := g_Pi_isShut (va_up I 11 ((I 11) ^^^ ((1 : Int32) <<< (a1 &&& 31)))) a1 (fun r1 => (g_Pw_bit r1 (fun r2 => (P r2 (va_up I 11 ((I 11) ^^^ ((1 : Int32) <<< (a1 &&& 31))))))))
set_option maxHeartbeats 4000000 in
set_option maxRecDepth 100000 in
theorem m_Pi_turnValve {l : Launch} {D : va_G} {cy : Nat → ClassId} {ad : Nat → Nat} {I : Nat → Int32} {A : Nat → Nat → Int32} {T : Nat → Option Nat} {L : List Nat} {K : Nat → Nat} {F : Nat → Nat → Int32} {a1 : Int32} {P : Int32 → ((Nat → Int32)) → Prop} (hw : g_Pi_turnValve I a1 P) : ∀ sz, Met l y_Pi_turnValve (WL y_Pi_turnValve c_Pi_turnValve 2 (some .int)) { frames := 2, cells := 0, slots := 0, locals := 42 } (va_Pc [.ref (ad 2), .int a1] (PreW D cy (wC cy ad I A T L K F) sz)) (va_Qi P (fun u t => PostW D (va_A (wC cy ad I A T L K F) sz) ((fun (u : (Nat → Int32)) => wC cy ad u A T L K F) u) t) (va_A (wC cy ad I A T L K F) sz)) 0 0 (va_A (wC cy ad I A T L K F) sz) := by
  refine met_i (wf := fun (u : (Nat → Int32)) => wC cy ad u A T L K F) R_Pi .int db_Pi_turnValve (by decide) rfl rfl (Nat.le_of_ble_eq_true rfl) ?_
  intro p e s m below meth c Z Q ls C h hl hret
  have hl : lv_has ls 2 [(0, .ref (ad 2)), (1, .int a1)] := hl
  refine i_aload_n (n := 1) C 0 rfl rfl rfl hl 0 rfl ?_
  refine i_dup (n := 2) C 1 rfl rfl rfl ?_
  refine fgC_Pi_45 (n := 5) C 2 rfl rfl h ?_
  refine i_iconst (v := (1 : Int32)) (n := 6) C 3 rfl rfl rfl ?_
  refine i_iload_n (n := 7) C 4 rfl rfl rfl hl 1 rfl ?_
  refine i_ishl (n := 8) C 5 rfl rfl ?_
  refine i_ixor (n := 9) C 6 rfl rfl ?_
  refine fpC_Pi_45 (n := 12) C 7 rfl rfl h (fun H locs h => ?_)
  refine i_aload_n (n := 13) C 8 rfl rfl rfl hl 0 rfl ?_
  refine i_iload_n (n := 14) C 9 rfl rfl rfl hl 1 rfl ?_
  refine i_callVp (rest := []) (ci := 7) (qc := (R_Pi, T_Pi, 8)) (n := 17) C 10 rfl rfl hl h rfl (wC_get (h := 2) (by decide)) (kV_Pi_52 ⟨by decide, by decide⟩) (m_Pi_isShut hw) rfl rfl (Nat.le_of_ble_eq_true rfl) ⟨by decide, by decide⟩ (fun r1 hw => ?_)
  refine i_callSNp (rest := []) (n := 20) C 11 rfl rfl hl h (kSN_Pi_56 ⟨by decide, by decide⟩) (m_Pw_bit hw) rfl rfl (Nat.le_of_ble_eq_true rfl) ⟨by decide, by decide⟩ (fun r2 hw => ?_)
  exact hret _ (va_up I 11 ((I 11) ^^^ ((1 : Int32) <<< (a1 &&& 31)))) _ _ _ _ rfl hw h (C.dg (k := 12) rfl)
end S16
theorem kV_Pw_93 {R : Room} {s : State} {args : Array Value} (hR : 0 + 1 ≤ R.frames ∧ 8 + (2 + 11) + 0 ≤ R.locals) (ht : ∀ w ∈ GW, w.before args s = true) : CallW R s args R_Pw R_Pi 93 y_Pi_hasValve c_Pi_hasValve 2 (some .boolean) (WL y_Pi_hasValve c_Pi_hasValve 2 (some .boolean)) { frames := 0, cells := 0, slots := 0, locals := 0 } 0 0 1 := cwV 1 ht (GW_v w_2_62 w_2_63 w_2_64 w_1_3 (GW_wl w_2_65)) rfl rfl rfl (by decide +kernel) hR
theorem kV_Pw_96 {R : Room} {s : State} {args : Array Value} (hR : 2 + 1 ≤ R.frames ∧ 8 + (2 + 11) + 42 ≤ R.locals) (ht : ∀ w ∈ GW, w.before args s = true) : CallW R s args R_Pw R_Pi 96 y_Pi_turnValve c_Pi_turnValve 2 (some .int) (WL y_Pi_turnValve c_Pi_turnValve 2 (some .int)) { frames := 2, cells := 0, slots := 0, locals := 42 } 0 0 1 := cwV 1 ht (GW_v w_2_66 w_2_67 w_2_68 w_1_3 (GW_wl w_2_69)) rfl rfl rfl (by decide +kernel) hR
section S17
variable {p : Program} {l : Launch} {e : Env} {R : Room} {s : State} {m : MethodId} {args : Array Value} {below : List Frame} {meth : Method} {c : Code} {H : Heap} {locs : List Loc} {cells slots : Nat} {Q : State → Prop}
variable {cc : ByteArray} {pc n nL : Nat} {ls : Array Slot} {rest : List Value} {D : va_G} {cy : Nat → ClassId} {Z : Nat → Prop} {ad : Nat → Nat} {tb : List (Nat × Instr × Nat)} {lv : List (Nat × Value)}
def g_Pw_turn (I : Nat → Int32) (a1 : Int32) (P : Int32 → ((Nat → Int32)) → Prop) : Prop := g_Pi_hasValve I a1 (fun r1 => ((r1 = 0 → (P (-1 : Int32) I)) ∧ (¬ r1 = 0 → (g_Pi_turnValve I a1 (fun r3 u4 => (P r3 u4))))))
set_option maxHeartbeats 4000000 in
set_option maxRecDepth 100000 in
theorem m_Pw_turn {l : Launch} {D : va_G} {cy : Nat → ClassId} {ad : Nat → Nat} {I : Nat → Int32} {A : Nat → Nat → Int32} {T : Nat → Option Nat} {L : List Nat} {K : Nat → Nat} {F : Nat → Nat → Int32} {a1 : Int32} {P : Int32 → ((Nat → Int32)) → Prop} (hw : g_Pw_turn I a1 P) : ∀ sz, Met l y_Pw_turn (WL y_Pw_turn c_Pw_turn 2 (some .int)) { frames := 3, cells := 0, slots := 0, locals := 63 } (va_Pc [.ref (ad 0), .int a1] (PreW D cy (wC cy ad I A T L K F) sz)) (va_Qi P (fun u t => PostW D (va_A (wC cy ad I A T L K F) sz) ((fun (u : (Nat → Int32)) => wC cy ad u A T L K F) u) t) (va_A (wC cy ad I A T L K F) sz)) 0 0 (va_A (wC cy ad I A T L K F) sz) := by
  refine met_i (wf := fun (u : (Nat → Int32)) => wC cy ad u A T L K F) R_Pw .int db_Pw_turn (by decide) rfl rfl (Nat.le_of_ble_eq_true rfl) ?_
  intro p e s m below meth c Z Q ls C h hl hret
  have hl : lv_has ls 2 [(0, .ref (ad 0)), (1, .int a1)] := hl
  refine i_aload_n (n := 1) C 0 rfl rfl rfl hl 0 rfl ?_
  refine fgC_Pw_20 (n := 4) C 1 rfl rfl h ?_
  refine i_iload_n (n := 5) C 2 rfl rfl rfl hl 1 rfl ?_
  refine i_callVp (rest := []) (ci := 7) (qc := (R_Pi, T_Pi, 8)) (n := 8) C 3 rfl rfl hl h rfl (wC_get (h := 2) (by decide)) (kV_Pw_93 ⟨by decide, by decide⟩) (m_Pi_hasValve hw) rfl rfl (Nat.le_of_ble_eq_true rfl) ⟨by decide, by decide⟩ (fun r1 hw => ?_)
  refine i_if_eq (tgt := 22) (n := 11) C 4 rfl rfl rfl (fun c2 => ?_) (fun c2 => ?_)
  · replace hw := hw.1 c2
    refine i_iconst (v := (-1 : Int32)) (n := 23) C 10 rfl rfl rfl ?_
    exact hret _ I _ _ _ _ rfl hw h (C.dg (k := 11) rfl)
  · replace hw := hw.2 c2
    refine i_aload_n (n := 12) C 5 rfl rfl rfl hl 0 rfl ?_
    refine fgC_Pw_20 (n := 15) C 6 rfl rfl h ?_
    refine i_iload_n (n := 16) C 7 rfl rfl rfl hl 1 rfl ?_
    refine i_callVi (rest := []) (ci := 7) (qc := (R_Pi, T_Pi, 8)) (n := 19) C 8 rfl rfl hl h rfl (wC_get (h := 2) (by decide)) (kV_Pw_96 ⟨by decide, by decide⟩) (m_Pi_turnValve hw) rfl rfl (Nat.le_of_ble_eq_true rfl) ⟨by decide, by decide⟩ (fun r3 u4 H locs hw h => ?_)
    refine i_goto (tgt := 23) C 9 rfl rfl ?_
    exact hret _ u4 _ _ _ _ rfl hw h (C.dg (k := 11) rfl)
end S17
section S18
variable {p : Program} {l : Launch} {e : Env} {R : Room} {s : State} {m : MethodId} {args : Array Value} {below : List Frame} {meth : Method} {c : Code} {H : Heap} {locs : List Loc} {cells slots : Nat} {Q : State → Prop}
variable {cc : ByteArray} {pc n nL : Nat} {ls : Array Slot} {rest : List Value} {D : va_G} {cy : Nat → ClassId} {Z : Nat → Prop} {ad : Nat → Nat} {tb : List (Nat × Instr × Nat)} {lv : List (Nat × Value)}
def g_Pi_isOpen_20 (I : Nat → Int32) (A : Nat → Nat → Int32) (a1 : Int32) (P : Int32 → Prop)   : Prop := P (1 : Int32)
set_option maxHeartbeats 4000000 in
set_option maxRecDepth 100000 in
theorem e_Pi_isOpen_20 {I : Nat → Int32} {A : Nat → Nat → Int32} {T : Nat → Option Nat} {L : List Nat} {K : Nat → Nat} {F : Nat → Nat → Int32} {a1 : Int32} {P : Int32 → Prop}  (C : CX D cy R_Pi c_Pi_isOpen tb_Pi_isOpen 3 p s m args c Z) (h : HXw D Z s.heap H locs (wC cy ad I A T L K F)) (hret : RetP p l e { frames := 2, cells := 0, slots := 0, locals := 44 } s m args below meth c c_Pi_isOpen .boolean H locs Q P) :
    ∀ (ls : Array Slot), lv_has ls 3 [] → g_Pi_isOpen_20 I A a1 P   → W p l e { frames := 2, cells := 0, slots := 0, locals := 44 } s m args below meth c H locs 0 0 Q (F0 m 20 ls []) := by
  intro  ls hl hw
  refine i_iconst (v := (1 : Int32)) (n := 21) C 11 rfl rfl rfl ?_
  refine i_goto (tgt := 25) C 12 rfl rfl ?_
  exact hret _ _ _ rfl hw (C.dg (k := 14) rfl)
def g_Pi_isOpen (I : Nat → Int32) (A : Nat → Nat → Int32) (a1 : Int32) (P : Int32 → Prop) : Prop := g_Pi_valveOn I A a1 (fun r1 => ((r1 = (-6 : Int32) → (g_Pi_isOpen_20 I A a1 P  )) ∧ (¬ r1 = (-6 : Int32) → (g_Pi_isShut I r1 (fun r3 => ((¬ r3 = 0 → (P (0 : Int32))) ∧ (r3 = 0 → (g_Pi_isOpen_20 I A a1 P  ))))))))
set_option maxHeartbeats 4000000 in
set_option maxRecDepth 100000 in
theorem m_Pi_isOpen {l : Launch} {D : va_G} {cy : Nat → ClassId} {ad : Nat → Nat} {I : Nat → Int32} {A : Nat → Nat → Int32} {T : Nat → Option Nat} {L : List Nat} {K : Nat → Nat} {F : Nat → Nat → Int32} {a1 : Int32} {P : Int32 → Prop} (hw : g_Pi_isOpen I A a1 P) : ∀ sz, Met l y_Pi_isOpen (WL y_Pi_isOpen c_Pi_isOpen 3 (some .boolean)) { frames := 2, cells := 0, slots := 0, locals := 44 } (va_Pc [.ref (ad 2), .int a1] (PreW D cy (wC cy ad I A T L K F) sz)) (vp_Si P) 0 0 (fun _ => False) := by
  refine met_p R_Pi .boolean db_Pi_isOpen (by decide) rfl rfl (Nat.le_of_ble_eq_true rfl) ?_
  intro p e s m below meth c Z Q ls C h hl hret
  have hl : lv_has ls 3 [(0, .ref (ad 2)), (1, .int a1)] := hl
  refine i_aload_n (n := 1) C 0 rfl rfl rfl hl 0 rfl ?_
  refine i_iload_n (n := 2) C 1 rfl rfl rfl hl 1 rfl ?_
  refine i_callVp (rest := []) (ci := 7) (qc := (R_Pi, T_Pi, 8)) (n := 5) C 2 rfl rfl hl h rfl (wC_get (h := 2) (by decide)) (kV_Pi_34 ⟨by decide, by decide⟩) (m_Pi_valveOn hw) rfl rfl (Nat.le_of_ble_eq_true rfl) ⟨by decide, by decide⟩ (fun r1 hw => ?_)
  refine i_istore_n (lv' := [(2, .int r1), (0, .ref (ad 2)), (1, .int a1)]) (n := 6) C 3 rfl rfl rfl hl (by decide) rfl (fun ls hl => ?_)
  refine i_iload_n (n := 7) C 4 rfl rfl rfl hl 0 rfl ?_
  refine i_bipush (v := (-6 : Int32)) (n := 9) C 5 rfl rfl rfl ?_
  refine i_icmp_eq (tgt := 20) (n := 12) C 6 rfl rfl rfl (fun c2 => ?_) (fun c2 => ?_)
  · replace hw := hw.1 c2
    exact e_Pi_isOpen_20 C h hret   ls (lv_sub hl [] rfl) hw
  · replace hw := hw.2 c2
    refine i_aload_n (n := 13) C 7 rfl rfl rfl hl 1 rfl ?_
    refine i_iload_n (n := 14) C 8 rfl rfl rfl hl 0 rfl ?_
    refine i_callVp (rest := []) (ci := 7) (qc := (R_Pi, T_Pi, 8)) (n := 17) C 9 rfl rfl hl h rfl (wC_get (h := 2) (by decide)) (kV_Pi_52 ⟨by decide, by decide⟩) (m_Pi_isShut hw) rfl rfl (Nat.le_of_ble_eq_true rfl) ⟨by decide, by decide⟩ (fun r3 hw => ?_)
    refine i_if_ne (tgt := 24) (n := 20) C 10 rfl rfl rfl (fun c4 => ?_) (fun c4 => ?_)
    · replace hw := hw.1 c4
      refine i_iconst (v := (0 : Int32)) (n := 25) C 13 rfl rfl rfl ?_
      exact hret _ _ _ rfl hw (C.dg (k := 14) rfl)
    · replace hw := hw.2 c4
      exact e_Pi_isOpen_20 C h hret   ls (lv_sub hl [] rfl) hw
end S18
section S19
variable {p : Program} {l : Launch} {e : Env} {R : Room} {s : State} {m : MethodId} {args : Array Value} {below : List Frame} {meth : Method} {c : Code} {H : Heap} {locs : List Loc} {cells slots : Nat} {Q : State → Prop}
variable {cc : ByteArray} {pc n nL : Nat} {ls : Array Slot} {rest : List Value} {D : va_G} {cy : Nat → ClassId} {Z : Nat → Prop} {ad : Nat → Nat} {tb : List (Nat × Instr × Nat)} {lv : List (Nat × Value)}
def g_Pi_isOpenByMap_20 (I : Nat → Int32) (A : Nat → Nat → Int32) (a1 : Int32) (P : Int32 → Prop)   : Prop := P (1 : Int32)
set_option maxHeartbeats 4000000 in
set_option maxRecDepth 100000 in
theorem e_Pi_isOpenByMap_20 {I : Nat → Int32} {A : Nat → Nat → Int32} {T : Nat → Option Nat} {L : List Nat} {K : Nat → Nat} {F : Nat → Nat → Int32} {a1 : Int32} {P : Int32 → Prop}  (C : CX D cy R_Pi c_Pi_isOpenByMap tb_Pi_isOpenByMap 3 p s m args c Z) (h : HXw D Z s.heap H locs (wC cy ad I A T L K F)) (hret : RetP p l e { frames := 2, cells := 0, slots := 0, locals := 44 } s m args below meth c c_Pi_isOpenByMap .boolean H locs Q P) :
    ∀ (ls : Array Slot), lv_has ls 3 [] → g_Pi_isOpenByMap_20 I A a1 P   → W p l e { frames := 2, cells := 0, slots := 0, locals := 44 } s m args below meth c H locs 0 0 Q (F0 m 20 ls []) := by
  intro  ls hl hw
  refine i_iconst (v := (1 : Int32)) (n := 21) C 11 rfl rfl rfl ?_
  refine i_goto (tgt := 25) C 12 rfl rfl ?_
  exact hret _ _ _ rfl hw (C.dg (k := 14) rfl)
def g_Pi_isOpenByMap (I : Nat → Int32) (A : Nat → Nat → Int32) (a1 : Int32) (P : Int32 → Prop) : Prop := g_Pi_valveTold I A a1 (fun r1 => ((r1 = (-6 : Int32) → (g_Pi_isOpenByMap_20 I A a1 P  )) ∧ (¬ r1 = (-6 : Int32) → (g_Pi_isShut I r1 (fun r3 => ((¬ r3 = 0 → (P (0 : Int32))) ∧ (r3 = 0 → (g_Pi_isOpenByMap_20 I A a1 P  ))))))))
set_option maxHeartbeats 4000000 in
set_option maxRecDepth 100000 in
theorem m_Pi_isOpenByMap {l : Launch} {D : va_G} {cy : Nat → ClassId} {ad : Nat → Nat} {I : Nat → Int32} {A : Nat → Nat → Int32} {T : Nat → Option Nat} {L : List Nat} {K : Nat → Nat} {F : Nat → Nat → Int32} {a1 : Int32} {P : Int32 → Prop} (hw : g_Pi_isOpenByMap I A a1 P) : ∀ sz, Met l y_Pi_isOpenByMap (WL y_Pi_isOpenByMap c_Pi_isOpenByMap 3 (some .boolean)) { frames := 2, cells := 0, slots := 0, locals := 44 } (va_Pc [.ref (ad 2), .int a1] (PreW D cy (wC cy ad I A T L K F) sz)) (vp_Si P) 0 0 (fun _ => False) := by
  refine met_p R_Pi .boolean db_Pi_isOpenByMap (by decide) rfl rfl (Nat.le_of_ble_eq_true rfl) ?_
  intro p e s m below meth c Z Q ls C h hl hret
  have hl : lv_has ls 3 [(0, .ref (ad 2)), (1, .int a1)] := hl
  refine i_aload_n (n := 1) C 0 rfl rfl rfl hl 0 rfl ?_
  refine i_iload_n (n := 2) C 1 rfl rfl rfl hl 1 rfl ?_
  refine i_callVp (rest := []) (ci := 7) (qc := (R_Pi, T_Pi, 8)) (n := 5) C 2 rfl rfl hl h rfl (wC_get (h := 2) (by decide)) (kV_Pi_38 ⟨by decide, by decide⟩) (m_Pi_valveTold hw) rfl rfl (Nat.le_of_ble_eq_true rfl) ⟨by decide, by decide⟩ (fun r1 hw => ?_)
  refine i_istore_n (lv' := [(2, .int r1), (0, .ref (ad 2)), (1, .int a1)]) (n := 6) C 3 rfl rfl rfl hl (by decide) rfl (fun ls hl => ?_)
  refine i_iload_n (n := 7) C 4 rfl rfl rfl hl 0 rfl ?_
  refine i_bipush (v := (-6 : Int32)) (n := 9) C 5 rfl rfl rfl ?_
  refine i_icmp_eq (tgt := 20) (n := 12) C 6 rfl rfl rfl (fun c2 => ?_) (fun c2 => ?_)
  · replace hw := hw.1 c2
    exact e_Pi_isOpenByMap_20 C h hret   ls (lv_sub hl [] rfl) hw
  · replace hw := hw.2 c2
    refine i_aload_n (n := 13) C 7 rfl rfl rfl hl 1 rfl ?_
    refine i_iload_n (n := 14) C 8 rfl rfl rfl hl 0 rfl ?_
    refine i_callVp (rest := []) (ci := 7) (qc := (R_Pi, T_Pi, 8)) (n := 17) C 9 rfl rfl hl h rfl (wC_get (h := 2) (by decide)) (kV_Pi_52 ⟨by decide, by decide⟩) (m_Pi_isShut hw) rfl rfl (Nat.le_of_ble_eq_true rfl) ⟨by decide, by decide⟩ (fun r3 hw => ?_)
    refine i_if_ne (tgt := 24) (n := 20) C 10 rfl rfl rfl (fun c4 => ?_) (fun c4 => ?_)
    · replace hw := hw.1 c4
      refine i_iconst (v := (0 : Int32)) (n := 25) C 13 rfl rfl rfl ?_
      exact hret _ _ _ rfl hw (C.dg (k := 14) rfl)
    · replace hw := hw.2 c4
      exact e_Pi_isOpenByMap_20 C h hret   ls (lv_sub hl [] rfl) hw
end S19
theorem kV_Pw_100 {R : Room} {s : State} {args : Array Value} (hR : 2 + 1 ≤ R.frames ∧ 8 + (3 + 11) + 44 ≤ R.locals) (ht : ∀ w ∈ GW, w.before args s = true) : CallW R s args R_Pw R_Pi 100 y_Pi_isOpen c_Pi_isOpen 3 (some .boolean) (WL y_Pi_isOpen c_Pi_isOpen 3 (some .boolean)) { frames := 2, cells := 0, slots := 0, locals := 44 } 0 0 1 := cwV 1 ht (GW_v w_2_84 w_2_85 w_2_86 w_1_3 (GW_wl w_2_87)) rfl rfl rfl (by decide +kernel) hR
theorem kS_Pw_103 {R : Room} {s : State} {args : Array Value} (hR : 0 + 1 ≤ R.frames ∧ 8 + (1 + 11) + 0 ≤ R.locals) (ht : ∀ w ∈ GW, w.before args s = true) : CallB R s args R_Pw 103 y_Pw_bit c_Pw_bit 1 (some .int) (WL y_Pw_bit c_Pw_bit 1 (some .int)) { frames := 0, cells := 0, slots := 0, locals := 0 } 0 0 1 ∧ (Cond.static y_Pw_bit).before args s = true := cwS 1 ht (GW_s w_2_88 w_2_78 w_1_1 (GW_wl w_2_79)) rfl rfl rfl (by decide +kernel) hR
theorem kV_Pw_107 {R : Room} {s : State} {args : Array Value} (hR : 2 + 1 ≤ R.frames ∧ 8 + (3 + 11) + 44 ≤ R.locals) (ht : ∀ w ∈ GW, w.before args s = true) : CallW R s args R_Pw R_Pi 107 y_Pi_isOpenByMap c_Pi_isOpenByMap 3 (some .boolean) (WL y_Pi_isOpenByMap c_Pi_isOpenByMap 3 (some .boolean)) { frames := 2, cells := 0, slots := 0, locals := 44 } 0 0 1 := cwV 1 ht (GW_v w_2_89 w_2_90 w_2_91 w_1_3 (GW_wl w_2_92)) rfl rfl rfl (by decide +kernel) hR
theorem kV_Pw_119 {R : Room} {s : State} {args : Array Value} (hR : 1 + 1 ≤ R.frames ∧ 8 + (2 + 11) + 23 ≤ R.locals) (ht : ∀ w ∈ GW, w.before args s = true) : CallW R s args R_Pw R_Pi 119 y_Pi_valveOn c_Pi_valveOn 2 (some .int) (WL y_Pi_valveOn c_Pi_valveOn 2 (some .int)) { frames := 1, cells := 0, slots := 0, locals := 23 } 0 0 1 := cwV 1 ht (GW_v w_2_93 w_2_47 w_2_48 w_1_3 (GW_wl w_2_49)) rfl rfl rfl (by decide +kernel) hR
section S20
variable {p : Program} {l : Launch} {e : Env} {R : Room} {s : State} {m : MethodId} {args : Array Value} {below : List Frame} {meth : Method} {c : Code} {H : Heap} {locs : List Loc} {cells slots : Nat} {Q : State → Prop}
variable {cc : ByteArray} {pc n nL : Nat} {ls : Array Slot} {rest : List Value} {D : va_G} {cy : Nat → ClassId} {Z : Nat → Prop} {ad : Nat → Nat} {tb : List (Nat × Instr × Nat)} {lv : List (Nat × Value)}
def g_Pw_ofMain (I : Nat → Int32) (A : Nat → Nat → Int32) (a1 : Int32) (a2 : Int32) (P : Int32 → Prop) : Prop := g_Pi_hasMain I a1 (fun r1 => ((¬ r1 = 0 → ((a2 = (0 : Int32) → (g_Pi_isOpen I A a1 (fun r4 => (g_Pw_bit r4 (fun r5 => (P r5)))))) ∧ (a2 = (1 : Int32) → (g_Pi_isOpenByMap I A a1 (fun r7 => (g_Pw_bit r7 (fun r8 => (P r8)))))) ∧ (a2 = (2 : Int32) → (vp_in a1 18 ∧ (P (A 19 a1.toNatClampNeg)))) ∧ (a2 = (3 : Int32) → (vp_in a1 18 ∧ (P (A 17 a1.toNatClampNeg)))) ∧ (a2 = (4 : Int32) → (vp_in a1 18 ∧ (P (A 18 a1.toNatClampNeg)))) ∧ (a2 = (5 : Int32) → (g_Pi_valveOn I A a1 (fun r13 => (P r13)))) ∧ (¬ a2 = (0 : Int32) → ¬ a2 = (1 : Int32) → ¬ a2 = (2 : Int32) → ¬ a2 = (3 : Int32) → ¬ a2 = (4 : Int32) → ¬ a2 = (5 : Int32) → (P (-2 : Int32))))) ∧ (r1 = 0 → (P (-1 : Int32)))))
set_option maxHeartbeats 4000000 in
set_option maxRecDepth 100000 in
theorem m_Pw_ofMain {l : Launch} {D : va_G} {cy : Nat → ClassId} {ad : Nat → Nat} {I : Nat → Int32} {A : Nat → Nat → Int32} {T : Nat → Option Nat} {L : List Nat} {K : Nat → Nat} {F : Nat → Nat → Int32} {a1 : Int32} {a2 : Int32} {P : Int32 → Prop} (hw : g_Pw_ofMain I A a1 a2 P) : ∀ sz, Met l y_Pw_ofMain (WL y_Pw_ofMain c_Pw_ofMain 3 (some .int)) { frames := 3, cells := 0, slots := 0, locals := 66 } (va_Pc [.ref (ad 0), .int a1, .int a2] (PreW D cy (wC cy ad I A T L K F) sz)) (vp_Si P) 0 0 (fun _ => False) := by
  refine met_p R_Pw .int db_Pw_ofMain (by decide) rfl rfl (Nat.le_of_ble_eq_true rfl) ?_
  intro p e s m below meth c Z Q ls C h hl hret
  have hl : lv_has ls 3 [(0, .ref (ad 0)), (1, .int a1), (2, .int a2)] := hl
  refine i_aload_n (n := 1) C 0 rfl rfl rfl hl 0 rfl ?_
  refine fgC_Pw_20 (n := 4) C 1 rfl rfl h ?_
  refine i_iload_n (n := 5) C 2 rfl rfl rfl hl 1 rfl ?_
  refine i_callVp (rest := []) (ci := 7) (qc := (R_Pi, T_Pi, 8)) (n := 8) C 3 rfl rfl hl h rfl (wC_get (h := 2) (by decide)) (kV_Pw_87 ⟨by decide, by decide⟩) (m_Pi_hasMain hw) rfl rfl (Nat.le_of_ble_eq_true rfl) ⟨by decide, by decide⟩ (fun r1 hw => ?_)
  refine i_if_ne (tgt := 13) (n := 11) C 4 rfl rfl rfl (fun c2 => ?_) (fun c2 => ?_)
  · replace hw := hw.1 c2
    refine i_iload_n (n := 14) C 7 rfl rfl rfl hl 2 rfl ?_
    by_cases c3 : a2 = (0 : Int32)
    · replace hw := hw.1 c3
      refine i_tsw (tgt := 52) C 8 rfl c3 (by decide) (by decide) rfl rfl ?_
      refine i_aload_n (n := 53) C 9 rfl rfl rfl hl 0 rfl ?_
      refine fgC_Pw_20 (n := 56) C 10 rfl rfl h ?_
      refine i_iload_n (n := 57) C 11 rfl rfl rfl hl 1 rfl ?_
      refine i_callVp (rest := []) (ci := 7) (qc := (R_Pi, T_Pi, 8)) (n := 60) C 12 rfl rfl hl h rfl (wC_get (h := 2) (by decide)) (kV_Pw_100 ⟨by decide, by decide⟩) (m_Pi_isOpen hw) rfl rfl (Nat.le_of_ble_eq_true rfl) ⟨by decide, by decide⟩ (fun r4 hw => ?_)
      refine i_callSp (rest := []) (n := 63) C 13 rfl rfl hl h (kS_Pw_103 ⟨by decide, by decide⟩) (m_Pw_bit hw) rfl rfl (Nat.le_of_ble_eq_true rfl) ⟨by decide, by decide⟩ (fun r5 hw => ?_)
      exact hret _ _ _ rfl hw (C.dg (k := 14) rfl)
    replace hw := hw.2
    by_cases c6 : a2 = (1 : Int32)
    · replace hw := hw.1 c6
      refine i_tsw (tgt := 64) C 8 rfl c6 (by decide) (by decide) rfl rfl ?_
      refine i_aload_n (n := 65) C 15 rfl rfl rfl hl 0 rfl ?_
      refine fgC_Pw_20 (n := 68) C 16 rfl rfl h ?_
      refine i_iload_n (n := 69) C 17 rfl rfl rfl hl 1 rfl ?_
      refine i_callVp (rest := []) (ci := 7) (qc := (R_Pi, T_Pi, 8)) (n := 72) C 18 rfl rfl hl h rfl (wC_get (h := 2) (by decide)) (kV_Pw_107 ⟨by decide, by decide⟩) (m_Pi_isOpenByMap hw) rfl rfl (Nat.le_of_ble_eq_true rfl) ⟨by decide, by decide⟩ (fun r7 hw => ?_)
      refine i_callSp (rest := []) (n := 75) C 19 rfl rfl hl h (kS_Pw_103 ⟨by decide, by decide⟩) (m_Pw_bit hw) rfl rfl (Nat.le_of_ble_eq_true rfl) ⟨by decide, by decide⟩ (fun r8 hw => ?_)
      exact hret _ _ _ rfl hw (C.dg (k := 20) rfl)
    replace hw := hw.2
    by_cases c9 : a2 = (2 : Int32)
    · replace hw := hw.1 c9
      refine i_tsw (tgt := 76) C 8 rfl c9 (by decide) (by decide) rfl rfl ?_
      refine i_aload_n (n := 77) C 21 rfl rfl rfl hl 0 rfl ?_
      refine fgC_Pw_20 (n := 80) C 22 rfl rfl h ?_
      refine fgC_Pw_110 (n := 83) C 23 rfl rfl h ?_
      refine i_iload_n (n := 84) C 24 rfl rfl rfl hl 1 rfl ?_
      obtain ⟨hb, hw⟩ := hw
      refine i_iald (n := 85) C 25 rfl rfl h (wC_arr 19 (by decide) rfl) hb ?_
      exact hret _ _ _ rfl hw (C.dg (k := 26) rfl)
    replace hw := hw.2
    by_cases c10 : a2 = (3 : Int32)
    · replace hw := hw.1 c10
      refine i_tsw (tgt := 86) C 8 rfl c10 (by decide) (by decide) rfl rfl ?_
      refine i_aload_n (n := 87) C 27 rfl rfl rfl hl 0 rfl ?_
      refine fgC_Pw_20 (n := 90) C 28 rfl rfl h ?_
      refine fgC_Pw_113 (n := 93) C 29 rfl rfl h ?_
      refine i_iload_n (n := 94) C 30 rfl rfl rfl hl 1 rfl ?_
      obtain ⟨hb, hw⟩ := hw
      refine i_iald (n := 95) C 31 rfl rfl h (wC_arr 17 (by decide) rfl) hb ?_
      exact hret _ _ _ rfl hw (C.dg (k := 32) rfl)
    replace hw := hw.2
    by_cases c11 : a2 = (4 : Int32)
    · replace hw := hw.1 c11
      refine i_tsw (tgt := 96) C 8 rfl c11 (by decide) (by decide) rfl rfl ?_
      refine i_aload_n (n := 97) C 33 rfl rfl rfl hl 0 rfl ?_
      refine fgC_Pw_20 (n := 100) C 34 rfl rfl h ?_
      refine fgC_Pw_116 (n := 103) C 35 rfl rfl h ?_
      refine i_iload_n (n := 104) C 36 rfl rfl rfl hl 1 rfl ?_
      obtain ⟨hb, hw⟩ := hw
      refine i_iald (n := 105) C 37 rfl rfl h (wC_arr 18 (by decide) rfl) hb ?_
      exact hret _ _ _ rfl hw (C.dg (k := 38) rfl)
    replace hw := hw.2
    by_cases c12 : a2 = (5 : Int32)
    · replace hw := hw.1 c12
      refine i_tsw (tgt := 106) C 8 rfl c12 (by decide) (by decide) rfl rfl ?_
      refine i_aload_n (n := 107) C 39 rfl rfl rfl hl 0 rfl ?_
      refine fgC_Pw_20 (n := 110) C 40 rfl rfl h ?_
      refine i_iload_n (n := 111) C 41 rfl rfl rfl hl 1 rfl ?_
      refine i_callVp (rest := []) (ci := 7) (qc := (R_Pi, T_Pi, 8)) (n := 114) C 42 rfl rfl hl h rfl (wC_get (h := 2) (by decide)) (kV_Pw_119 ⟨by decide, by decide⟩) (m_Pi_valveOn hw) rfl rfl (Nat.le_of_ble_eq_true rfl) ⟨by decide, by decide⟩ (fun r13 hw => ?_)
      exact hret _ _ _ rfl hw (C.dg (k := 43) rfl)
    replace hw := hw.2
    replace hw := hw c3
    replace hw := hw c6
    replace hw := hw c9
    replace hw := hw c10
    replace hw := hw c11
    replace hw := hw c12
    refine i_tswd (tgt := 115) C 8 rfl (fun j hj => match j, hj with | 0, _ => lv_neT c3 rfl | 1, _ => lv_neT c6 rfl | 2, _ => lv_neT c9 rfl | 3, _ => lv_neT c10 rfl | 4, _ => lv_neT c11 rfl | 5, _ => lv_neT c12 rfl | j + 6, hj => absurd hj (by omega)) rfl ?_
    refine i_bipush (v := (-2 : Int32)) (n := 117) C 44 rfl rfl rfl ?_
    exact hret _ _ _ rfl hw (C.dg (k := 45) rfl)
  · replace hw := hw.2 c2
    refine i_iconst (v := (-1 : Int32)) (n := 12) C 5 rfl rfl rfl ?_
    exact hret _ _ _ rfl hw (C.dg (k := 6) rfl)
end S20
section S21
variable {p : Program} {l : Launch} {e : Env} {R : Room} {s : State} {m : MethodId} {args : Array Value} {below : List Frame} {meth : Method} {c : Code} {H : Heap} {locs : List Loc} {cells slots : Nat} {Q : State → Prop}
variable {cc : ByteArray} {pc n nL : Nat} {ls : Array Slot} {rest : List Value} {D : va_G} {cy : Nat → ClassId} {Z : Nat → Prop} {ad : Nat → Nat} {tb : List (Nat × Instr × Nat)} {lv : List (Nat × Value)}
def g_Pi_wrongValve_37 (I : Nat → Int32) (A : Nat → Nat → Int32) (a1 : Int32) (P : Int32 → Prop) (kb4 : Int32 → Int32 → Prop) (x2 : Int32) (x3 : Int32) : Prop := kb4 x2 (x3 + (1 : Int32))
set_option maxHeartbeats 4000000 in
set_option maxRecDepth 100000 in
theorem e_Pi_wrongValve_37 {I : Nat → Int32} {A : Nat → Nat → Int32} {T : Nat → Option Nat} {L : List Nat} {K : Nat → Nat} {F : Nat → Nat → Int32} {a1 : Int32} {P : Int32 → Prop} {kb4 : Int32 → Int32 → Prop} (C : CX D cy R_Pi c_Pi_wrongValve tb_Pi_wrongValve 4 p s m args c Z) (h : HXw D Z s.heap H locs (wC cy ad I A T L K F)) (hret : RetP p l e { frames := 0, cells := 0, slots := 0, locals := 0 } s m args below meth c c_Pi_wrongValve .int H locs Q P)
    (hb4 : ∀ (x2 : Int32) (x3 : Int32) (ls : Array Slot), lv_has ls 4 [(0, .ref (ad 2)), (1, .int a1), (2, .int x2), (3, .int x3)] → kb4 x2 x3 → W p l e { frames := 0, cells := 0, slots := 0, locals := 0 } s m args below meth c H locs 0 0 Q (F0 m 4 ls [])) :
    ∀ (x2 : Int32) (x3 : Int32) (ls : Array Slot), lv_has ls 4 [(0, .ref (ad 2)), (1, .int a1), (2, .int x2), (3, .int x3)] → g_Pi_wrongValve_37 I A a1 P kb4 x2 x3 → W p l e { frames := 0, cells := 0, slots := 0, locals := 0 } s m args below meth c H locs 0 0 Q (F0 m 37 ls []) := by
  intro x2 x3 ls hl hw
  refine i_iinc (v := x3 + (1 : Int32)) (lv' := [(3, .int (x3 + (1 : Int32))), (0, .ref (ad 2)), (1, .int a1), (2, .int x2)]) (n := 40) C 23 rfl rfl hl 3 rfl rfl (by decide) rfl (fun ls hl => ?_)
  refine i_goto (tgt := 4) C 24 rfl rfl ?_
  exact hb4 x2 (x3 + (1 : Int32)) ls (lv_sub hl [1, 2, 3, 0] rfl) hw
def g_Pi_wrongValve_4 (I : Nat → Int32) (A : Nat → Nat → Int32) (a1 : Int32) (P : Int32 → Prop) (kx4 : Int32 → Prop) : Nat → Int32 → Int32 → Prop
  | 0, _, _ => False
  | n4 + 1, x2, x3 => ((I 10) ≤ x3 → (kx4 x2)) ∧ (¬ (I 10) ≤ x3 → (vp_in x3 12 ∧ (vp_in x3 12 ∧ (((A 20 x3.toNatClampNeg) = (A 21 x3.toNatClampNeg) → (g_Pi_wrongValve_37 I A a1 P (g_Pi_wrongValve_4 I A a1 P kx4 n4) x2 x3)) ∧ (¬ (A 20 x3.toNatClampNeg) = (A 21 x3.toNatClampNeg) → ((¬ x2 = a1 → (g_Pi_wrongValve_37 I A a1 P (g_Pi_wrongValve_4 I A a1 P kx4 n4) (x2 + (1 : Int32)) x3)) ∧ (x2 = a1 → (P x3))))))))
set_option maxHeartbeats 4000000 in
set_option maxRecDepth 100000 in
theorem e_Pi_wrongValve_4 {I : Nat → Int32} {A : Nat → Nat → Int32} {T : Nat → Option Nat} {L : List Nat} {K : Nat → Nat} {F : Nat → Nat → Int32} {a1 : Int32} {P : Int32 → Prop} {kx4 : Int32 → Prop} (C : CX D cy R_Pi c_Pi_wrongValve tb_Pi_wrongValve 4 p s m args c Z) (h : HXw D Z s.heap H locs (wC cy ad I A T L K F)) (hret : RetP p l e { frames := 0, cells := 0, slots := 0, locals := 0 } s m args below meth c c_Pi_wrongValve .int H locs Q P)
    (hx4 : ∀ (x2 : Int32) (ls : Array Slot), lv_has ls 4 [(1, .int a1), (2, .int x2)] → kx4 x2 → W p l e { frames := 0, cells := 0, slots := 0, locals := 0 } s m args below meth c H locs 0 0 Q (F0 m 43 ls [])) :
    ∀ (n : Nat) (x2 : Int32) (x3 : Int32) (ls : Array Slot), lv_has ls 4 [(0, .ref (ad 2)), (1, .int a1), (2, .int x2), (3, .int x3)] → g_Pi_wrongValve_4 I A a1 P kx4 n x2 x3 → W p l e { frames := 0, cells := 0, slots := 0, locals := 0 } s m args below meth c H locs 0 0 Q (F0 m 4 ls []) := by
  intro n
  induction n with
  | zero => intro x2 x3 ls hl hw; exact hw.elim
  | succ n ih =>
    intro x2 x3 ls hl hw
    refine i_iload_n (n := 5) C 4 rfl rfl rfl hl 3 rfl ?_
    refine i_aload_n (n := 6) C 5 rfl rfl rfl hl 0 rfl ?_
    refine fgC_Pi_31 (n := 9) C 6 rfl rfl h ?_
    refine i_icmp_ge (tgt := 43) (n := 12) C 7 rfl rfl rfl (fun c1 => ?_) (fun c1 => ?_)
    · replace hw := hw.1 c1
      exact hx4 x2 ls (lv_sub hl [1, 2] rfl) hw
    · replace hw := hw.2 c1
      refine i_aload_n (n := 13) C 8 rfl rfl rfl hl 0 rfl ?_
      refine fgC_Pi_21 (n := 16) C 9 rfl rfl h ?_
      refine i_iload_n (n := 17) C 10 rfl rfl rfl hl 3 rfl ?_
      obtain ⟨hb, hw⟩ := hw
      refine i_iald (n := 18) C 11 rfl rfl h (wC_arr 20 (by decide) rfl) hb ?_
      refine i_aload_n (n := 19) C 12 rfl rfl rfl hl 0 rfl ?_
      refine fgC_Pi_24 (n := 22) C 13 rfl rfl h ?_
      refine i_iload_n (n := 23) C 14 rfl rfl rfl hl 3 rfl ?_
      obtain ⟨hb, hw⟩ := hw
      refine i_iald (n := 24) C 15 rfl rfl h (wC_arr 21 (by decide) rfl) hb ?_
      refine i_icmp_eq (tgt := 37) (n := 27) C 16 rfl rfl rfl (fun c2 => ?_) (fun c2 => ?_)
      · replace hw := hw.1 c2
        exact e_Pi_wrongValve_37 C h hret ih x2 x3 ls hl hw
      · replace hw := hw.2 c2
        refine i_iload_n (n := 28) C 17 rfl rfl rfl hl 2 rfl ?_
        refine i_iload_n (n := 29) C 18 rfl rfl rfl hl 1 rfl ?_
        refine i_icmp_ne (tgt := 34) (n := 32) C 19 rfl rfl rfl (fun c3 => ?_) (fun c3 => ?_)
        · replace hw := hw.1 c3
          refine i_iinc (v := x2 + (1 : Int32)) (lv' := [(2, .int (x2 + (1 : Int32))), (0, .ref (ad 2)), (1, .int a1), (3, .int x3)]) (n := 37) C 22 rfl rfl hl 2 rfl rfl (by decide) rfl (fun ls hl => ?_)
          exact e_Pi_wrongValve_37 C h hret ih (x2 + (1 : Int32)) x3 ls (lv_sub hl [1, 2, 0, 3] rfl) hw
        · replace hw := hw.2 c3
          refine i_iload_n (n := 33) C 20 rfl rfl rfl hl 3 rfl ?_
          exact hret _ _ _ rfl hw (C.dg (k := 21) rfl)
def g_Pi_wrongValve (I : Nat → Int32) (A : Nat → Nat → Int32) (a1 : Int32) (P : Int32 → Prop) : Prop := ∃ N : Nat, g_Pi_wrongValve_4 I A a1 P (fun (x2_4 : Int32) => (¬ a1 = (-1 : Int32) → (P (-6 : Int32))) ∧ (a1 = (-1 : Int32) → (P x2_4))) N (0 : Int32) (0 : Int32)
set_option maxHeartbeats 4000000 in
set_option maxRecDepth 100000 in
theorem m_Pi_wrongValve {l : Launch} {D : va_G} {cy : Nat → ClassId} {ad : Nat → Nat} {I : Nat → Int32} {A : Nat → Nat → Int32} {T : Nat → Option Nat} {L : List Nat} {K : Nat → Nat} {F : Nat → Nat → Int32} {a1 : Int32} {P : Int32 → Prop} (hw : g_Pi_wrongValve I A a1 P) : ∀ sz, Met l y_Pi_wrongValve (WL y_Pi_wrongValve c_Pi_wrongValve 4 (some .int)) { frames := 0, cells := 0, slots := 0, locals := 0 } (va_Pc [.ref (ad 2), .int a1] (PreW D cy (wC cy ad I A T L K F) sz)) (vp_Si P) 0 0 (fun _ => False) := by
  refine met_p R_Pi .int db_Pi_wrongValve (by decide) rfl rfl (Nat.le_of_ble_eq_true rfl) ?_
  intro p e s m below meth c Z Q ls C h hl hret
  have hl : lv_has ls 4 [(0, .ref (ad 2)), (1, .int a1)] := hl
  refine i_iconst (v := (0 : Int32)) (n := 1) C 0 rfl rfl rfl ?_
  refine i_istore_n (lv' := [(2, .int (0 : Int32)), (0, .ref (ad 2)), (1, .int a1)]) (n := 2) C 1 rfl rfl rfl hl (by decide) rfl (fun ls hl => ?_)
  refine i_iconst (v := (0 : Int32)) (n := 3) C 2 rfl rfl rfl ?_
  refine i_istore_n (lv' := [(3, .int (0 : Int32)), (2, .int (0 : Int32)), (0, .ref (ad 2)), (1, .int a1)]) (n := 4) C 3 rfl rfl rfl hl (by decide) rfl (fun ls hl => ?_)
  obtain ⟨n4, hw⟩ := hw
  refine e_Pi_wrongValve_4 C h hret (fun x2_4 ls hl hw => ?_) n4 (0 : Int32) (0 : Int32) ls (lv_sub hl [2, 3, 1, 0] rfl) hw
  have hl : lv_has ls 4 [(1, .int a1), (2, .int x2_4)] := hl
  refine i_iload_n (n := 44) C 25 rfl rfl rfl hl 0 rfl ?_
  refine i_iconst (v := (-1 : Int32)) (n := 45) C 26 rfl rfl rfl ?_
  refine i_icmp_ne (tgt := 52) (n := 48) C 27 rfl rfl rfl (fun c5 => ?_) (fun c5 => ?_)
  · replace hw := hw.1 c5
    refine i_bipush (v := (-6 : Int32)) (n := 54) C 30 rfl rfl rfl ?_
    exact hret _ _ _ rfl hw (C.dg (k := 31) rfl)
  · replace hw := hw.2 c5
    refine i_iload_n (n := 49) C 28 rfl rfl rfl hl 1 rfl ?_
    refine i_goto (tgt := 54) C 29 rfl rfl ?_
    exact hret _ _ _ rfl hw (C.dg (k := 31) rfl)
end S21
theorem kV_Pw_122 {R : Room} {s : State} {args : Array Value} (hR : 0 + 1 ≤ R.frames ∧ 8 + (4 + 11) + 0 ≤ R.locals) (ht : ∀ w ∈ GW, w.before args s = true) : CallW R s args R_Pw R_Pi 122 y_Pi_wrongValve c_Pi_wrongValve 4 (some .int) (WL y_Pi_wrongValve c_Pi_wrongValve 4 (some .int)) { frames := 0, cells := 0, slots := 0, locals := 0 } 0 0 1 := cwV 1 ht (GW_v w_2_98 w_2_99 w_2_100 w_1_3 (GW_wl w_2_101)) rfl rfl rfl (by decide +kernel) hR
section S22
variable {p : Program} {l : Launch} {e : Env} {R : Room} {s : State} {m : MethodId} {args : Array Value} {below : List Frame} {meth : Method} {c : Code} {H : Heap} {locs : List Loc} {cells slots : Nat} {Q : State → Prop}
variable {cc : ByteArray} {pc n nL : Nat} {ls : Array Slot} {rest : List Value} {D : va_G} {cy : Nat → ClassId} {Z : Nat → Prop} {ad : Nat → Nat} {tb : List (Nat × Instr × Nat)} {lv : List (Nat × Value)}
def g_Pw_wrong (I : Nat → Int32) (A : Nat → Nat → Int32) (a1 : Int32) (P : Int32 → Prop) : Prop := g_Pi_wrongValve I A a1 (fun r1 => (P r1))
set_option maxHeartbeats 4000000 in
set_option maxRecDepth 100000 in
theorem m_Pw_wrong {l : Launch} {D : va_G} {cy : Nat → ClassId} {ad : Nat → Nat} {I : Nat → Int32} {A : Nat → Nat → Int32} {T : Nat → Option Nat} {L : List Nat} {K : Nat → Nat} {F : Nat → Nat → Int32} {a1 : Int32} {P : Int32 → Prop} (hw : g_Pw_wrong I A a1 P) : ∀ sz, Met l y_Pw_wrong (WL y_Pw_wrong c_Pw_wrong 2 (some .int)) { frames := 1, cells := 0, slots := 0, locals := 23 } (va_Pc [.ref (ad 0), .int a1] (PreW D cy (wC cy ad I A T L K F) sz)) (vp_Si P) 0 0 (fun _ => False) := by
  refine met_p R_Pw .int db_Pw_wrong (by decide) rfl rfl (Nat.le_of_ble_eq_true rfl) ?_
  intro p e s m below meth c Z Q ls C h hl hret
  have hl : lv_has ls 2 [(0, .ref (ad 0)), (1, .int a1)] := hl
  refine i_aload_n (n := 1) C 0 rfl rfl rfl hl 0 rfl ?_
  refine fgC_Pw_20 (n := 4) C 1 rfl rfl h ?_
  refine i_iload_n (n := 5) C 2 rfl rfl rfl hl 1 rfl ?_
  refine i_callVp (rest := []) (ci := 7) (qc := (R_Pi, T_Pi, 8)) (n := 8) C 3 rfl rfl hl h rfl (wC_get (h := 2) (by decide)) (kV_Pw_122 ⟨by decide, by decide⟩) (m_Pi_wrongValve hw) rfl rfl (Nat.le_of_ble_eq_true rfl) ⟨by decide, by decide⟩ (fun r1 hw => ?_)
  exact hret _ _ _ rfl hw (C.dg (k := 4) rfl)
end S22
section S23
variable {p : Program} {l : Launch} {e : Env} {R : Room} {s : State} {m : MethodId} {args : Array Value} {below : List Frame} {meth : Method} {c : Code} {H : Heap} {locs : List Loc} {cells slots : Nat} {Q : State → Prop}
variable {cc : ByteArray} {pc n nL : Nat} {ls : Array Slot} {rest : List Value} {D : va_G} {cy : Nat → ClassId} {Z : Nat → Prop} {ad : Nat → Nat} {tb : List (Nat × Instr × Nat)} {lv : List (Nat × Value)}
def g_Pi_mendMap_25 (I : Nat → Int32) (a1 : Int32) (P : Int32 → ((Nat → Nat → Int32)) → Prop)  (A : Nat → Nat → Int32) : Prop := vp_in a1 12 ∧ (∀ y3 : Int32, y3 = (A 21 a1.toNatClampNeg) → (vp_in a1 12 ∧ (vp_in a1 12 ∧ (P y3 (sA A 21 a1 (A 20 a1.toNatClampNeg))))))
set_option maxHeartbeats 4000000 in
set_option maxRecDepth 100000 in
theorem e_Pi_mendMap_25 {I : Nat → Int32} {T : Nat → Option Nat} {L : List Nat} {K : Nat → Nat} {F : Nat → Nat → Int32} {a1 : Int32} {P : Int32 → ((Nat → Nat → Int32)) → Prop}  (C : CX D cy R_Pi c_Pi_mendMap tb_Pi_mendMap 4 p s m args c Z) (hret : RetI p l e { frames := 2, cells := 0, slots := 0, locals := 44 } s m args below meth c c_Pi_mendMap .int D Z Q (fun (u : (Nat → Nat → Int32)) => wC cy ad I u T L K F) P 0 0) :
    ∀ (A : Nat → Nat → Int32) (ls : Array Slot) (H : Heap) (locs : List Loc), lv_has ls 4 [(0, .ref (ad 2)), (1, .int a1)] → HXw D Z s.heap H locs (wC cy ad I A T L K F) → g_Pi_mendMap_25 I a1 P  A → W p l e { frames := 2, cells := 0, slots := 0, locals := 44 } s m args below meth c H locs 0 0 Q (F0 m 25 ls []) := by
  intro A ls H locs hl h hw
  refine i_aload_n (n := 26) C 15 rfl rfl rfl hl 0 rfl ?_
  refine fgC_Pi_24 (n := 29) C 16 rfl rfl h ?_
  refine i_iload_n (n := 30) C 17 rfl rfl rfl hl 1 rfl ?_
  obtain ⟨hb, hw⟩ := hw
  refine i_iald (n := 31) C 18 rfl rfl h (wC_arr 21 (by decide) rfl) hb ?_
  refine lv_topi (fun y3 ey3 => ?_)
  replace hw := hw y3 ey3
  refine i_istore_n (lv' := [(3, .int y3), (0, .ref (ad 2)), (1, .int a1)]) (n := 32) C 19 rfl rfl rfl hl (by decide) rfl (fun ls hl => ?_)
  refine i_aload_n (n := 33) C 20 rfl rfl rfl hl 1 rfl ?_
  refine fgC_Pi_24 (n := 36) C 21 rfl rfl h ?_
  refine i_iload_n (n := 37) C 22 rfl rfl rfl hl 2 rfl ?_
  refine i_aload_n (n := 38) C 23 rfl rfl rfl hl 1 rfl ?_
  refine fgC_Pi_21 (n := 41) C 24 rfl rfl h ?_
  refine i_iload_n (n := 42) C 25 rfl rfl rfl hl 2 rfl ?_
  obtain ⟨hb, hw⟩ := hw
  refine i_iald (n := 43) C 26 rfl rfl h (wC_arr 20 (by decide) rfl) hb ?_
  obtain ⟨hb, hw⟩ := hw
  refine i_iast (n := 44) C 27 rfl rfl h (wC_arr 21 (by decide) rfl) hb (wC_sA 21 (by decide) rfl _ _) (fun H locs h => ?_)
  refine i_iload_n (n := 45) C 28 rfl rfl rfl hl 0 rfl ?_
  exact hret _ (sA A 21 a1 (A 20 a1.toNatClampNeg)) _ _ _ _ rfl hw h (C.dg (k := 29) rfl)
def g_Pi_mendMap (I : Nat → Int32) (A : Nat → Nat → Int32) (a1 : Int32) (P : Int32 → ((Nat → Nat → Int32)) → Prop) : Prop := vp_in a1 12 ∧ (g_Pi_valveTold I A (A 20 a1.toNatClampNeg) (fun r1 => ((r1 = (-6 : Int32) → (g_Pi_mendMap_25 I a1 P  A)) ∧ (¬ r1 = (-6 : Int32) → ((r1 = a1 → (g_Pi_mendMap_25 I a1 P  A)) ∧ (¬ r1 = a1 → (P (-5 : Int32) A)))))))
set_option maxHeartbeats 4000000 in
set_option maxRecDepth 100000 in
theorem m_Pi_mendMap {l : Launch} {D : va_G} {cy : Nat → ClassId} {ad : Nat → Nat} {I : Nat → Int32} {A : Nat → Nat → Int32} {T : Nat → Option Nat} {L : List Nat} {K : Nat → Nat} {F : Nat → Nat → Int32} {a1 : Int32} {P : Int32 → ((Nat → Nat → Int32)) → Prop} (hw : g_Pi_mendMap I A a1 P) : ∀ sz, Met l y_Pi_mendMap (WL y_Pi_mendMap c_Pi_mendMap 4 (some .int)) { frames := 2, cells := 0, slots := 0, locals := 44 } (va_Pc [.ref (ad 2), .int a1] (PreW D cy (wC cy ad I A T L K F) sz)) (va_Qi P (fun u t => PostW D (va_A (wC cy ad I A T L K F) sz) ((fun (u : (Nat → Nat → Int32)) => wC cy ad I u T L K F) u) t) (va_A (wC cy ad I A T L K F) sz)) 0 0 (va_A (wC cy ad I A T L K F) sz) := by
  refine met_i (wf := fun (u : (Nat → Nat → Int32)) => wC cy ad I u T L K F) R_Pi .int db_Pi_mendMap (by decide) rfl rfl (Nat.le_of_ble_eq_true rfl) ?_
  intro p e s m below meth c Z Q ls C h hl hret
  have hl : lv_has ls 4 [(0, .ref (ad 2)), (1, .int a1)] := hl
  refine i_aload_n (n := 1) C 0 rfl rfl rfl hl 0 rfl ?_
  refine i_aload_n (n := 2) C 1 rfl rfl rfl hl 0 rfl ?_
  refine fgC_Pi_21 (n := 5) C 2 rfl rfl h ?_
  refine i_iload_n (n := 6) C 3 rfl rfl rfl hl 1 rfl ?_
  obtain ⟨hb, hw⟩ := hw
  refine i_iald (n := 7) C 4 rfl rfl h (wC_arr 20 (by decide) rfl) hb ?_
  refine i_callVp (rest := []) (ci := 7) (qc := (R_Pi, T_Pi, 8)) (n := 10) C 5 rfl rfl hl h rfl (wC_get (h := 2) (by decide)) (kV_Pi_38 ⟨by decide, by decide⟩) (m_Pi_valveTold hw) rfl rfl (Nat.le_of_ble_eq_true rfl) ⟨by decide, by decide⟩ (fun r1 hw => ?_)
  refine i_istore_n (lv' := [(2, .int r1), (0, .ref (ad 2)), (1, .int a1)]) (n := 11) C 6 rfl rfl rfl hl (by decide) rfl (fun ls hl => ?_)
  refine i_iload_n (n := 12) C 7 rfl rfl rfl hl 0 rfl ?_
  refine i_bipush (v := (-6 : Int32)) (n := 14) C 8 rfl rfl rfl ?_
  refine i_icmp_eq (tgt := 25) (n := 17) C 9 rfl rfl rfl (fun c2 => ?_) (fun c2 => ?_)
  · replace hw := hw.1 c2
    exact e_Pi_mendMap_25 C hret  A ls _ _ (lv_sub hl [1, 2] rfl) h hw
  · replace hw := hw.2 c2
    refine i_iload_n (n := 18) C 10 rfl rfl rfl hl 0 rfl ?_
    refine i_iload_n (n := 19) C 11 rfl rfl rfl hl 2 rfl ?_
    refine i_icmp_eq (tgt := 25) (n := 22) C 12 rfl rfl rfl (fun c4 => ?_) (fun c4 => ?_)
    · replace hw := hw.1 c4
      exact e_Pi_mendMap_25 C hret  A ls _ _ (lv_sub hl [1, 2] rfl) h hw
    · replace hw := hw.2 c4
      refine i_bipush (v := (-5 : Int32)) (n := 24) C 13 rfl rfl rfl ?_
      exact hret _ A _ _ _ _ rfl hw h (C.dg (k := 14) rfl)
end S23
theorem kV_Pw_125 {R : Room} {s : State} {args : Array Value} (hR : 2 + 1 ≤ R.frames ∧ 8 + (4 + 11) + 44 ≤ R.locals) (ht : ∀ w ∈ GW, w.before args s = true) : CallW R s args R_Pw R_Pi 125 y_Pi_mendMap c_Pi_mendMap 4 (some .int) (WL y_Pi_mendMap c_Pi_mendMap 4 (some .int)) { frames := 2, cells := 0, slots := 0, locals := 44 } 0 0 1 := cwV 1 ht (GW_v w_2_106 w_2_107 w_2_108 w_1_3 (GW_wl w_2_109)) rfl rfl rfl (by decide +kernel) hR
section S24
variable {p : Program} {l : Launch} {e : Env} {R : Room} {s : State} {m : MethodId} {args : Array Value} {below : List Frame} {meth : Method} {c : Code} {H : Heap} {locs : List Loc} {cells slots : Nat} {Q : State → Prop}
variable {cc : ByteArray} {pc n nL : Nat} {ls : Array Slot} {rest : List Value} {D : va_G} {cy : Nat → ClassId} {Z : Nat → Prop} {ad : Nat → Nat} {tb : List (Nat × Instr × Nat)} {lv : List (Nat × Value)}
def g_Pw_mend (I : Nat → Int32) (A : Nat → Nat → Int32) (a1 : Int32) (P : Int32 → ((Nat → Nat → Int32)) → Prop) : Prop := g_Pi_hasValve I a1 (fun r1 => ((r1 = 0 → (P (-1 : Int32) A)) ∧ (¬ r1 = 0 → (g_Pi_mendMap I A a1 (fun r3 u4 => (P r3 u4))))))
set_option maxHeartbeats 4000000 in
set_option maxRecDepth 100000 in
theorem m_Pw_mend {l : Launch} {D : va_G} {cy : Nat → ClassId} {ad : Nat → Nat} {I : Nat → Int32} {A : Nat → Nat → Int32} {T : Nat → Option Nat} {L : List Nat} {K : Nat → Nat} {F : Nat → Nat → Int32} {a1 : Int32} {P : Int32 → ((Nat → Nat → Int32)) → Prop} (hw : g_Pw_mend I A a1 P) : ∀ sz, Met l y_Pw_mend (WL y_Pw_mend c_Pw_mend 2 (some .int)) { frames := 3, cells := 0, slots := 0, locals := 67 } (va_Pc [.ref (ad 0), .int a1] (PreW D cy (wC cy ad I A T L K F) sz)) (va_Qi P (fun u t => PostW D (va_A (wC cy ad I A T L K F) sz) ((fun (u : (Nat → Nat → Int32)) => wC cy ad I u T L K F) u) t) (va_A (wC cy ad I A T L K F) sz)) 0 0 (va_A (wC cy ad I A T L K F) sz) := by
  refine met_i (wf := fun (u : (Nat → Nat → Int32)) => wC cy ad I u T L K F) R_Pw .int db_Pw_mend (by decide) rfl rfl (Nat.le_of_ble_eq_true rfl) ?_
  intro p e s m below meth c Z Q ls C h hl hret
  have hl : lv_has ls 2 [(0, .ref (ad 0)), (1, .int a1)] := hl
  refine i_aload_n (n := 1) C 0 rfl rfl rfl hl 0 rfl ?_
  refine fgC_Pw_20 (n := 4) C 1 rfl rfl h ?_
  refine i_iload_n (n := 5) C 2 rfl rfl rfl hl 1 rfl ?_
  refine i_callVp (rest := []) (ci := 7) (qc := (R_Pi, T_Pi, 8)) (n := 8) C 3 rfl rfl hl h rfl (wC_get (h := 2) (by decide)) (kV_Pw_93 ⟨by decide, by decide⟩) (m_Pi_hasValve hw) rfl rfl (Nat.le_of_ble_eq_true rfl) ⟨by decide, by decide⟩ (fun r1 hw => ?_)
  refine i_if_eq (tgt := 22) (n := 11) C 4 rfl rfl rfl (fun c2 => ?_) (fun c2 => ?_)
  · replace hw := hw.1 c2
    refine i_iconst (v := (-1 : Int32)) (n := 23) C 10 rfl rfl rfl ?_
    exact hret _ A _ _ _ _ rfl hw h (C.dg (k := 11) rfl)
  · replace hw := hw.2 c2
    refine i_aload_n (n := 12) C 5 rfl rfl rfl hl 0 rfl ?_
    refine fgC_Pw_20 (n := 15) C 6 rfl rfl h ?_
    refine i_iload_n (n := 16) C 7 rfl rfl rfl hl 1 rfl ?_
    refine i_callVi (rest := []) (ci := 7) (qc := (R_Pi, T_Pi, 8)) (n := 19) C 8 rfl rfl hl h rfl (wC_get (h := 2) (by decide)) (kV_Pw_125 ⟨by decide, by decide⟩) (m_Pi_mendMap hw) rfl rfl (Nat.le_of_ble_eq_true rfl) ⟨by decide, by decide⟩ (fun r3 u4 H locs hw h => ?_)
    refine i_goto (tgt := 23) C 9 rfl rfl ?_
    exact hret _ u4 _ _ _ _ rfl hw h (C.dg (k := 11) rfl)
end S24
section S25
variable {p : Program} {l : Launch} {e : Env} {R : Room} {s : State} {m : MethodId} {args : Array Value} {below : List Frame} {meth : Method} {c : Code} {H : Heap} {locs : List Loc} {cells slots : Nat} {Q : State → Prop}
variable {cc : ByteArray} {pc n nL : Nat} {ls : Array Slot} {rest : List Value} {D : va_G} {cy : Nat → ClassId} {Z : Nat → Prop} {ad : Nat → Nat} {tb : List (Nat × Instr × Nat)} {lv : List (Nat × Value)}
def g_Pw_areHours (a1 : Int32) (a2 : Int32) (P : Int32 → Prop) : Prop := g_Pw_isWithin a1 (0 : Int32) (1440 : Int32) (fun r1 => ((r1 = 0 → (P (0 : Int32))) ∧ (¬ r1 = 0 → (g_Pw_isWithin a2 a1 (1440 : Int32) (fun r3 => ((r3 = 0 → (P (0 : Int32))) ∧ (¬ r3 = 0 → (P (1 : Int32)))))))))
set_option maxHeartbeats 4000000 in
set_option maxRecDepth 100000 in
theorem m_Pw_areHours {l : Launch} {D : va_G} {cy : Nat → ClassId}   {a1 : Int32} {a2 : Int32} {w : va_W} {P : Int32 → Prop} (hw : g_Pw_areHours a1 a2 P) : ∀ sz, Met l y_Pw_areHours (WL y_Pw_areHours c_Pw_areHours 2 (some .boolean)) { frames := 1, cells := 0, slots := 0, locals := 22 } (va_Pc [.int a1, .int a2] (PreW D cy (w) sz)) (vp_Si P) 0 0 (fun _ => False) := by
  refine met_p R_Pw .boolean db_Pw_areHours (by decide) rfl rfl (Nat.le_of_ble_eq_true rfl) ?_
  intro p e s m below meth c Z Q ls C h hl hret
  have hl : lv_has ls 2 [(0, .int a1), (1, .int a2)] := hl
  refine i_iload_n (n := 1) C 0 rfl rfl rfl hl 0 rfl ?_
  refine i_iconst (v := (0 : Int32)) (n := 2) C 1 rfl rfl rfl ?_
  refine i_sipush (v := (1440 : Int32)) (n := 5) C 2 rfl rfl rfl ?_
  refine i_callSp (rest := []) (n := 8) C 3 rfl rfl hl h (kS_Pw_69 ⟨by decide, by decide⟩) (m_Pw_isWithin hw) rfl rfl (Nat.le_of_ble_eq_true rfl) ⟨by decide, by decide⟩ (fun r1 hw => ?_)
  refine i_if_eq (tgt := 26) (n := 11) C 4 rfl rfl rfl (fun c2 => ?_) (fun c2 => ?_)
  · replace hw := hw.1 c2
    refine i_iconst (v := (0 : Int32)) (n := 27) C 12 rfl rfl rfl ?_
    exact hret _ _ _ rfl hw (C.dg (k := 13) rfl)
  · replace hw := hw.2 c2
    refine i_iload_n (n := 12) C 5 rfl rfl rfl hl 1 rfl ?_
    refine i_iload_n (n := 13) C 6 rfl rfl rfl hl 0 rfl ?_
    refine i_sipush (v := (1440 : Int32)) (n := 16) C 7 rfl rfl rfl ?_
    refine i_callSp (rest := []) (n := 19) C 8 rfl rfl hl h (kS_Pw_69 ⟨by decide, by decide⟩) (m_Pw_isWithin hw) rfl rfl (Nat.le_of_ble_eq_true rfl) ⟨by decide, by decide⟩ (fun r3 hw => ?_)
    refine i_if_eq (tgt := 26) (n := 22) C 9 rfl rfl rfl (fun c4 => ?_) (fun c4 => ?_)
    · replace hw := hw.1 c4
      refine i_iconst (v := (0 : Int32)) (n := 27) C 12 rfl rfl rfl ?_
      exact hret _ _ _ rfl hw (C.dg (k := 13) rfl)
    · replace hw := hw.2 c4
      refine i_iconst (v := (1 : Int32)) (n := 23) C 10 rfl rfl rfl ?_
      refine i_goto (tgt := 27) C 11 rfl rfl ?_
      exact hret _ _ _ rfl hw (C.dg (k := 13) rfl)
end S25
section S26
variable {p : Program} {l : Launch} {e : Env} {R : Room} {s : State} {m : MethodId} {args : Array Value} {below : List Frame} {meth : Method} {c : Code} {H : Heap} {locs : List Loc} {cells slots : Nat} {Q : State → Prop}
variable {cc : ByteArray} {pc n nL : Nat} {ls : Array Slot} {rest : List Value} {D : va_G} {cy : Nat → ClassId} {Z : Nat → Prop} {ad : Nat → Nat} {tb : List (Nat × Instr × Nat)} {lv : List (Nat × Value)}
def g_Pw_refusalToHang (I : Nat → Int32) (T : Nat → Option Nat) (a1 : Int32) (a2 : Int32) (P : Int32 → Prop) : Prop := g_Ne_has I a1 (fun r1 => ((¬ r1 = 0 → ((¬ a2 = 0 → (vp_in a1 12 ∧ ((T a1.toNatClampNeg = none → (P (0 : Int32))) ∧ (∀ q4 : Nat, T a1.toNatClampNeg = some q4 → (P (-5 : Int32)))))) ∧ (a2 = 0 → (P (-2 : Int32))))) ∧ (r1 = 0 → (P (-1 : Int32)))))
set_option maxHeartbeats 4000000 in
set_option maxRecDepth 100000 in
theorem m_Pw_refusalToHang {l : Launch} {D : va_G} {cy : Nat → ClassId} {ad : Nat → Nat} {I : Nat → Int32} {A : Nat → Nat → Int32} {T : Nat → Option Nat} {L : List Nat} {K : Nat → Nat} {F : Nat → Nat → Int32} {a1 : Int32} {a2 : Int32} {P : Int32 → Prop} (hw : g_Pw_refusalToHang I T a1 a2 P) : ∀ sz, Met l y_Pw_refusalToHang (WL y_Pw_refusalToHang c_Pw_refusalToHang 3 (some .int)) { frames := 1, cells := 0, slots := 0, locals := 21 } (va_Pc [.ref (ad 0), .int a1, .int a2] (PreW D cy (wC cy ad I A T L K F) sz)) (vp_Si P) 0 0 (fun _ => False) := by
  refine met_p R_Pw .int db_Pw_refusalToHang (by decide) rfl rfl (Nat.le_of_ble_eq_true rfl) ?_
  intro p e s m below meth c Z Q ls C h hl hret
  have hl : lv_has ls 3 [(0, .ref (ad 0)), (1, .int a1), (2, .int a2)] := hl
  refine i_aload_n (n := 1) C 0 rfl rfl rfl hl 0 rfl ?_
  refine fgC_Pw_10 (n := 4) C 1 rfl rfl h ?_
  refine i_iload_n (n := 5) C 2 rfl rfl rfl hl 1 rfl ?_
  refine i_callVp (rest := []) (ci := 5) (qc := (R_Ne, T_Ne, 17)) (n := 8) C 3 rfl rfl hl h rfl (wC_get (h := 1) (by decide)) (kV_Pw_77 ⟨by decide, by decide⟩) (m_Ne_has hw) rfl rfl (Nat.le_of_ble_eq_true rfl) ⟨by decide, by decide⟩ (fun r1 hw => ?_)
  refine i_if_ne (tgt := 13) (n := 11) C 4 rfl rfl rfl (fun c2 => ?_) (fun c2 => ?_)
  · replace hw := hw.1 c2
    refine i_iload_n (n := 14) C 7 rfl rfl rfl hl 2 rfl ?_
    refine i_if_ne (tgt := 20) (n := 17) C 8 rfl rfl rfl (fun c3 => ?_) (fun c3 => ?_)
    · replace hw := hw.1 c3
      refine i_aload_n (n := 21) C 11 rfl rfl rfl hl 0 rfl ?_
      refine fgC_Pw_10 (n := 24) C 12 rfl rfl h ?_
      refine fgC_Pw_168 (n := 27) C 13 rfl rfl h ?_
      refine i_iload_n (n := 28) C 14 rfl rfl rfl hl 1 rfl ?_
      obtain ⟨hb, hw⟩ := hw
      refine i_aldq (n := 29) C 15 rfl rfl h (wC_get (h := 5) (by decide)) hb (fun c5 => ?_) (fun q4 c5 => ?_)
      · replace hw := hw.1 c5
        refine i_ifnonnullN (n := 32) C 16 rfl rfl ?_
        refine i_iconst (v := (0 : Int32)) (n := 33) C 17 rfl rfl rfl ?_
        refine i_goto (tgt := 38) C 18 rfl rfl ?_
        exact hret _ _ _ rfl hw (C.dg (k := 20) rfl)
      · replace hw := hw.2 q4 c5
        refine i_ifnonnull (tgt := 36) C 16 rfl rfl ?_
        refine i_bipush (v := (-5 : Int32)) (n := 38) C 19 rfl rfl rfl ?_
        exact hret _ _ _ rfl hw (C.dg (k := 20) rfl)
    · replace hw := hw.2 c3
      refine i_bipush (v := (-2 : Int32)) (n := 19) C 9 rfl rfl rfl ?_
      exact hret _ _ _ rfl hw (C.dg (k := 10) rfl)
  · replace hw := hw.2 c2
    refine i_iconst (v := (-1 : Int32)) (n := 12) C 5 rfl rfl rfl ?_
    exact hret _ _ _ rfl hw (C.dg (k := 6) rfl)
end S26
section S27
variable {p : Program} {l : Launch} {e : Env} {R : Room} {s : State} {m : MethodId} {args : Array Value} {below : List Frame} {meth : Method} {c : Code} {H : Heap} {locs : List Loc} {cells slots : Nat} {Q : State → Prop}
variable {cc : ByteArray} {pc n nL : Nat} {ls : Array Slot} {rest : List Value} {D : va_G} {cy : Nat → ClassId} {Z : Nat → Prop} {ad : Nat → Nat} {tb : List (Nat × Instr × Nat)} {lv : List (Nat × Value)}
def g_Th_init  (P : (Unit) → Prop) : Prop := P ()
set_option maxHeartbeats 4000000 in
set_option maxRecDepth 100000 in
theorem m_Th_init {l : Launch} {D : va_G} {cy : Nat → ClassId}    {b : Nat} {w : va_W} {P : (Unit) → Prop} (hw : g_Th_init  P) : ∀ sz, Met l y_Th_init (WL y_Th_init c_Th_init 1 none) { frames := 1, cells := 0, slots := 0, locals := 20 } (va_Pc [.ref b] (PreW D cy (w) sz)) (va_Qv P (fun u t => PostW D (va_A (w) sz) ((fun (_ : Unit) => w) u) t) (va_A (w) sz)) 0 0 (va_A (w) sz) := by
  refine met_v (wf := fun (_ : Unit) => w) R_Th db_Th_init (by decide) rfl (Nat.le_of_ble_eq_true rfl) ?_
  intro p e s m below meth c Z Q ls hin C h hl hret
  have hl : lv_has ls 1 [(0, .ref b)] := hl
  refine i_aload_n (n := 1) C 0 rfl rfl rfl hl 0 rfl ?_
  refine i_objInit (n := 4) C 1 rfl rfl hl w_2_129 (by decide) (Nat.le_of_ble_eq_true rfl) (by decide) ?_
  exact hret () _ _ _ _ hw h (C.dg (k := 2) rfl)
end S27
theorem kIN_Dr_3 {R : Room} {s : State} {args : Array Value} (hR : 1 + 1 ≤ R.frames ∧ 8 + (1 + 11) + 20 ≤ R.locals) (ht : ∀ w ∈ GW, w.before args s = true) (hN : NX s) : va_CN R s args R_Dr 3 y_Th_init R_Pw c_Th_init 1 none (WL y_Th_init c_Th_init 1 none) { frames := 1, cells := 0, slots := 0, locals := 20 } 0 0 0 ∧ y_Th_init.name = "<init>" ∧ (Cond.instanceMethod y_Th_init).before args s = true := ⟨va_cnB 0 ht (GW_in (GW_wl w_2_128)) rfl rfl rfl (hN.1 _ (by simp [nxW])) (ht _ w_1_8) (by decide +kernel) hR, rfl, ht _ w_2_127⟩
section S28
variable {p : Program} {l : Launch} {e : Env} {R : Room} {s : State} {m : MethodId} {args : Array Value} {below : List Frame} {meth : Method} {c : Code} {H : Heap} {locs : List Loc} {cells slots : Nat} {Q : State → Prop}
variable {cc : ByteArray} {pc n nL : Nat} {ls : Array Slot} {rest : List Value} {D : va_G} {cy : Nat → ClassId} {Z : Nat → Prop} {ad : Nat → Nat} {tb : List (Nat × Instr × Nat)} {lv : List (Nat × Value)}
def g_Dr_init_Dr (F : Nat → Nat → Int32) (b : Nat) (a1 : Int32) (a2 : Int32) (a3 : Int32) (P : ((Nat → Nat → Int32)) → Prop) : Prop := g_Th_init  (fun u1 => (P (sF (sF (sF F b 0 a1) b 1 a2) b 2 a3)))
set_option maxHeartbeats 4000000 in
set_option maxRecDepth 100000 in
theorem m_Dr_init_Dr {l : Launch} {D : va_G} {cy : Nat → ClassId} {ad : Nat → Nat} {I : Nat → Int32} {A : Nat → Nat → Int32} {T : Nat → Option Nat} {L : List Nat} {K : Nat → Nat} {F : Nat → Nat → Int32} {b : Nat} {a1 : Int32} {a2 : Int32} {a3 : Int32} {P : ((Nat → Nat → Int32)) → Prop} (hbq : b ∈ L) (hbk : K b = 1) (hw : g_Dr_init_Dr F b a1 a2 a3 P) : ∀ sz, Met l y_Dr_init (WL y_Dr_init c_Dr_init 4 none) { frames := 2, cells := 0, slots := 0, locals := 40 } (va_Pc [.ref b, .int a1, .int a2, .int a3] (PreW D cy (wC cy ad I A T L K F) sz)) (va_Qv P (fun u t => PostW D (va_A (wC cy ad I A T L K F) sz) ((fun (u : (Nat → Nat → Int32)) => wC cy ad I A T L K u) u) t) (va_A (wC cy ad I A T L K F) sz)) 0 0 (va_A (wC cy ad I A T L K F) sz) := by
  refine met_v (wf := fun (u : (Nat → Nat → Int32)) => wC cy ad I A T L K u) R_Dr db_Dr_init (by decide) rfl (Nat.le_of_ble_eq_true rfl) ?_
  intro p e s m below meth c Z Q ls hin C h hl hret
  have hl : lv_has ls 4 [(0, .ref b), (1, .int a1), (2, .int a2), (3, .int a3)] := hl
  refine i_aload_n (n := 1) C 0 rfl rfl rfl hl 0 rfl ?_
  refine i_callINv (rest := []) (n := 4) C 1 rfl rfl hl h (kIN_Dr_3 ⟨by decide, by decide⟩) (m_Th_init hw) rfl rfl (Nat.le_of_ble_eq_true rfl) ⟨by decide, by decide⟩ (fun u1 H locs hw h => ?_)
  refine i_aload_n (n := 5) C 2 rfl rfl rfl hl 0 rfl ?_
  refine i_iload_n (n := 6) C 3 rfl rfl rfl hl 1 rfl ?_
  refine tp_Dr_9_Dr (n := 9) C 4 rfl rfl h hbq hbk hin (fun H locs h => ?_)
  refine i_aload_n (n := 10) C 5 rfl rfl rfl hl 0 rfl ?_
  refine i_iload_n (n := 11) C 6 rfl rfl rfl hl 2 rfl ?_
  refine tp_Dr_15_Dr (n := 14) C 7 rfl rfl h hbq hbk hin (fun H locs h => ?_)
  refine i_aload_n (n := 15) C 8 rfl rfl rfl hl 0 rfl ?_
  refine i_iload_n (n := 16) C 9 rfl rfl rfl hl 3 rfl ?_
  refine tp_Dr_18_Dr (n := 19) C 10 rfl rfl h hbq hbk hin (fun H locs h => ?_)
  exact hret (sF (sF (sF F b 0 a1) b 1 a2) b 2 a3) _ _ _ _ hw h (C.dg (k := 11) rfl)
end S28
section S29
variable {p : Program} {l : Launch} {e : Env} {R : Room} {s : State} {m : MethodId} {args : Array Value} {below : List Frame} {meth : Method} {c : Code} {H : Heap} {locs : List Loc} {cells slots : Nat} {Q : State → Prop}
variable {cc : ByteArray} {pc n nL : Nat} {ls : Array Slot} {rest : List Value} {D : va_G} {cy : Nat → ClassId} {Z : Nat → Prop} {ad : Nat → Nat} {tb : List (Nat × Instr × Nat)} {lv : List (Nat × Value)}
def g_Ne_hang (T : Nat → Option Nat) (L : List Nat) (K : Nat → Nat) (a1 : Int32) (q2 : Nat) (P : Int32 → ((Nat → Option Nat)) → Prop) : Prop := vp_in a1 12 ∧ (q2 ∈ L ∧ isTh (K q2) ∧ (P (1 : Int32) (va_up T a1.toNatClampNeg (some q2))))
set_option maxHeartbeats 4000000 in
set_option maxRecDepth 100000 in
theorem m_Ne_hang {l : Launch} {D : va_G} {cy : Nat → ClassId} {ad : Nat → Nat} {I : Nat → Int32} {A : Nat → Nat → Int32} {T : Nat → Option Nat} {L : List Nat} {K : Nat → Nat} {F : Nat → Nat → Int32} {a1 : Int32} {q2 : Nat} {P : Int32 → ((Nat → Option Nat)) → Prop} (hw : g_Ne_hang T L K a1 q2 P) : ∀ sz, Met l y_Ne_hang (WL y_Ne_hang c_Ne_hang 3 (some .int)) { frames := 0, cells := 0, slots := 0, locals := 0 } (va_Pc [.ref (ad 1), .int a1, .ref q2] (PreW D cy (wC cy ad I A T L K F) sz)) (va_Qi P (fun u t => PostW D (va_A (wC cy ad I A T L K F) sz) ((fun (u : (Nat → Option Nat)) => wC cy ad I A u L K F) u) t) (va_A (wC cy ad I A T L K F) sz)) 0 0 (va_A (wC cy ad I A T L K F) sz) := by
  refine met_i (wf := fun (u : (Nat → Option Nat)) => wC cy ad I A u L K F) R_Ne .int db_Ne_hang (by decide) rfl rfl (Nat.le_of_ble_eq_true rfl) ?_
  intro p e s m below meth c Z Q ls C h hl hret
  have hl : lv_has ls 3 [(0, .ref (ad 1)), (1, .int a1), (2, .ref q2)] := hl
  refine i_aload_n (n := 1) C 0 rfl rfl rfl hl 0 rfl ?_
  refine fgC_Ne_30 (n := 4) C 1 rfl rfl h ?_
  refine i_iload_n (n := 5) C 2 rfl rfl rfl hl 1 rfl ?_
  refine i_aload_n (n := 6) C 3 rfl rfl rfl hl 2 rfl ?_
  obtain ⟨hb, hw⟩ := hw
  obtain ⟨hq, ht, hw⟩ := hw
  refine i_astT (n := 7) C 4 rfl rfl h hb hq ht (fun H locs h => ?_)
  refine i_iconst (v := (1 : Int32)) (n := 8) C 5 rfl rfl rfl ?_
  exact hret _ (va_up T a1.toNatClampNeg (some q2)) _ _ _ _ rfl hw h (C.dg (k := 6) rfl)
end S29
