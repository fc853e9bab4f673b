theorem kS_Or_46 {R : Room} {s : State} {args : Array Value} (hR : 3 + 1 ≤ R.frames ∧ 8 + (2 + 11) + 63 ≤ R.locals) (ht : ∀ w ∈ GW, w.before args s = true) : CallB R s args R_Or 46 y_Or_dueBehind c_Or_dueBehind 2 (some .int) (WL y_Or_dueBehind c_Or_dueBehind 2 (some .int)) { frames := 3, cells := 0, slots := 0, locals := 63 } 0 0 2 ∧ (Cond.static y_Or_dueBehind).before args s = true := cwS 2 ht (GW_s w_4_120 w_4_121 w_1_4 (GW_wl w_4_122)) rfl rfl rfl (by decide +kernel) hR
section S124
variable {p : Program} {l : Launch} {e : Env} {R : Room} {s : State} {m : MethodId} {args : Array Value} {below : List Frame} {meth : Method} {c : Code} {H : Heap} {locs : List Loc} {cells slots : Nat} {Q : State → Prop}
variable {cc : ByteArray} {pc n nL : Nat} {ls : Array Slot} {rest : List Value} {D : va_G} {cy : Nat → ClassId} {Z : Nat → Prop} {ad : Nat → Nat} {tb : List (Nat × Instr × Nat)} {lv : List (Nat × Value)}
set_option maxHeartbeats 4000000 in
set_option maxRecDepth 100000 in
theorem e_Or_firstFault_4 {I : Nat → Int32} {A : Nat → Nat → Int32} {T : Nat → Option Nat} {L : List Nat} {K : Nat → Nat} {F : Nat → Nat → Int32}  {P : Int32 → Prop} {kx4 : Int32 → Prop} (C : CX D cy R_Or c_Or_firstFault tb_Or_firstFault 3 p s m args c Z) (h : HXw D Z s.heap H locs (wC cy ad I A T L K F)) (hret : RetP p l e { frames := 4, cells := 0, slots := 0, locals := 84 } s m args below meth c c_Or_firstFault .int H locs Q P)
    (hx4 : ∀ (x1 : Int32) (ls : Array Slot), lv_has ls 3 [(0, .ref (ad 3)), (1, .int x1)] → kx4 x1 → W p l e { frames := 4, cells := 0, slots := 0, locals := 84 } s m args below meth c H locs 0 0 Q (F0 m 37 ls [])) :
    ∀ (n : Nat) (x1 : Int32) (x2 : Int32) (ls : Array Slot), lv_has ls 3 [(0, .ref (ad 3)), (1, .int x1), (2, .int x2)] → g_Or_firstFault_4 I A P kx4 n x1 x2 → W p l e { frames := 4, cells := 0, slots := 0, locals := 84 } s m args below meth c H locs 0 0 Q (F0 m 4 ls []) := by
  intro n
  induction n with
  | zero => intro x1 x2 ls hl hw; exact hw.elim
  | succ n ih =>
    intro x1 x2 ls hl hw
    refine i_iload_n (n := 5) C 4 rfl rfl rfl hl 2 rfl ?_
    refine i_aload_n (n := 6) C 5 rfl rfl rfl hl 0 rfl ?_
    refine fgC_Or_26 (n := 9) C 6 rfl rfl h ?_
    refine i_icmp_ge (tgt := 37) (n := 12) C 7 rfl rfl rfl (fun c1 => ?_) (fun c1 => ?_)
    · replace hw := hw.1 c1
      exact hx4 x1 ls (lv_sub hl [0, 1] rfl) hw
    · replace hw := hw.2 c1
      refine i_iload_n (n := 13) C 8 rfl rfl rfl hl 1 rfl ?_
      refine i_aload_n (n := 14) C 9 rfl rfl rfl hl 0 rfl ?_
      refine fgC_Or_11 (n := 17) C 10 rfl rfl h ?_
      refine i_iload_n (n := 18) C 11 rfl rfl rfl hl 2 rfl ?_
      obtain ⟨hb, hw⟩ := hw
      refine i_iald (n := 19) C 12 rfl rfl h (wC_arr 22 (by decide) rfl) hb ?_
      refine i_callSp (rest := []) (n := 22) C 13 rfl rfl hl h (kS_Or_46 ⟨by decide, by decide⟩) (m_Or_dueBehind hw) rfl rfl (Nat.le_of_ble_eq_true rfl) ⟨by decide, by decide⟩ (fun r2 hw => ?_)
      refine i_istore_n (lv' := [(1, .int r2), (0, .ref (ad 3)), (2, .int x2)]) (n := 23) C 14 rfl rfl rfl hl (by decide) rfl (fun ls hl => ?_)
      refine i_iload_n (n := 24) C 15 rfl rfl rfl hl 0 rfl ?_
      refine i_bipush (v := (-6 : Int32)) (n := 26) C 16 rfl rfl rfl ?_
      refine i_icmp_ne (tgt := 31) (n := 29) C 17 rfl rfl rfl (fun c3 => ?_) (fun c3 => ?_)
      · replace hw := hw.1 c3
        refine i_iinc (v := x2 + (1 : Int32)) (lv' := [(2, .int (x2 + (1 : Int32))), (1, .int r2), (0, .ref (ad 3))]) (n := 34) C 20 rfl rfl hl 2 rfl rfl (by decide) rfl (fun ls hl => ?_)
        refine i_goto (tgt := 4) C 21 rfl rfl ?_
        exact ih r2 (x2 + (1 : Int32)) ls (lv_sub hl [2, 1, 0] rfl) hw
      · replace hw := hw.2 c3
        refine i_iload_n (n := 30) C 18 rfl rfl rfl hl 2 rfl ?_
        exact hret _ _ _ rfl hw (C.dg (k := 19) rfl)
set_option maxHeartbeats 4000000 in
set_option maxRecDepth 100000 in
theorem m_Or_firstFault {l : Launch} {D : va_G} {cy : Nat → ClassId} {ad : Nat → Nat} {I : Nat → Int32} {A : Nat → Nat → Int32} {T : Nat → Option Nat} {L : List Nat} {K : Nat → Nat} {F : Nat → Nat → Int32}  {P : Int32 → Prop} (hw : g_Or_firstFault I A P) : ∀ sz, Met l y_Or_firstFault (WL y_Or_firstFault c_Or_firstFault 3 (some .int)) { frames := 4, cells := 0, slots := 0, locals := 84 } (va_Pc [.ref (ad 3)] (PreW D cy (wC cy ad I A T L K F) sz)) (vp_Si P) 0 0 (fun _ => False) := by
  refine met_p R_Or .int db_Or_firstFault (by decide) rfl rfl (Nat.le_of_ble_eq_true rfl) ?_
  intro p e s m below meth c Z Q ls C h hl hret
  have hl : lv_has ls 3 [(0, .ref (ad 3))] := hl
  refine i_iconst (v := (0 : Int32)) (n := 1) C 0 rfl rfl rfl ?_
  refine i_istore_n (lv' := [(1, .int (0 : Int32)), (0, .ref (ad 3))]) (n := 2) C 1 rfl rfl rfl hl (by decide) rfl (fun ls hl => ?_)
  refine i_iconst (v := (0 : Int32)) (n := 3) C 2 rfl rfl rfl ?_
  refine i_istore_n (lv' := [(2, .int (0 : Int32)), (1, .int (0 : Int32)), (0, .ref (ad 3))]) (n := 4) C 3 rfl rfl rfl hl (by decide) rfl (fun ls hl => ?_)
  obtain ⟨n4, hw⟩ := hw
  refine e_Or_firstFault_4 C h hret (fun x1_4 ls hl hw => ?_) n4 (0 : Int32) (0 : Int32) ls (lv_sub hl [2, 1, 0] rfl) hw
  have hl : lv_has ls 3 [(0, .ref (ad 3)), (1, .int x1_4)] := hl
  refine i_iload_n (n := 38) C 22 rfl rfl rfl hl 1 rfl ?_
  refine i_bipush (v := (7 : Int32)) (n := 40) C 23 rfl rfl rfl ?_
  refine i_icmp_ne (tgt := 48) (n := 43) C 24 rfl rfl rfl (fun c5 => ?_) (fun c5 => ?_)
  · replace hw := hw.1 c5
    refine i_aload_n (n := 49) C 27 rfl rfl rfl hl 0 rfl ?_
    refine fgC_Or_26 (n := 52) C 28 rfl rfl h ?_
    exact hret _ _ _ rfl hw (C.dg (k := 29) rfl)
  · replace hw := hw.2 c5
    refine i_bipush (v := (-6 : Int32)) (n := 45) C 25 rfl rfl rfl ?_
    refine i_goto (tgt := 52) C 26 rfl rfl ?_
    exact hret _ _ _ rfl hw (C.dg (k := 29) rfl)
end S124
theorem kV_Pw_283 {R : Room} {s : State} {args : Array Value} (hR : 4 + 1 ≤ R.frames ∧ 8 + (3 + 11) + 84 ≤ R.locals) (ht : ∀ w ∈ GW, w.before args s = true) : CallW R s args R_Pw R_Or 283 y_Or_firstFault c_Or_firstFault 3 (some .int) (WL y_Or_firstFault c_Or_firstFault 3 (some .int)) { frames := 4, cells := 0, slots := 0, locals := 84 } 0 0 0 := cwV 0 ht (GW_v w_4_116 w_4_117 w_4_118 w_1_4 (GW_wl w_4_119)) rfl rfl rfl (by decide +kernel) hR
section S125
variable {p : Program} {l : Launch} {e : Env} {R : Room} {s : State} {m : MethodId} {args : Array Value} {below : List Frame} {meth : Method} {c : Code} {H : Heap} {locs : List Loc} {cells slots : Nat} {Q : State → Prop}
variable {cc : ByteArray} {pc n nL : Nat} {ls : Array Slot} {rest : List Value} {D : va_G} {cy : Nat → ClassId} {Z : Nat → Prop} {ad : Nat → Nat} {tb : List (Nat × Instr × Nat)} {lv : List (Nat × Value)}
set_option maxHeartbeats 4000000 in
set_option maxRecDepth 100000 in
theorem m_Pw_fault {l : Launch} {D : va_G} {cy : Nat → ClassId} {ad : Nat → Nat} {I : Nat → Int32} {A : Nat → Nat → Int32} {T : Nat → Option Nat} {L : List Nat} {K : Nat → Nat} {F : Nat → Nat → Int32}  {P : Int32 → Prop} (hw : g_Pw_fault I A P) : ∀ sz, Met l y_Pw_fault (WL y_Pw_fault c_Pw_fault 1 (some .int)) { frames := 5, cells := 0, slots := 0, locals := 106 } (va_Pc [.ref (ad 0)] (PreW D cy (wC cy ad I A T L K F) sz)) (vp_Si P) 0 0 (fun _ => False) := by
  refine met_p R_Pw .int db_Pw_fault (by decide) rfl rfl (Nat.le_of_ble_eq_true rfl) ?_
  intro p e s m below meth c Z Q ls C h hl hret
  have hl : lv_has ls 1 [(0, .ref (ad 0))] := hl
  refine i_aload_n (n := 1) C 0 rfl rfl rfl hl 0 rfl ?_
  refine fgC_Pw_24 (n := 4) C 1 rfl rfl h ?_
  refine i_callVp (rest := []) (ci := 6) (qc := (R_Or, T_Or, 6)) (n := 7) C 2 rfl rfl hl h rfl (wC_get (h := 3) (by decide)) (kV_Pw_283 ⟨by decide, by decide⟩) (m_Or_firstFault hw) rfl rfl (Nat.le_of_ble_eq_true rfl) ⟨by decide, by decide⟩ (fun r1 hw => ?_)
  exact hret _ _ _ rfl hw (C.dg (k := 3) rfl)
end S125
theorem kV_Or_33 {R : Room} {s : State} {args : Array Value} (hR : 4 + 1 ≤ R.frames ∧ 8 + (3 + 11) + 84 ≤ R.locals) (ht : ∀ w ∈ GW, w.before args s = true) : CallW R s args R_Or R_Or 33 y_Or_firstFault c_Or_firstFault 3 (some .int) (WL y_Or_firstFault c_Or_firstFault 3 (some .int)) { frames := 4, cells := 0, slots := 0, locals := 84 } 0 0 0 := cwV 0 ht (GW_v w_4_138 w_4_117 w_4_118 w_1_4 (GW_wl w_4_119)) rfl rfl rfl (by decide +kernel) hR
theorem kV_Or_43 {R : Room} {s : State} {args : Array Value} (hR : 0 + 1 ≤ R.frames ∧ 8 + (2 + 11) + 0 ≤ R.locals) (ht : ∀ w ∈ GW, w.before args s = true) : CallW R s args R_Or R_Or 43 y_Or_dropSigns c_Or_dropSigns 2 (some .int) (WL y_Or_dropSigns c_Or_dropSigns 2 (some .int)) { frames := 0, cells := 0, slots := 0, locals := 0 } 0 0 0 := cwV 0 ht (GW_v w_4_140 w_4_109 w_4_110 w_1_4 (GW_wl w_4_111)) rfl rfl rfl (by decide +kernel) hR
section S126
variable {p : Program} {l : Launch} {e : Env} {R : Room} {s : State} {m : MethodId} {args : Array Value} {below : List Frame} {meth : Method} {c : Code} {H : Heap} {locs : List Loc} {cells slots : Nat} {Q : State → Prop}
variable {cc : ByteArray} {pc n nL : Nat} {ls : Array Slot} {rest : List Value} {D : va_G} {cy : Nat → ClassId} {Z : Nat → Prop} {ad : Nat → Nat} {tb : List (Nat × Instr × Nat)} {lv : List (Nat × Value)}
set_option maxHeartbeats 4000000 in
set_option maxRecDepth 100000 in
theorem m_Or_addOrder {l : Launch} {D : va_G} {cy : Nat → ClassId} {ad : Nat → Nat} {I : Nat → Int32} {A : Nat → Nat → Int32} {T : Nat → Option Nat} {L : List Nat} {K : Nat → Nat} {F : Nat → Nat → Int32} {a1 : Int32} {P : Int32 → ((Nat → Int32) × (Nat → Nat → Int32)) → Prop} (hw : g_Or_addOrder I A a1 P) : ∀ sz, Met l y_Or_addOrder (WL y_Or_addOrder c_Or_addOrder 2 (some .int)) { frames := 5, cells := 0, slots := 0, locals := 106 } (va_Pc [.ref (ad 3), .int a1] (PreW D cy (wC cy ad I A T L K F) sz)) (va_Qi P (fun u t => PostW D (va_A (wC cy ad I A T L K F) sz) ((fun (u : (Nat → Int32) × (Nat → Nat → Int32)) => wC cy ad u.1 u.2 T L K F) u) t) (va_A (wC cy ad I A T L K F) sz)) 0 0 (va_A (wC cy ad I A T L K F) sz) := by
  refine met_i (wf := fun (u : (Nat → Int32) × (Nat → Nat → Int32)) => wC cy ad u.1 u.2 T L K F) R_Or .int db_Or_addOrder (by decide) rfl rfl (Nat.le_of_ble_eq_true rfl) ?_
  intro p e s m below meth c Z Q ls C h hl hret
  have hl : lv_has ls 2 [(0, .ref (ad 3)), (1, .int a1)] := hl
  refine i_aload_n (n := 1) C 0 rfl rfl rfl hl 0 rfl ?_
  refine fgC_Or_30 (n := 4) C 1 rfl rfl h ?_
  refine i_bipush (v := (6 : Int32)) (n := 6) C 2 rfl rfl rfl ?_
  refine i_icmp_lt (tgt := 12) (n := 9) C 3 rfl rfl rfl (fun c1 => ?_) (fun c1 => ?_)
  · replace hw := hw.1 c1
    refine i_aload_n (n := 13) C 6 rfl rfl rfl hl 0 rfl ?_
    refine i_callVp (rest := []) (ci := 6) (qc := (R_Or, T_Or, 6)) (n := 16) C 7 rfl rfl hl h rfl (wC_get (h := 3) (by decide)) (kV_Or_33 ⟨by decide, by decide⟩) (m_Or_firstFault hw) rfl rfl (Nat.le_of_ble_eq_true rfl) ⟨by decide, by decide⟩ (fun r2 hw => ?_)
    refine i_bipush (v := (-6 : Int32)) (n := 18) C 8 rfl rfl rfl ?_
    refine i_icmp_eq (tgt := 24) (n := 21) C 9 rfl rfl rfl (fun c3 => ?_) (fun c3 => ?_)
    · replace hw := hw.1 c3
      refine i_aload_n (n := 25) C 12 rfl rfl rfl hl 0 rfl ?_
      refine fgC_Or_11 (n := 28) C 13 rfl rfl h ?_
      refine i_iconst (v := (0 : Int32)) (n := 29) C 14 rfl rfl rfl ?_
      refine i_aload_n (n := 30) C 15 rfl rfl rfl hl 0 rfl ?_
      refine fgC_Or_17 (n := 33) C 16 rfl rfl h ?_
      refine i_aload_n (n := 34) C 17 rfl rfl rfl hl 0 rfl ?_
      refine fgC_Or_30 (n := 37) C 18 rfl rfl h ?_
      obtain ⟨hb, hw⟩ := hw
      refine i_aldA (n := 38) C 19 rfl rfl h (wC_get (h := 7) (by decide)) hb (if_pos (vp_in_lt hb)) ?_
      have hr4 := vp_in_lt hb
      refine i_iconst (v := (0 : Int32)) (n := 39) C 20 rfl rfl rfl ?_
      refine i_bipush (v := (40 : Int32)) (n := 41) C 21 rfl rfl rfl ?_
      refine i_acopy (n := 44) C 22 rfl rfl hl h w_4_139 (wC_arr 22 (by decide) rfl) (wC_row6 hr4) (by decide) (by decide) (by decide) (by decide) (by decide) (by decide) (Nat.le_of_ble_eq_true rfl) (wC_rowset6 hr4 _) (fun H locs h => ?_)
      refine i_aload_n (n := 45) C 23 rfl rfl rfl hl 0 rfl ?_
      refine fgC_Or_20 (n := 48) C 24 rfl rfl h ?_
      refine i_aload_n (n := 49) C 25 rfl rfl rfl hl 0 rfl ?_
      refine fgC_Or_30 (n := 52) C 26 rfl rfl h ?_
      refine i_aload_n (n := 53) C 27 rfl rfl rfl hl 0 rfl ?_
      refine i_callVi (rest := [.int (I 13), .ref (ad 31)]) (ci := 6) (qc := (R_Or, T_Or, 6)) (n := 56) C 28 rfl rfl hl h rfl (wC_get (h := 3) (by decide)) (kV_Or_43 ⟨by decide, by decide⟩) (m_Or_dropSigns hw) rfl rfl (Nat.le_of_ble_eq_true rfl) ⟨by decide, by decide⟩ (fun r5 u6 H locs hw h => ?_)
      obtain ⟨hb, hw⟩ := hw
      refine i_iast (n := 57) C 29 rfl rfl h (wC_arr 23 (by decide) rfl) hb (wC_sA 23 (by decide) rfl _ _) (fun H locs h => ?_)
      refine i_aload_n (n := 58) C 30 rfl rfl rfl hl 0 rfl ?_
      refine fgC_Or_23 (n := 61) C 31 rfl rfl h ?_
      refine i_aload_n (n := 62) C 32 rfl rfl rfl hl 0 rfl ?_
      refine fgC_Or_30 (n := 65) C 33 rfl rfl h ?_
      refine i_iload_n (n := 66) C 34 rfl rfl rfl hl 1 rfl ?_
      obtain ⟨hb, hw⟩ := hw
      refine i_iast (n := 67) C 35 rfl rfl h (wC_arr 24 (by decide) rfl) hb (wC_sA 24 (by decide) rfl _ _) (fun H locs h => ?_)
      refine i_aload_n (n := 68) C 36 rfl rfl rfl hl 0 rfl ?_
      refine i_dup (n := 69) C 37 rfl rfl rfl ?_
      refine fgC_Or_30 (n := 72) C 38 rfl rfl h ?_
      refine i_dup_x1 (n := 73) C 39 rfl rfl rfl rfl ?_
      refine i_iconst (v := (1 : Int32)) (n := 74) C 40 rfl rfl rfl ?_
      refine i_iadd (n := 75) C 41 rfl rfl ?_
      refine fpC_Or_30 (n := 78) C 42 rfl rfl h (fun H locs h => ?_)
      exact hret _ (va_up u6 13 ((u6 13) + (1 : Int32)), sA (sA (va_up A (35 + (I 13).toNatClampNeg) (va_cpy (A 22) (A (35 + (I 13).toNatClampNeg)) (0 : Int32).toNatClampNeg (0 : Int32).toNatClampNeg (40 : Int32).toNatClampNeg)) 23 (I 13) r5) 24 (u6 13) a1) _ _ _ _ rfl hw h (C.dg (k := 43) rfl)
    · replace hw := hw.2 c3
      refine i_bipush (v := (-5 : Int32)) (n := 23) C 10 rfl rfl rfl ?_
      exact hret _ (I, A) _ _ _ _ rfl hw h (C.dg (k := 11) rfl)
  · replace hw := hw.2 c1
    refine i_bipush (v := (-4 : Int32)) (n := 11) C 4 rfl rfl rfl ?_
    exact hret _ (I, A) _ _ _ _ rfl hw h (C.dg (k := 5) rfl)
end S126
theorem kV_Pw_286 {R : Room} {s : State} {args : Array Value} (hR : 5 + 1 ≤ R.frames ∧ 8 + (2 + 11) + 106 ≤ R.locals) (ht : ∀ w ∈ GW, w.before args s = true) : CallW R s args R_Pw R_Or 286 y_Or_addOrder c_Or_addOrder 2 (some .int) (WL y_Or_addOrder c_Or_addOrder 2 (some .int)) { frames := 5, cells := 0, slots := 0, locals := 106 } 0 0 1 := cwV 1 ht (GW_v w_4_134 w_4_135 w_4_136 w_1_4 (GW_wl w_4_137)) rfl rfl rfl (by decide +kernel) hR
section S127
variable {p : Program} {l : Launch} {e : Env} {R : Room} {s : State} {m : MethodId} {args : Array Value} {below : List Frame} {meth : Method} {c : Code} {H : Heap} {locs : List Loc} {cells slots : Nat} {Q : State → Prop}
variable {cc : ByteArray} {pc n nL : Nat} {ls : Array Slot} {rest : List Value} {D : va_G} {cy : Nat → ClassId} {Z : Nat → Prop} {ad : Nat → Nat} {tb : List (Nat × Instr × Nat)} {lv : List (Nat × Value)}
set_option maxHeartbeats 4000000 in
set_option maxRecDepth 100000 in
theorem m_Pw_order {l : Launch} {D : va_G} {cy : Nat → ClassId} {ad : Nat → Nat} {I : Nat → Int32} {A : Nat → Nat → Int32} {T : Nat → Option Nat} {L : List Nat} {K : Nat → Nat} {F : Nat → Nat → Int32} {a1 : Int32} {P : Int32 → ((Nat → Int32) × (Nat → Nat → Int32)) → Prop} (hw : g_Pw_order I A a1 P) : ∀ sz, Met l y_Pw_order (WL y_Pw_order c_Pw_order 2 (some .int)) { frames := 6, cells := 0, slots := 0, locals := 127 } (va_Pc [.ref (ad 0), .int a1] (PreW D cy (wC cy ad I A T L K F) sz)) (va_Qi P (fun u t => PostW D (va_A (wC cy ad I A T L K F) sz) ((fun (u : (Nat → Int32) × (Nat → Nat → Int32)) => wC cy ad u.1 u.2 T L K F) u) t) (va_A (wC cy ad I A T L K F) sz)) 0 0 (va_A (wC cy ad I A T L K F) sz) := by
  refine met_i (wf := fun (u : (Nat → Int32) × (Nat → Nat → Int32)) => wC cy ad u.1 u.2 T L K F) R_Pw .int db_Pw_order (by decide) rfl rfl (Nat.le_of_ble_eq_true rfl) ?_
  intro p e s m below meth c Z Q ls C h hl hret
  have hl : lv_has ls 2 [(0, .ref (ad 0)), (1, .int a1)] := hl
  refine i_iload_n (n := 1) C 0 rfl rfl rfl hl 1 rfl ?_
  refine i_iconst (v := (0 : Int32)) (n := 2) C 1 rfl rfl rfl ?_
  refine i_sipush (v := (400 : Int32)) (n := 5) C 2 rfl rfl rfl ?_
  refine i_callSp (rest := []) (n := 8) C 3 rfl rfl hl h (kS_Pw_69 ⟨by decide, by decide⟩) (m_Pw_isWithin hw) rfl rfl (Nat.le_of_ble_eq_true rfl) ⟨by decide, by decide⟩ (fun r1 hw => ?_)
  refine i_if_eq (tgt := 22) (n := 11) C 4 rfl rfl rfl (fun c2 => ?_) (fun c2 => ?_)
  · replace hw := hw.1 c2
    refine i_bipush (v := (-2 : Int32)) (n := 24) C 10 rfl rfl rfl ?_
    exact hret _ (I, A) _ _ _ _ rfl hw h (C.dg (k := 11) rfl)
  · replace hw := hw.2 c2
    refine i_aload_n (n := 12) C 5 rfl rfl rfl hl 0 rfl ?_
    refine fgC_Pw_24 (n := 15) C 6 rfl rfl h ?_
    refine i_iload_n (n := 16) C 7 rfl rfl rfl hl 1 rfl ?_
    refine i_callVi (rest := []) (ci := 6) (qc := (R_Or, T_Or, 6)) (n := 19) C 8 rfl rfl hl h rfl (wC_get (h := 3) (by decide)) (kV_Pw_286 ⟨by decide, by decide⟩) (m_Or_addOrder hw) rfl rfl (Nat.le_of_ble_eq_true rfl) ⟨by decide, by decide⟩ (fun r3 u4 H locs hw h => ?_)
    refine i_goto (tgt := 24) C 9 rfl rfl ?_
    exact hret _ (u4.1, u4.2) _ _ _ _ rfl hw h (C.dg (k := 11) rfl)
end S127
section S128
variable {p : Program} {l : Launch} {e : Env} {R : Room} {s : State} {m : MethodId} {args : Array Value} {below : List Frame} {meth : Method} {c : Code} {H : Heap} {locs : List Loc} {cells slots : Nat} {Q : State → Prop}
variable {cc : ByteArray} {pc n nL : Nat} {ls : Array Slot} {rest : List Value} {D : va_G} {cy : Nat → ClassId} {Z : Nat → Prop} {ad : Nat → Nat} {tb : List (Nat × Instr × Nat)} {lv : List (Nat × Value)}
set_option maxHeartbeats 4000000 in
set_option maxRecDepth 100000 in
theorem e_Or_inForce_46 {I : Nat → Int32} {A : Nat → Nat → Int32} {T : Nat → Option Nat} {L : List Nat} {K : Nat → Nat} {F : Nat → Nat → Int32} {a1 : Int32} {P : Int32 → Prop} {kb5 : Int32 → Int32 → Prop} (C : CX D cy R_Or c_Or_inForce tb_Or_inForce 4 p s m args c Z) (h : HXw D Z s.heap H locs (wC cy ad I A T L K F)) (hret : RetP p l e { frames := 0, cells := 0, slots := 0, locals := 0 } s m args below meth c c_Or_inForce .int H locs Q P)
    (hb5 : ∀ (x2 : Int32) (x3 : Int32) (ls : Array Slot), lv_has ls 4 [(0, .ref (ad 3)), (1, .int a1), (2, .int x2), (3, .int x3)] → kb5 x2 x3 → W p l e { frames := 0, cells := 0, slots := 0, locals := 0 } s m args below meth c H locs 0 0 Q (F0 m 5 ls [])) :
    ∀ (x2 : Int32) (x3 : Int32) (ls : Array Slot), lv_has ls 4 [(0, .ref (ad 3)), (1, .int a1), (2, .int x2), (3, .int x3)] → g_Or_inForce_46 I A a1 P kb5 x2 x3 → W p l e { frames := 0, cells := 0, slots := 0, locals := 0 } s m args below meth c H locs 0 0 Q (F0 m 46 ls []) := by
  intro x2 x3 ls hl hw
  refine i_iinc (v := x3 + (1 : Int32)) (lv' := [(3, .int (x3 + (1 : Int32))), (0, .ref (ad 3)), (1, .int a1), (2, .int x2)]) (n := 49) C 28 rfl rfl hl 3 rfl rfl (by decide) rfl (fun ls hl => ?_)
  refine i_goto (tgt := 5) C 29 rfl rfl ?_
  exact hb5 x2 (x3 + (1 : Int32)) ls (lv_sub hl [1, 2, 3, 0] rfl) hw
set_option maxHeartbeats 4000000 in
set_option maxRecDepth 100000 in
theorem e_Or_inForce_44 {I : Nat → Int32} {A : Nat → Nat → Int32} {T : Nat → Option Nat} {L : List Nat} {K : Nat → Nat} {F : Nat → Nat → Int32} {a1 : Int32} {P : Int32 → Prop} {kb5 : Int32 → Int32 → Prop} (C : CX D cy R_Or c_Or_inForce tb_Or_inForce 4 p s m args c Z) (h : HXw D Z s.heap H locs (wC cy ad I A T L K F)) (hret : RetP p l e { frames := 0, cells := 0, slots := 0, locals := 0 } s m args below meth c c_Or_inForce .int H locs Q P)
    (hb5 : ∀ (x2 : Int32) (x3 : Int32) (ls : Array Slot), lv_has ls 4 [(0, .ref (ad 3)), (1, .int a1), (2, .int x2), (3, .int x3)] → kb5 x2 x3 → W p l e { frames := 0, cells := 0, slots := 0, locals := 0 } s m args below meth c H locs 0 0 Q (F0 m 5 ls [])) :
    ∀ (x3 : Int32) (ls : Array Slot), lv_has ls 4 [(0, .ref (ad 3)), (1, .int a1), (3, .int x3)] → g_Or_inForce_44 I A a1 P kb5 x3 → W p l e { frames := 0, cells := 0, slots := 0, locals := 0 } s m args below meth c H locs 0 0 Q (F0 m 44 ls []) := by
  intro x3 ls hl hw
  refine i_iload_n (n := 45) C 26 rfl rfl rfl hl 2 rfl ?_
  refine i_istore_n (lv' := [(2, .int x3), (0, .ref (ad 3)), (1, .int a1), (3, .int x3)]) (n := 46) C 27 rfl rfl rfl hl (by decide) rfl (fun ls hl => ?_)
  exact e_Or_inForce_46 C h hret hb5 x3 x3 ls (lv_sub hl [1, 2, 0, 3] rfl) hw
set_option maxHeartbeats 4000000 in
set_option maxRecDepth 100000 in
theorem e_Or_inForce_5 {I : Nat → Int32} {A : Nat → Nat → Int32} {T : Nat → Option Nat} {L : List Nat} {K : Nat → Nat} {F : Nat → Nat → Int32} {a1 : Int32} {P : Int32 → Prop} {kx5 : Int32 → Prop} (C : CX D cy R_Or c_Or_inForce tb_Or_inForce 4 p s m args c Z) (h : HXw D Z s.heap H locs (wC cy ad I A T L K F)) (hret : RetP p l e { frames := 0, cells := 0, slots := 0, locals := 0 } s m args below meth c c_Or_inForce .int H locs Q P)
    (hx5 : ∀ (x2 : Int32) (ls : Array Slot), lv_has ls 4 [(2, .int x2)] → kx5 x2 → W p l e { frames := 0, cells := 0, slots := 0, locals := 0 } s m args below meth c H locs 0 0 Q (F0 m 52 ls [])) :
    ∀ (n : Nat) (x2 : Int32) (x3 : Int32) (ls : Array Slot), lv_has ls 4 [(0, .ref (ad 3)), (1, .int a1), (2, .int x2), (3, .int x3)] → g_Or_inForce_5 I A a1 P kx5 n x2 x3 → W p l e { frames := 0, cells := 0, slots := 0, locals := 0 } s m args below meth c H locs 0 0 Q (F0 m 5 ls []) := by
  intro n
  induction n with
  | zero => intro x2 x3 ls hl hw; exact hw.elim
  | succ n ih =>
    intro x2 x3 ls hl hw
    refine i_iload_n (n := 6) C 4 rfl rfl rfl hl 3 rfl ?_
    refine i_aload_n (n := 7) C 5 rfl rfl rfl hl 0 rfl ?_
    refine fgC_Or_30 (n := 10) C 6 rfl rfl h ?_
    refine i_icmp_ge (tgt := 52) (n := 13) C 7 rfl rfl rfl (fun c1 => ?_) (fun c1 => ?_)
    · replace hw := hw.1 c1
      exact hx5 x2 ls (lv_sub hl [2] rfl) hw
    · replace hw := hw.2 c1
      refine i_aload_n (n := 14) C 8 rfl rfl rfl hl 0 rfl ?_
      refine fgC_Or_23 (n := 17) C 9 rfl rfl h ?_
      refine i_iload_n (n := 18) C 10 rfl rfl rfl hl 3 rfl ?_
      obtain ⟨hb, hw⟩ := hw
      refine i_iald (n := 19) C 11 rfl rfl h (wC_arr 24 (by decide) rfl) hb ?_
      refine i_iload_n (n := 20) C 12 rfl rfl rfl hl 1 rfl ?_
      refine i_icmp_gt (tgt := 46) (n := 23) C 13 rfl rfl rfl (fun c2 => ?_) (fun c2 => ?_)
      · replace hw := hw.1 c2
        exact e_Or_inForce_46 C h hret ih x2 x3 ls hl hw
      · replace hw := hw.2 c2
        refine i_iload_n (n := 24) C 14 rfl rfl rfl hl 2 rfl ?_
        refine i_bipush (v := (-6 : Int32)) (n := 26) C 15 rfl rfl rfl ?_
        refine i_icmp_eq (tgt := 44) (n := 29) C 16 rfl rfl rfl (fun c3 => ?_) (fun c3 => ?_)
        · replace hw := hw.1 c3
          exact e_Or_inForce_44 C h hret ih x3 ls (lv_sub hl [0, 1, 3] rfl) hw
        · replace hw := hw.2 c3
          refine i_aload_n (n := 30) C 17 rfl rfl rfl hl 0 rfl ?_
          refine fgC_Or_23 (n := 33) C 18 rfl rfl h ?_
          refine i_iload_n (n := 34) C 19 rfl rfl rfl hl 3 rfl ?_
          obtain ⟨hb, hw⟩ := hw
          refine i_iald (n := 35) C 20 rfl rfl h (wC_arr 24 (by decide) rfl) hb ?_
          refine i_aload_n (n := 36) C 21 rfl rfl rfl hl 0 rfl ?_
          refine fgC_Or_23 (n := 39) C 22 rfl rfl h ?_
          refine i_iload_n (n := 40) C 23 rfl rfl rfl hl 2 rfl ?_
          obtain ⟨hb, hw⟩ := hw
          refine i_iald (n := 41) C 24 rfl rfl h (wC_arr 24 (by decide) rfl) hb ?_
          refine i_icmp_lt (tgt := 46) (n := 44) C 25 rfl rfl rfl (fun c4 => ?_) (fun c4 => ?_)
          · replace hw := hw.1 c4
            exact e_Or_inForce_46 C h hret ih x2 x3 ls hl hw
          · replace hw := hw.2 c4
            exact e_Or_inForce_44 C h hret ih x3 ls (lv_sub hl [0, 1, 3] rfl) hw
set_option maxHeartbeats 4000000 in
set_option maxRecDepth 100000 in
theorem m_Or_inForce {l : Launch} {D : va_G} {cy : Nat → ClassId} {ad : Nat → Nat} {I : Nat → Int32} {A : Nat → Nat → Int32} {T : Nat → Option Nat} {L : List Nat} {K : Nat → Nat} {F : Nat → Nat → Int32} {a1 : Int32} {P : Int32 → Prop} (hw : g_Or_inForce I A a1 P) : ∀ sz, Met l y_Or_inForce (WL y_Or_inForce c_Or_inForce 4 (some .int)) { frames := 0, cells := 0, slots := 0, locals := 0 } (va_Pc [.ref (ad 3), .int a1] (PreW D cy (wC cy ad I A T L K F) sz)) (vp_Si P) 0 0 (fun _ => False) := by
  refine met_p R_Or .int db_Or_inForce (by decide) rfl rfl (Nat.le_of_ble_eq_true rfl) ?_
  intro p e s m below meth c Z Q ls C h hl hret
  have hl : lv_has ls 4 [(0, .ref (ad 3)), (1, .int a1)] := hl
  refine i_bipush (v := (-6 : Int32)) (n := 2) C 0 rfl rfl rfl ?_
  refine i_istore_n (lv' := [(2, .int (-6 : Int32)), (0, .ref (ad 3)), (1, .int a1)]) (n := 3) C 1 rfl rfl rfl hl (by decide) rfl (fun ls hl => ?_)
  refine i_iconst (v := (0 : Int32)) (n := 4) C 2 rfl rfl rfl ?_
  refine i_istore_n (lv' := [(3, .int (0 : Int32)), (2, .int (-6 : Int32)), (0, .ref (ad 3)), (1, .int a1)]) (n := 5) C 3 rfl rfl rfl hl (by decide) rfl (fun ls hl => ?_)
  obtain ⟨n5, hw⟩ := hw
  refine e_Or_inForce_5 C h hret (fun x2_5 ls hl hw => ?_) n5 (-6 : Int32) (0 : Int32) ls (lv_sub hl [2, 3, 1, 0] rfl) hw
  have hl : lv_has ls 4 [(2, .int x2_5)] := hl
  refine i_iload_n (n := 53) C 30 rfl rfl rfl hl 0 rfl ?_
  exact hret _ _ _ rfl hw (C.dg (k := 31) rfl)
end S128
section S129
variable {p : Program} {l : Launch} {e : Env} {R : Room} {s : State} {m : MethodId} {args : Array Value} {below : List Frame} {meth : Method} {c : Code} {H : Heap} {locs : List Loc} {cells slots : Nat} {Q : State → Prop}
variable {cc : ByteArray} {pc n nL : Nat} {ls : Array Slot} {rest : List Value} {D : va_G} {cy : Nat → ClassId} {Z : Nat → Prop} {ad : Nat → Nat} {tb : List (Nat × Instr × Nat)} {lv : List (Nat × Value)}
set_option maxHeartbeats 4000000 in
set_option maxRecDepth 100000 in
theorem m_Or_hasOrder {l : Launch} {D : va_G} {cy : Nat → ClassId} {ad : Nat → Nat} {I : Nat → Int32} {A : Nat → Nat → Int32} {T : Nat → Option Nat} {L : List Nat} {K : Nat → Nat} {F : Nat → Nat → Int32} {a1 : Int32} {P : Int32 → Prop} (hw : g_Or_hasOrder I a1 P) : ∀ sz, Met l y_Or_hasOrder (WL y_Or_hasOrder c_Or_hasOrder 2 (some .boolean)) { frames := 0, cells := 0, slots := 0, locals := 0 } (va_Pc [.ref (ad 3), .int a1] (PreW D cy (wC cy ad I A T L K F) sz)) (vp_Si P) 0 0 (fun _ => False) := by
  refine met_p R_Or .boolean db_Or_hasOrder (by decide) rfl rfl (Nat.le_of_ble_eq_true rfl) ?_
  intro p e s m below meth c Z Q ls C h hl hret
  have hl : lv_has ls 2 [(0, .ref (ad 3)), (1, .int a1)] := hl
  refine i_iload_n (n := 1) C 0 rfl rfl rfl hl 1 rfl ?_
  refine i_if_lt (tgt := 16) (n := 4) C 1 rfl rfl rfl (fun c1 => ?_) (fun c1 => ?_)
  · replace hw := hw.1 c1
    refine i_iconst (v := (0 : Int32)) (n := 17) C 8 rfl rfl rfl ?_
    exact hret _ _ _ rfl hw (C.dg (k := 9) rfl)
  · replace hw := hw.2 c1
    refine i_iload_n (n := 5) C 2 rfl rfl rfl hl 1 rfl ?_
    refine i_aload_n (n := 6) C 3 rfl rfl rfl hl 0 rfl ?_
    refine fgC_Or_30 (n := 9) C 4 rfl rfl h ?_
    refine i_icmp_ge (tgt := 16) (n := 12) C 5 rfl rfl rfl (fun c2 => ?_) (fun c2 => ?_)
    · replace hw := hw.1 c2
      refine i_iconst (v := (0 : Int32)) (n := 17) C 8 rfl rfl rfl ?_
      exact hret _ _ _ rfl hw (C.dg (k := 9) rfl)
    · replace hw := hw.2 c2
      refine i_iconst (v := (1 : Int32)) (n := 13) C 6 rfl rfl rfl ?_
      refine i_goto (tgt := 17) C 7 rfl rfl ?_
      exact hret _ _ _ rfl hw (C.dg (k := 9) rfl)
end S129
theorem kV_Or_61 {R : Room} {s : State} {args : Array Value} (hR : 0 + 1 ≤ R.frames ∧ 8 + (2 + 11) + 0 ≤ R.locals) (ht : ∀ w ∈ GW, w.before args s = true) : CallW R s args R_Or R_Or 61 y_Or_hasOrder c_Or_hasOrder 2 (some .boolean) (WL y_Or_hasOrder c_Or_hasOrder 2 (some .boolean)) { frames := 0, cells := 0, slots := 0, locals := 0 } 0 0 1 := cwV 1 ht (GW_v w_4_157 w_4_158 w_4_159 w_1_4 (GW_wl w_4_160)) rfl rfl rfl (by decide +kernel) hR
section S130
variable {p : Program} {l : Launch} {e : Env} {R : Room} {s : State} {m : MethodId} {args : Array Value} {below : List Frame} {meth : Method} {c : Code} {H : Heap} {locs : List Loc} {cells slots : Nat} {Q : State → Prop}
variable {cc : ByteArray} {pc n nL : Nat} {ls : Array Slot} {rest : List Value} {D : va_G} {cy : Nat → ClassId} {Z : Nat → Prop} {ad : Nat → Nat} {tb : List (Nat × Instr × Nat)} {lv : List (Nat × Value)}
set_option maxHeartbeats 4000000 in
set_option maxRecDepth 100000 in
theorem m_Or_signOf {l : Launch} {D : va_G} {cy : Nat → ClassId} {ad : Nat → Nat} {I : Nat → Int32} {A : Nat → Nat → Int32} {T : Nat → Option Nat} {L : List Nat} {K : Nat → Nat} {F : Nat → Nat → Int32} {a1 : Int32} {a2 : Int32} {P : Int32 → Prop} (hw : g_Or_signOf I A a1 a2 P) : ∀ sz, Met l y_Or_signOf (WL y_Or_signOf c_Or_signOf 3 (some .int)) { frames := 1, cells := 0, slots := 0, locals := 21 } (va_Pc [.ref (ad 3), .int a1, .int a2] (PreW D cy (wC cy ad I A T L K F) sz)) (vp_Si P) 0 0 (fun _ => False) := by
  refine met_p R_Or .int db_Or_signOf (by decide) rfl rfl (Nat.le_of_ble_eq_true rfl) ?_
  intro p e s m below meth c Z Q ls C h hl hret
  have hl : lv_has ls 3 [(0, .ref (ad 3)), (1, .int a1), (2, .int a2)] := hl
  refine i_aload_n (n := 1) C 0 rfl rfl rfl hl 0 rfl ?_
  refine i_iload_n (n := 2) C 1 rfl rfl rfl hl 1 rfl ?_
  refine i_callVp (rest := []) (ci := 6) (qc := (R_Or, T_Or, 6)) (n := 5) C 2 rfl rfl hl h rfl (wC_get (h := 3) (by decide)) (kV_Or_61 ⟨by decide, by decide⟩) (m_Or_hasOrder hw) rfl rfl (Nat.le_of_ble_eq_true rfl) ⟨by decide, by decide⟩ (fun r1 hw => ?_)
  refine i_if_eq (tgt := 33) (n := 8) C 3 rfl rfl rfl (fun c2 => ?_) (fun c2 => ?_)
  · replace hw := hw.1 c2
    refine i_iconst (v := (0 : Int32)) (n := 34) C 19 rfl rfl rfl ?_
    exact hret _ _ _ rfl hw (C.dg (k := 20) rfl)
  · replace hw := hw.2 c2
    refine i_iload_n (n := 9) C 4 rfl rfl rfl hl 2 rfl ?_
    refine i_if_lt (tgt := 33) (n := 12) C 5 rfl rfl rfl (fun c3 => ?_) (fun c3 => ?_)
    · replace hw := hw.1 c3
      refine i_iconst (v := (0 : Int32)) (n := 34) C 19 rfl rfl rfl ?_
      exact hret _ _ _ rfl hw (C.dg (k := 20) rfl)
    · replace hw := hw.2 c3
      refine i_iload_n (n := 13) C 6 rfl rfl rfl hl 2 rfl ?_
      refine i_aload_n (n := 14) C 7 rfl rfl rfl hl 0 rfl ?_
      refine fgC_Or_20 (n := 17) C 8 rfl rfl h ?_
      refine i_iload_n (n := 18) C 9 rfl rfl rfl hl 1 rfl ?_
      obtain ⟨hb, hw⟩ := hw
      refine i_iald (n := 19) C 10 rfl rfl h (wC_arr 23 (by decide) rfl) hb ?_
      refine i_icmp_ge (tgt := 33) (n := 22) C 11 rfl rfl rfl (fun c4 => ?_) (fun c4 => ?_)
      · replace hw := hw.1 c4
        refine i_iconst (v := (0 : Int32)) (n := 34) C 19 rfl rfl rfl ?_
        exact hret _ _ _ rfl hw (C.dg (k := 20) rfl)
      · replace hw := hw.2 c4
        refine i_aload_n (n := 23) C 12 rfl rfl rfl hl 0 rfl ?_
        refine fgC_Or_17 (n := 26) C 13 rfl rfl h ?_
        refine i_iload_n (n := 27) C 14 rfl rfl rfl hl 1 rfl ?_
        obtain ⟨hb, hw⟩ := hw
        refine i_aldA (n := 28) C 15 rfl rfl h (wC_get (h := 7) (by decide)) hb (if_pos (vp_in_lt hb)) ?_
        have hr5 := vp_in_lt hb
        refine i_iload_n (n := 29) C 16 rfl rfl rfl hl 2 rfl ?_
        obtain ⟨hb, hw⟩ := hw
        refine i_iald (n := 30) C 17 rfl rfl h (wC_row6 hr5) hb ?_
        refine i_goto (tgt := 34) C 18 rfl rfl ?_
        exact hret _ _ _ rfl hw (C.dg (k := 20) rfl)
end S130
theorem kV_Or_68 {R : Room} {s : State} {args : Array Value} (hR : 1 + 1 ≤ R.frames ∧ 8 + (3 + 11) + 21 ≤ R.locals) (ht : ∀ w ∈ GW, w.before args s = true) : CallW R s args R_Or R_Or 68 y_Or_signOf c_Or_signOf 3 (some .int) (WL y_Or_signOf c_Or_signOf 3 (some .int)) { frames := 1, cells := 0, slots := 0, locals := 21 } 0 0 2 := cwV 2 ht (GW_v w_4_165 w_4_166 w_4_167 w_1_4 (GW_wl w_4_168)) rfl rfl rfl (by decide +kernel) hR
section S131
variable {p : Program} {l : Launch} {e : Env} {R : Room} {s : State} {m : MethodId} {args : Array Value} {below : List Frame} {meth : Method} {c : Code} {H : Heap} {locs : List Loc} {cells slots : Nat} {Q : State → Prop}
variable {cc : ByteArray} {pc n nL : Nat} {ls : Array Slot} {rest : List Value} {D : va_G} {cy : Nat → ClassId} {Z : Nat → Prop} {ad : Nat → Nat} {tb : List (Nat × Instr × Nat)} {lv : List (Nat × Value)}
set_option maxHeartbeats 4000000 in
set_option maxRecDepth 100000 in
theorem m_Or_valueFor {l : Launch} {D : va_G} {cy : Nat → ClassId} {ad : Nat → Nat} {I : Nat → Int32} {A : Nat → Nat → Int32} {T : Nat → Option Nat} {L : List Nat} {K : Nat → Nat} {F : Nat → Nat → Int32} {a1 : Int32} {a2 : Int32} {k3 : Nat} {k4 : Nat} {a5 : Int32} {P : Int32 → Prop} (hk3 : k3 < 41 ∧ tyC k3 = 0) (hk4 : k4 < 41 ∧ tyC k4 = 0) (hw : g_Or_valueFor I A a1 a2 k3 k4 a5 P) : ∀ sz, Met l y_Or_valueFor (WL y_Or_valueFor c_Or_valueFor 8 (some .int)) { frames := 2, cells := 0, slots := 0, locals := 43 } (va_Pc [.ref (ad 3), .int a1, .int a2, .ref (ad (k3 + 8)), .ref (ad (k4 + 8)), .int a5] (PreW D cy (wC cy ad I A T L K F) sz)) (vp_Si P) 0 0 (fun _ => False) := by
  refine met_p R_Or .int db_Or_valueFor (by decide) rfl rfl (Nat.le_of_ble_eq_true rfl) ?_
  intro p e s m below meth c Z Q ls C h hl hret
  have hl : lv_has ls 8 [(0, .ref (ad 3)), (1, .int a1), (2, .int a2), (3, .ref (ad (k3 + 8))), (4, .ref (ad (k4 + 8))), (5, .int a5)] := hl
  refine i_aload_n (n := 1) C 0 rfl rfl rfl hl 0 rfl ?_
  refine i_iload_n (n := 2) C 1 rfl rfl rfl hl 1 rfl ?_
  refine i_iload_n (n := 3) C 2 rfl rfl rfl hl 2 rfl ?_
  refine i_callVp (rest := []) (ci := 6) (qc := (R_Or, T_Or, 6)) (n := 6) C 3 rfl rfl hl h rfl (wC_get (h := 3) (by decide)) (kV_Or_68 ⟨by decide, by decide⟩) (m_Or_signOf hw) rfl rfl (Nat.le_of_ble_eq_true rfl) ⟨by decide, by decide⟩ (fun r1 hw => ?_)
  refine i_istore (lv' := [(6, .int r1), (0, .ref (ad 3)), (1, .int a1), (2, .int a2), (3, .ref (ad (k3 + 8))), (4, .ref (ad (k4 + 8))), (5, .int a5)]) (n := 8) C 4 rfl rfl hl (by decide) rfl (fun ls hl => ?_)
  refine i_aload_n (n := 9) C 5 rfl rfl rfl hl 1 rfl ?_
  refine i_iload_n (n := 10) C 6 rfl rfl rfl hl 2 rfl ?_
  refine i_iload_n (n := 11) C 7 rfl rfl rfl hl 3 rfl ?_
  refine i_iconst (v := (1 : Int32)) (n := 12) C 8 rfl rfl rfl ?_
  refine i_iadd (n := 13) C 9 rfl rfl ?_
  refine i_callVp (rest := []) (ci := 6) (qc := (R_Or, T_Or, 6)) (n := 16) C 10 rfl rfl hl h rfl (wC_get (h := 3) (by decide)) (kV_Or_68 ⟨by decide, by decide⟩) (m_Or_signOf hw) rfl rfl (Nat.le_of_ble_eq_true rfl) ⟨by decide, by decide⟩ (fun r2 hw => ?_)
  refine i_bipush (v := (97 : Int32)) (n := 18) C 11 rfl rfl rfl ?_
  refine i_isub (n := 19) C 12 rfl rfl ?_
  refine lv_topi (fun y3 ey3 => ?_)
  replace hw := hw y3 ey3
  refine i_istore (lv' := [(7, .int y3), (6, .int r1), (0, .ref (ad 3)), (1, .int a1), (2, .int a2), (3, .ref (ad (k3 + 8))), (4, .ref (ad (k4 + 8))), (5, .int a5)]) (n := 21) C 13 rfl rfl hl (by decide) rfl (fun ls hl => ?_)
  refine i_iload (n := 23) C 14 rfl rfl hl 1 rfl ?_
  refine i_bipush (v := (109 : Int32)) (n := 25) C 15 rfl rfl rfl ?_
  refine i_icmp_ne (tgt := 31) (n := 28) C 16 rfl rfl rfl (fun c4 => ?_) (fun c4 => ?_)
  · replace hw := hw.1 c4
    refine i_iload (n := 33) C 19 rfl rfl hl 0 rfl ?_
    refine i_if_lt (tgt := 43) (n := 36) C 20 rfl rfl rfl (fun c5 => ?_) (fun c5 => ?_)
    · replace hw := hw.1 c5
      refine i_iconst (v := (0 : Int32)) (n := 44) C 24 rfl rfl rfl ?_
      exact hret _ _ _ rfl hw (C.dg (k := 25) rfl)
    · replace hw := hw.2 c5
      refine i_iload (n := 38) C 21 rfl rfl hl 0 rfl ?_
      refine i_bipush (v := (12 : Int32)) (n := 40) C 22 rfl rfl rfl ?_
      refine i_icmp_lt (tgt := 45) (n := 43) C 23 rfl rfl rfl (fun c6 => ?_) (fun c6 => ?_)
      · replace hw := hw.1 c6
        refine i_iload (n := 47) C 26 rfl rfl hl 1 rfl ?_
        refine i_bipush (v := (103 : Int32)) (n := 49) C 27 rfl rfl rfl ?_
        refine i_icmp_ne (tgt := 59) (n := 52) C 28 rfl rfl rfl (fun c7 => ?_) (fun c7 => ?_)
        · replace hw := hw.1 c7
          refine i_aload (n := 61) C 33 rfl rfl hl 6 rfl ?_
          refine i_iload (n := 63) C 34 rfl rfl hl 0 rfl ?_
          obtain ⟨hb, hw⟩ := hw
          refine i_iald (n := 64) C 35 rfl rfl h (wC_arrI k4 hk4.1 hk4.2) hb ?_
          exact hret _ _ _ rfl hw (C.dg (k := 36) rfl)
        · replace hw := hw.2 c7
          refine i_aload_n (n := 53) C 29 rfl rfl rfl hl 5 rfl ?_
          refine i_iload (n := 55) C 30 rfl rfl hl 0 rfl ?_
          obtain ⟨hb, hw⟩ := hw
          refine i_iald (n := 56) C 31 rfl rfl h (wC_arrI k3 hk3.1 hk3.2) hb ?_
          refine i_goto (tgt := 64) C 32 rfl rfl ?_
          exact hret _ _ _ rfl hw (C.dg (k := 36) rfl)
      · replace hw := hw.2 c6
        refine i_iconst (v := (0 : Int32)) (n := 44) C 24 rfl rfl rfl ?_
        exact hret _ _ _ rfl hw (C.dg (k := 25) rfl)
  · replace hw := hw.2 c4
    refine i_iload (n := 30) C 17 rfl rfl hl 7 rfl ?_
    exact hret _ _ _ rfl hw (C.dg (k := 18) rfl)
end S131
section S132
variable {p : Program} {l : Launch} {e : Env} {R : Room} {s : State} {m : MethodId} {args : Array Value} {below : List Frame} {meth : Method} {c : Code} {H : Heap} {locs : List Loc} {cells slots : Nat} {Q : State → Prop}
variable {cc : ByteArray} {pc n nL : Nat} {ls : Array Slot} {rest : List Value} {D : va_G} {cy : Nat → ClassId} {Z : Nat → Prop} {ad : Nat → Nat} {tb : List (Nat × Instr × Nat)} {lv : List (Nat × Value)}
set_option maxHeartbeats 4000000 in
set_option maxRecDepth 100000 in
theorem e_Or_isTestSo_6 {I : Nat → Int32} {A : Nat → Nat → Int32} {T : Nat → Option Nat} {L : List Nat} {K : Nat → Nat} {F : Nat → Nat → Int32} {a1 : Int32} {a2 : Int32} {a3 : Int32} {P : Int32 → Prop} {kx6 : Int32 → Prop} (C : CX D cy R_Or c_Or_isTestSo tb_Or_isTestSo 6 p s m args c Z) (h : HXw D Z s.heap H locs (wC cy ad I A T L K F)) (hret : RetP p l e { frames := 2, cells := 0, slots := 0, locals := 43 } s m args below meth c c_Or_isTestSo .boolean H locs Q P)
    (hx6 : ∀ (x4 : Int32) (ls : Array Slot), lv_has ls 6 [(0, .ref (ad 3)), (1, .int a1), (2, .int a2), (3, .int a3), (4, .int x4)] → kx6 x4 → W p l e { frames := 2, cells := 0, slots := 0, locals := 43 } s m args below meth c H locs 0 0 Q (F0 m 53 ls [])) :
    ∀ (n : Nat) (x4 : Int32) (x5 : Int32) (ls : Array Slot), lv_has ls 6 [(0, .ref (ad 3)), (1, .int a1), (2, .int a2), (3, .int a3), (4, .int x4), (5, .int x5)] → g_Or_isTestSo_6 I A a1 a2 a3 P kx6 n x4 x5 → W p l e { frames := 2, cells := 0, slots := 0, locals := 43 } s m args below meth c H locs 0 0 Q (F0 m 6 ls []) := by
  intro n
  induction n with
  | zero => intro x4 x5 ls hl hw; exact hw.elim
  | succ n ih =>
    intro x4 x5 ls hl hw
    refine i_iload (n := 8) C 4 rfl rfl hl 5 rfl ?_
    refine i_iconst (v := (5 : Int32)) (n := 9) C 5 rfl rfl rfl ?_
    refine i_icmp_gt (tgt := 53) (n := 12) C 6 rfl rfl rfl (fun c1 => ?_) (fun c1 => ?_)
    · replace hw := hw.1 c1
      exact hx6 x4 ls (lv_sub hl [0, 1, 2, 3, 4] rfl) hw
    · replace hw := hw.2 c1
      refine i_aload_n (n := 13) C 7 rfl rfl rfl hl 0 rfl ?_
      refine i_iload_n (n := 14) C 8 rfl rfl rfl hl 1 rfl ?_
      refine i_iload_n (n := 15) C 9 rfl rfl rfl hl 2 rfl ?_
      refine i_iload (n := 17) C 10 rfl rfl hl 5 rfl ?_
      refine i_iadd (n := 18) C 11 rfl rfl ?_
      refine i_callVp (rest := []) (ci := 6) (qc := (R_Or, T_Or, 6)) (n := 21) C 12 rfl rfl hl h rfl (wC_get (h := 3) (by decide)) (kV_Or_68 ⟨by decide, by decide⟩) (m_Or_signOf hw) rfl rfl (Nat.le_of_ble_eq_true rfl) ⟨by decide, by decide⟩ (fun r2 hw => ?_)
      refine i_callSp (rest := []) (n := 24) C 13 rfl rfl hl h (kS_Or_54 ⟨by decide, by decide⟩) (m_Or_isFigure hw) rfl rfl (Nat.le_of_ble_eq_true rfl) ⟨by decide, by decide⟩ (fun r3 hw => ?_)
      refine i_if_eq (tgt := 53) (n := 27) C 14 rfl rfl rfl (fun c4 => ?_) (fun c4 => ?_)
      · replace hw := hw.1 c4
        exact hx6 x4 ls (lv_sub hl [0, 1, 2, 3, 4] rfl) hw
      · replace hw := hw.2 c4
        refine i_bipush (v := (10 : Int32)) (n := 29) C 15 rfl rfl rfl ?_
        refine i_iload (n := 31) C 16 rfl rfl hl 4 rfl ?_
        refine i_imul (n := 32) C 17 rfl rfl ?_
        refine i_aload_n (n := 33) C 18 rfl rfl rfl hl 0 rfl ?_
        refine i_iload_n (n := 34) C 19 rfl rfl rfl hl 1 rfl ?_
        refine i_iload_n (n := 35) C 20 rfl rfl rfl hl 2 rfl ?_
        refine i_iload (n := 37) C 21 rfl rfl hl 5 rfl ?_
        refine i_iadd (n := 38) C 22 rfl rfl ?_
        refine i_callVp (rest := [.int ((10 : Int32) * x4)]) (ci := 6) (qc := (R_Or, T_Or, 6)) (n := 41) C 23 rfl rfl hl h rfl (wC_get (h := 3) (by decide)) (kV_Or_68 ⟨by decide, by decide⟩) (m_Or_signOf hw) rfl rfl (Nat.le_of_ble_eq_true rfl) ⟨by decide, by decide⟩ (fun r5 hw => ?_)
        refine i_iadd (n := 42) C 24 rfl rfl ?_
        refine i_bipush (v := (48 : Int32)) (n := 44) C 25 rfl rfl rfl ?_
        refine i_isub (n := 45) C 26 rfl rfl ?_
        refine lv_topi (fun y6 ey6 => ?_)
        replace hw := hw y6 ey6
        refine i_istore (lv' := [(4, .int y6), (0, .ref (ad 3)), (1, .int a1), (2, .int a2), (3, .int a3), (5, .int x5)]) (n := 47) C 27 rfl rfl hl (by decide) rfl (fun ls hl => ?_)
        refine i_iinc (v := x5 + (1 : Int32)) (lv' := [(5, .int (x5 + (1 : Int32))), (4, .int y6), (0, .ref (ad 3)), (1, .int a1), (2, .int a2), (3, .int a3)]) (n := 50) C 28 rfl rfl hl 5 rfl rfl (by decide) rfl (fun ls hl => ?_)
        refine i_goto (tgt := 6) C 29 rfl rfl ?_
        exact ih y6 (x5 + (1 : Int32)) ls (lv_sub hl [2, 3, 4, 5, 1, 0] rfl) hw
set_option maxHeartbeats 4000000 in
set_option maxRecDepth 100000 in
theorem e_Or_isTestSo_53 {I : Nat → Int32} {A : Nat → Nat → Int32} {T : Nat → Option Nat} {L : List Nat} {K : Nat → Nat} {F : Nat → Nat → Int32} {a1 : Int32} {a2 : Int32} {a3 : Int32} {P : Int32 → Prop}  (C : CX D cy R_Or c_Or_isTestSo tb_Or_isTestSo 6 p s m args c Z) (h : HXw D Z s.heap H locs (wC cy ad I A T L K F)) (hret : RetP p l e { frames := 2, cells := 0, slots := 0, locals := 43 } s m args below meth c c_Or_isTestSo .boolean H locs Q P) :
    ∀ (x4 : Int32) (ls : Array Slot), lv_has ls 6 [(0, .ref (ad 3)), (1, .int a1), (2, .int a2), (3, .int a3), (4, .int x4)] → g_Or_isTestSo_53 I A a1 a2 a3 P  x4 → W p l e { frames := 2, cells := 0, slots := 0, locals := 43 } s m args below meth c H locs 0 0 Q (F0 m 53 ls []) := by
  intro x4 ls hl hw
  refine i_aload_n (n := 54) C 30 rfl rfl rfl hl 0 rfl ?_
  refine i_iload_n (n := 55) C 31 rfl rfl rfl hl 1 rfl ?_
  refine i_iload_n (n := 56) C 32 rfl rfl rfl hl 2 rfl ?_
  refine i_callVp (rest := []) (ci := 6) (qc := (R_Or, T_Or, 6)) (n := 59) C 33 rfl rfl hl h rfl (wC_get (h := 3) (by decide)) (kV_Or_68 ⟨by decide, by decide⟩) (m_Or_signOf hw) rfl rfl (Nat.le_of_ble_eq_true rfl) ⟨by decide, by decide⟩ (fun r8 hw => ?_)
  refine i_bipush (v := (60 : Int32)) (n := 61) C 34 rfl rfl rfl ?_
  refine i_icmp_ne (tgt := 78) (n := 64) C 35 rfl rfl rfl (fun c9 => ?_) (fun c9 => ?_)
  · replace hw := hw.1 c9
    refine i_iload_n (n := 79) C 43 rfl rfl rfl hl 3 rfl ?_
    refine i_iload (n := 81) C 44 rfl rfl hl 4 rfl ?_
    refine i_icmp_le (tgt := 88) (n := 84) C 45 rfl rfl rfl (fun c10 => ?_) (fun c10 => ?_)
    · replace hw := hw.1 c10
      refine i_iconst (v := (0 : Int32)) (n := 89) C 48 rfl rfl rfl ?_
      exact hret _ _ _ rfl hw (C.dg (k := 49) rfl)
    · replace hw := hw.2 c10
      refine i_iconst (v := (1 : Int32)) (n := 85) C 46 rfl rfl rfl ?_
      refine i_goto (tgt := 89) C 47 rfl rfl ?_
      exact hret _ _ _ rfl hw (C.dg (k := 49) rfl)
  · replace hw := hw.2 c9
    refine i_iload_n (n := 65) C 36 rfl rfl rfl hl 3 rfl ?_
    refine i_iload (n := 67) C 37 rfl rfl hl 4 rfl ?_
    refine i_icmp_ge (tgt := 74) (n := 70) C 38 rfl rfl rfl (fun c11 => ?_) (fun c11 => ?_)
    · replace hw := hw.1 c11
      refine i_iconst (v := (0 : Int32)) (n := 75) C 41 rfl rfl rfl ?_
      refine i_goto (tgt := 89) C 42 rfl rfl ?_
      exact hret _ _ _ rfl hw (C.dg (k := 49) rfl)
    · replace hw := hw.2 c11
      refine i_iconst (v := (1 : Int32)) (n := 71) C 39 rfl rfl rfl ?_
      refine i_goto (tgt := 89) C 40 rfl rfl ?_
      exact hret _ _ _ rfl hw (C.dg (k := 49) rfl)
set_option maxHeartbeats 4000000 in
set_option maxRecDepth 100000 in
theorem m_Or_isTestSo {l : Launch} {D : va_G} {cy : Nat → ClassId} {ad : Nat → Nat} {I : Nat → Int32} {A : Nat → Nat → Int32} {T : Nat → Option Nat} {L : List Nat} {K : Nat → Nat} {F : Nat → Nat → Int32} {a1 : Int32} {a2 : Int32} {a3 : Int32} {P : Int32 → Prop} (hw : g_Or_isTestSo I A a1 a2 a3 P) : ∀ sz, Met l y_Or_isTestSo (WL y_Or_isTestSo c_Or_isTestSo 6 (some .boolean)) { frames := 2, cells := 0, slots := 0, locals := 43 } (va_Pc [.ref (ad 3), .int a1, .int a2, .int a3] (PreW D cy (wC cy ad I A T L K F) sz)) (vp_Si P) 0 0 (fun _ => False) := by
  refine met_p R_Or .boolean db_Or_isTestSo (by decide) rfl rfl (Nat.le_of_ble_eq_true rfl) ?_
  intro p e s m below meth c Z Q ls C h hl hret
  have hl : lv_has ls 6 [(0, .ref (ad 3)), (1, .int a1), (2, .int a2), (3, .int a3)] := hl
  refine i_iconst (v := (0 : Int32)) (n := 1) C 0 rfl rfl rfl ?_
  refine i_istore (lv' := [(4, .int (0 : Int32)), (0, .ref (ad 3)), (1, .int a1), (2, .int a2), (3, .int a3)]) (n := 3) C 1 rfl rfl hl (by decide) rfl (fun ls hl => ?_)
  refine i_iconst (v := (1 : Int32)) (n := 4) C 2 rfl rfl rfl ?_
  refine i_istore (lv' := [(5, .int (1 : Int32)), (4, .int (0 : Int32)), (0, .ref (ad 3)), (1, .int a1), (2, .int a2), (3, .int a3)]) (n := 6) C 3 rfl rfl hl (by decide) rfl (fun ls hl => ?_)
  obtain ⟨n7, hw⟩ := hw
  refine e_Or_isTestSo_6 C h hret (fun x4_7 ls hl hw => ?_) n7 (0 : Int32) (1 : Int32) ls (lv_sub hl [2, 3, 4, 5, 1, 0] rfl) hw
  have hl : lv_has ls 6 [(0, .ref (ad 3)), (1, .int a1), (2, .int a2), (3, .int a3), (4, .int x4_7)] := hl
  exact e_Or_isTestSo_53 C h hret  x4_7 ls hl hw
end S132
theorem kV_Or_64 {R : Room} {s : State} {args : Array Value} (hR : 2 + 1 ≤ R.frames ∧ 8 + (8 + 11) + 43 ≤ R.locals) (ht : ∀ w ∈ GW, w.before args s = true) : CallW R s args R_Or R_Or 64 y_Or_valueFor c_Or_valueFor 8 (some .int) (WL y_Or_valueFor c_Or_valueFor 8 (some .int)) { frames := 2, cells := 0, slots := 0, locals := 43 } 0 0 5 := cwV 5 ht (GW_v w_4_161 w_4_163 w_0_14 w_1_4 (GW_wl w_4_164)) rfl rfl rfl (by decide +kernel) hR
theorem kV_Or_71 {R : Room} {s : State} {args : Array Value} (hR : 2 + 1 ≤ R.frames ∧ 8 + (6 + 11) + 43 ≤ R.locals) (ht : ∀ w ∈ GW, w.before args s = true) : CallW R s args R_Or R_Or 71 y_Or_isTestSo c_Or_isTestSo 6 (some .boolean) (WL y_Or_isTestSo c_Or_isTestSo 6 (some .boolean)) { frames := 2, cells := 0, slots := 0, locals := 43 } 0 0 3 := cwV 3 ht (GW_v w_4_169 w_4_171 w_0_15 w_1_4 (GW_wl w_4_172)) rfl rfl rfl (by decide +kernel) hR
section S133
variable {p : Program} {l : Launch} {e : Env} {R : Room} {s : State} {m : MethodId} {args : Array Value} {below : List Frame} {meth : Method} {c : Code} {H : Heap} {locs : List Loc} {cells slots : Nat} {Q : State → Prop}
variable {cc : ByteArray} {pc n nL : Nat} {ls : Array Slot} {rest : List Value} {D : va_G} {cy : Nat → ClassId} {Z : Nat → Prop} {ad : Nat → Nat} {tb : List (Nat × Instr × Nat)} {lv : List (Nat × Value)}
set_option maxHeartbeats 4000000 in
set_option maxRecDepth 100000 in
theorem e_Or_rulesSo_155 {I : Nat → Int32} {A : Nat → Nat → Int32} {T : Nat → Option Nat} {L : List Nat} {K : Nat → Nat} {F : Nat → Nat → Int32} {a1 : Int32} {k2 : Nat} {k3 : Nat} {a4 : Int32} {P : Int32 → Prop} {kb25 : Int32 → Int32 → Int32 → Int32 → Int32 → Prop} (C : CX D cy R_Or c_Or_rulesSo tb_Or_rulesSo 12 p s m args c Z) (h : HXw D Z s.heap H locs (wC cy ad I A T L K F)) (hk2 : k2 < 41 ∧ tyC k2 = 0) (hk3 : k3 < 41 ∧ tyC k3 = 0) (hret : RetP p l e { frames := 3, cells := 0, slots := 0, locals := 70 } s m args below meth c c_Or_rulesSo .int H locs Q P)
    (hb25 : ∀ (x5 : Int32) (x6 : Int32) (x7 : Int32) (x8 : Int32) (x9 : Int32) (ls : Array Slot), lv_has ls 12 [(0, .ref (ad 3)), (1, .int a1), (2, .ref (ad (k2 + 8))), (3, .ref (ad (k3 + 8))), (4, .int a4), (5, .int x5), (6, .int x6), (7, .int x7), (8, .int x8), (9, .int x9)] → kb25 x5 x6 x7 x8 x9 → W p l e { frames := 3, cells := 0, slots := 0, locals := 70 } s m args below meth c H locs 0 0 Q (F0 m 25 ls [])) :
    ∀ (x5 : Int32) (x6 : Int32) (x7 : Int32) (x8 : Int32) (x9 : Int32) (ls : Array Slot), lv_has ls 12 [(0, .ref (ad 3)), (1, .int a1), (2, .ref (ad (k2 + 8))), (3, .ref (ad (k3 + 8))), (4, .int a4), (5, .int x5), (6, .int x6), (7, .int x7), (8, .int x8), (9, .int x9)] → g_Or_rulesSo_155 I A a1 k2 k3 a4 P kb25 x5 x6 x7 x8 x9 → W p l e { frames := 3, cells := 0, slots := 0, locals := 70 } s m args below meth c H locs 0 0 Q (F0 m 155 ls []) := by
  intro x5 x6 x7 x8 x9 ls hl hw
  refine i_iinc (v := x9 + (1 : Int32)) (lv' := [(9, .int (x9 + (1 : Int32))), (0, .ref (ad 3)), (1, .int a1), (2, .ref (ad (k2 + 8))), (3, .ref (ad (k3 + 8))), (4, .int a4), (5, .int x5), (6, .int x6), (7, .int x7), (8, .int x8)]) (n := 158) C 88 rfl rfl hl 9 rfl rfl (by decide) rfl (fun ls hl => ?_)
  refine i_goto (tgt := 25) C 89 rfl rfl ?_
  exact hb25 x5 x6 x7 x8 (x9 + (1 : Int32)) ls (lv_sub hl [1, 2, 3, 4, 5, 6, 7, 8, 9, 0] rfl) hw
set_option maxHeartbeats 4000000 in
set_option maxRecDepth 100000 in
theorem e_Or_rulesSo_136 {I : Nat → Int32} {A : Nat → Nat → Int32} {T : Nat → Option Nat} {L : List Nat} {K : Nat → Nat} {F : Nat → Nat → Int32} {a1 : Int32} {k2 : Nat} {k3 : Nat} {a4 : Int32} {P : Int32 → Prop} {kb25 : Int32 → Int32 → Int32 → Int32 → Int32 → Prop} (C : CX D cy R_Or c_Or_rulesSo tb_Or_rulesSo 12 p s m args c Z) (h : HXw D Z s.heap H locs (wC cy ad I A T L K F)) (hk2 : k2 < 41 ∧ tyC k2 = 0) (hk3 : k3 < 41 ∧ tyC k3 = 0) (hret : RetP p l e { frames := 3, cells := 0, slots := 0, locals := 70 } s m args below meth c c_Or_rulesSo .int H locs Q P)
    (hb25 : ∀ (x5 : Int32) (x6 : Int32) (x7 : Int32) (x8 : Int32) (x9 : Int32) (ls : Array Slot), lv_has ls 12 [(0, .ref (ad 3)), (1, .int a1), (2, .ref (ad (k2 + 8))), (3, .ref (ad (k3 + 8))), (4, .int a4), (5, .int x5), (6, .int x6), (7, .int x7), (8, .int x8), (9, .int x9)] → kb25 x5 x6 x7 x8 x9 → W p l e { frames := 3, cells := 0, slots := 0, locals := 70 } s m args below meth c H locs 0 0 Q (F0 m 25 ls [])) :
    ∀ (x5 : Int32) (x6 : Int32) (x7 : Int32) (x8 : Int32) (x9 : Int32) (x10 : Int32) (ls : Array Slot), lv_has ls 12 [(0, .ref (ad 3)), (1, .int a1), (2, .ref (ad (k2 + 8))), (3, .ref (ad (k3 + 8))), (4, .int a4), (5, .int x5), (6, .int x6), (7, .int x7), (8, .int x8), (9, .int x9), (10, .int x10)] → g_Or_rulesSo_136 I A a1 k2 k3 a4 P kb25 x5 x6 x7 x8 x9 x10 → W p l e { frames := 3, cells := 0, slots := 0, locals := 70 } s m args below meth c H locs 0 0 Q (F0 m 136 ls []) := by
  intro x5 x6 x7 x8 x9 x10 ls hl hw
  refine i_iload (n := 138) C 78 rfl rfl hl 10 rfl ?_
  refine i_bipush (v := (59 : Int32)) (n := 140) C 79 rfl rfl rfl ?_
  refine i_icmp_ne (tgt := 155) (n := 143) C 80 rfl rfl rfl (fun c14 => ?_) (fun c14 => ?_)
  · replace hw := hw.1 c14
    exact e_Or_rulesSo_155 C h hk2 hk3 hret hb25 x5 x6 x7 x8 x9 ls (lv_sub hl [0, 1, 2, 3, 4, 5, 6, 7, 8, 9] rfl) hw
  · replace hw := hw.2 c14
    refine i_iinc (v := x6 + (1 : Int32)) (lv' := [(6, .int (x6 + (1 : Int32))), (0, .ref (ad 3)), (1, .int a1), (2, .ref (ad (k2 + 8))), (3, .ref (ad (k3 + 8))), (4, .int a4), (5, .int x5), (7, .int x7), (8, .int x8), (9, .int x9), (10, .int x10)]) (n := 146) C 81 rfl rfl hl 6 rfl rfl (by decide) rfl (fun ls hl => ?_)
    refine i_iconst (v := (1 : Int32)) (n := 147) C 82 rfl rfl rfl ?_
    refine i_istore (lv' := [(8, .int (1 : Int32)), (6, .int (x6 + (1 : Int32))), (0, .ref (ad 3)), (1, .int a1), (2, .ref (ad (k2 + 8))), (3, .ref (ad (k3 + 8))), (4, .int a4), (5, .int x5), (7, .int x7), (9, .int x9), (10, .int x10)]) (n := 149) C 83 rfl rfl hl (by decide) rfl (fun ls hl => ?_)
    refine i_iload (n := 151) C 84 rfl rfl hl 9 rfl ?_
    refine i_iconst (v := (1 : Int32)) (n := 152) C 85 rfl rfl rfl ?_
    refine i_iadd (n := 153) C 86 rfl rfl ?_
    refine lv_topi (fun y15 ey15 => ?_)
    replace hw := hw y15 ey15
    refine i_istore (lv' := [(7, .int y15), (8, .int (1 : Int32)), (6, .int (x6 + (1 : Int32))), (0, .ref (ad 3)), (1, .int a1), (2, .ref (ad (k2 + 8))), (3, .ref (ad (k3 + 8))), (4, .int a4), (5, .int x5), (9, .int x9), (10, .int x10)]) (n := 155) C 87 rfl rfl hl (by decide) rfl (fun ls hl => ?_)
    exact e_Or_rulesSo_155 C h hk2 hk3 hret hb25 x5 (x6 + (1 : Int32)) y15 (1 : Int32) x9 ls (lv_sub hl [3, 4, 5, 6, 7, 8, 2, 0, 1, 9] rfl) hw
set_option maxHeartbeats 4000000 in
set_option maxRecDepth 100000 in
theorem e_Or_rulesSo_115 {I : Nat → Int32} {A : Nat → Nat → Int32} {T : Nat → Option Nat} {L : List Nat} {K : Nat → Nat} {F : Nat → Nat → Int32} {a1 : Int32} {k2 : Nat} {k3 : Nat} {a4 : Int32} {P : Int32 → Prop} {kb25 : Int32 → Int32 → Int32 → Int32 → Int32 → Prop} (C : CX D cy R_Or c_Or_rulesSo tb_Or_rulesSo 12 p s m args c Z) (h : HXw D Z s.heap H locs (wC cy ad I A T L K F)) (hk2 : k2 < 41 ∧ tyC k2 = 0) (hk3 : k3 < 41 ∧ tyC k3 = 0) (hret : RetP p l e { frames := 3, cells := 0, slots := 0, locals := 70 } s m args below meth c c_Or_rulesSo .int H locs Q P)
    (hb25 : ∀ (x5 : Int32) (x6 : Int32) (x7 : Int32) (x8 : Int32) (x9 : Int32) (ls : Array Slot), lv_has ls 12 [(0, .ref (ad 3)), (1, .int a1), (2, .ref (ad (k2 + 8))), (3, .ref (ad (k3 + 8))), (4, .int a4), (5, .int x5), (6, .int x6), (7, .int x7), (8, .int x8), (9, .int x9)] → kb25 x5 x6 x7 x8 x9 → W p l e { frames := 3, cells := 0, slots := 0, locals := 70 } s m args below meth c H locs 0 0 Q (F0 m 25 ls [])) :
    ∀ (x5 : Int32) (x6 : Int32) (x7 : Int32) (x8 : Int32) (x9 : Int32) (x10 : Int32) (ls : Array Slot), lv_has ls 12 [(0, .ref (ad 3)), (1, .int a1), (2, .ref (ad (k2 + 8))), (3, .ref (ad (k3 + 8))), (4, .int a4), (5, .int x5), (6, .int x6), (7, .int x7), (8, .int x8), (9, .int x9), (10, .int x10)] → g_Or_rulesSo_115 I A a1 k2 k3 a4 P kb25 x5 x6 x7 x8 x9 x10 → W p l e { frames := 3, cells := 0, slots := 0, locals := 70 } s m args below meth c H locs 0 0 Q (F0 m 115 ls []) := by
  intro x5 x6 x7 x8 x9 x10 ls hl hw
  refine i_iload (n := 117) C 67 rfl rfl hl 10 rfl ?_
  refine i_bipush (v := (58 : Int32)) (n := 119) C 68 rfl rfl rfl ?_
  refine i_icmp_ne (tgt := 136) (n := 122) C 69 rfl rfl rfl (fun c13 => ?_) (fun c13 => ?_)
  · replace hw := hw.1 c13
    exact e_Or_rulesSo_136 C h hk2 hk3 hret hb25 x5 x6 x7 x8 x9 x10 ls hl hw
  · replace hw := hw.2 c13
    refine i_iload (n := 124) C 70 rfl rfl hl 8 rfl ?_
    refine i_if_eq (tgt := 136) (n := 127) C 71 rfl rfl rfl (fun c16 => ?_) (fun c16 => ?_)
    · replace hw := hw.1 c16
      exact e_Or_rulesSo_136 C h hk2 hk3 hret hb25 x5 x6 x7 x8 x9 x10 ls hl hw
    · replace hw := hw.2 c16
      refine i_iload (n := 129) C 72 rfl rfl hl 5 rfl ?_
      refine i_iconst (v := (1 : Int32)) (n := 130) C 73 rfl rfl rfl ?_
      refine i_iload (n := 132) C 74 rfl rfl hl 6 rfl ?_
      refine i_ishl (n := 133) C 75 rfl rfl ?_
      refine i_ior (n := 134) C 76 rfl rfl ?_
      refine lv_topi (fun y17 ey17 => ?_)
      replace hw := hw y17 ey17
      refine i_istore (lv' := [(5, .int y17), (0, .ref (ad 3)), (1, .int a1), (2, .ref (ad (k2 + 8))), (3, .ref (ad (k3 + 8))), (4, .int a4), (6, .int x6), (7, .int x7), (8, .int x8), (9, .int x9), (10, .int x10)]) (n := 136) C 77 rfl rfl hl (by decide) rfl (fun ls hl => ?_)
      exact e_Or_rulesSo_136 C h hk2 hk3 hret hb25 y17 x6 x7 x8 x9 x10 ls (lv_sub hl [1, 2, 3, 4, 5, 0, 6, 7, 8, 9, 10] rfl) hw
set_option maxHeartbeats 4000000 in
set_option maxRecDepth 100000 in
theorem e_Or_rulesSo_101 {I : Nat → Int32} {A : Nat → Nat → Int32} {T : Nat → Option Nat} {L : List Nat} {K : Nat → Nat} {F : Nat → Nat → Int32} {a1 : Int32} {k2 : Nat} {k3 : Nat} {a4 : Int32} {P : Int32 → Prop} {kb25 : Int32 → Int32 → Int32 → Int32 → Int32 → Prop} (C : CX D cy R_Or c_Or_rulesSo tb_Or_rulesSo 12 p s m args c Z) (h : HXw D Z s.heap H locs (wC cy ad I A T L K F)) (hk2 : k2 < 41 ∧ tyC k2 = 0) (hk3 : k3 < 41 ∧ tyC k3 = 0) (hret : RetP p l e { frames := 3, cells := 0, slots := 0, locals := 70 } s m args below meth c c_Or_rulesSo .int H locs Q P)
    (hb25 : ∀ (x5 : Int32) (x6 : Int32) (x7 : Int32) (x8 : Int32) (x9 : Int32) (ls : Array Slot), lv_has ls 12 [(0, .ref (ad 3)), (1, .int a1), (2, .ref (ad (k2 + 8))), (3, .ref (ad (k3 + 8))), (4, .int a4), (5, .int x5), (6, .int x6), (7, .int x7), (8, .int x8), (9, .int x9)] → kb25 x5 x6 x7 x8 x9 → W p l e { frames := 3, cells := 0, slots := 0, locals := 70 } s m args below meth c H locs 0 0 Q (F0 m 25 ls [])) :
    ∀ (x5 : Int32) (x6 : Int32) (x9 : Int32) (x10 : Int32) (x11 : Int32) (s0 : Int32) (s2 : Int32) (s3 : Int32) (ls : Array Slot), lv_has ls 12 [(0, .ref (ad 3)), (1, .int a1), (2, .ref (ad (k2 + 8))), (3, .ref (ad (k3 + 8))), (4, .int a4), (5, .int x5), (6, .int x6), (9, .int x9), (10, .int x10), (11, .int x11)] → g_Or_rulesSo_101 I A a1 k2 k3 a4 P kb25 x5 x6 x9 x10 x11 s0 s2 s3 → W p l e { frames := 3, cells := 0, slots := 0, locals := 70 } s m args below meth c H locs 0 0 Q (F0 m 101 ls [.int s3, .int s2, .ref (ad 3), .int s0]) := by
  intro x5 x6 x9 x10 x11 s0 s2 s3 ls hl hw
  refine i_iload (n := 103) C 59 rfl rfl hl 9 rfl ?_
  refine i_callVp (rest := [.int s0]) (ci := 6) (qc := (R_Or, T_Or, 6)) (n := 106) C 60 rfl rfl hl h rfl (wC_get (h := 3) (by decide)) (kV_Or_71 ⟨by decide, by decide⟩) (m_Or_isTestSo hw) rfl rfl (Nat.le_of_ble_eq_true rfl) ⟨by decide, by decide⟩ (fun r10 hw => ?_)
  refine i_iand (n := 107) C 61 rfl rfl ?_
  refine lv_topi (fun y11 ey11 => ?_)
  replace hw := hw y11 ey11
  refine i_istore (lv' := [(8, .int y11), (0, .ref (ad 3)), (1, .int a1), (2, .ref (ad (k2 + 8))), (3, .ref (ad (k3 + 8))), (4, .int a4), (5, .int x5), (6, .int x6), (9, .int x9), (10, .int x10), (11, .int x11)]) (n := 109) C 62 rfl rfl hl (by decide) rfl (fun ls hl => ?_)
  refine i_iload (n := 111) C 63 rfl rfl hl 8 rfl ?_
  refine i_iconst (v := (1 : Int32)) (n := 112) C 64 rfl rfl rfl ?_
  refine i_iadd (n := 113) C 65 rfl rfl ?_
  refine lv_topi (fun y12 ey12 => ?_)
  replace hw := hw y12 ey12
  refine i_istore (lv' := [(7, .int y12), (8, .int y11), (0, .ref (ad 3)), (1, .int a1), (2, .ref (ad (k2 + 8))), (3, .ref (ad (k3 + 8))), (4, .int a4), (5, .int x5), (6, .int x6), (9, .int x9), (10, .int x10), (11, .int x11)]) (n := 115) C 66 rfl rfl hl (by decide) rfl (fun ls hl => ?_)
  exact e_Or_rulesSo_115 C h hk2 hk3 hret hb25 x5 x6 y12 y11 x9 x10 ls (lv_sub hl [2, 3, 4, 5, 6, 7, 8, 0, 1, 9, 10] rfl) hw
set_option maxHeartbeats 4000000 in
set_option maxRecDepth 100000 in
theorem e_Or_rulesSo_61 {I : Nat → Int32} {A : Nat → Nat → Int32} {T : Nat → Option Nat} {L : List Nat} {K : Nat → Nat} {F : Nat → Nat → Int32} {a1 : Int32} {k2 : Nat} {k3 : Nat} {a4 : Int32} {P : Int32 → Prop} {kb25 : Int32 → Int32 → Int32 → Int32 → Int32 → Prop} (C : CX D cy R_Or c_Or_rulesSo tb_Or_rulesSo 12 p s m args c Z) (h : HXw D Z s.heap H locs (wC cy ad I A T L K F)) (hk2 : k2 < 41 ∧ tyC k2 = 0) (hk3 : k3 < 41 ∧ tyC k3 = 0) (hret : RetP p l e { frames := 3, cells := 0, slots := 0, locals := 70 } s m args below meth c c_Or_rulesSo .int H locs Q P)
    (hb25 : ∀ (x5 : Int32) (x6 : Int32) (x7 : Int32) (x8 : Int32) (x9 : Int32) (ls : Array Slot), lv_has ls 12 [(0, .ref (ad 3)), (1, .int a1), (2, .ref (ad (k2 + 8))), (3, .ref (ad (k3 + 8))), (4, .int a4), (5, .int x5), (6, .int x6), (7, .int x7), (8, .int x8), (9, .int x9)] → kb25 x5 x6 x7 x8 x9 → W p l e { frames := 3, cells := 0, slots := 0, locals := 70 } s m args below meth c H locs 0 0 Q (F0 m 25 ls [])) :
    ∀ (x5 : Int32) (x6 : Int32) (x7 : Int32) (x8 : Int32) (x9 : Int32) (x10 : Int32) (ls : Array Slot), lv_has ls 12 [(0, .ref (ad 3)), (1, .int a1), (2, .ref (ad (k2 + 8))), (3, .ref (ad (k3 + 8))), (4, .int a4), (5, .int x5), (6, .int x6), (7, .int x7), (8, .int x8), (9, .int x9), (10, .int x10)] → g_Or_rulesSo_61 I A a1 k2 k3 a4 P kb25 x5 x6 x7 x8 x9 x10 → W p l e { frames := 3, cells := 0, slots := 0, locals := 70 } s m args below meth c H locs 0 0 Q (F0 m 61 ls []) := by
  intro x5 x6 x7 x8 x9 x10 ls hl hw
  refine i_aload_n (n := 62) C 35 rfl rfl rfl hl 0 rfl ?_
  refine i_iload_n (n := 63) C 36 rfl rfl rfl hl 1 rfl ?_
  refine i_iload (n := 65) C 37 rfl rfl hl 7 rfl ?_
  refine i_aload_n (n := 66) C 38 rfl rfl rfl hl 2 rfl ?_
  refine i_aload_n (n := 67) C 39 rfl rfl rfl hl 3 rfl ?_
  refine i_iload (n := 69) C 40 rfl rfl hl 4 rfl ?_
  refine i_callVp (rest := []) (ci := 6) (qc := (R_Or, T_Or, 6)) (n := 72) C 41 rfl rfl hl h rfl (wC_get (h := 3) (by decide)) (kV_Or_64 ⟨by decide, by decide⟩) (m_Or_valueFor hk2 hk3 hw) rfl rfl (Nat.le_of_ble_eq_true rfl) ⟨by decide, by decide⟩ (fun r7 hw => ?_)
  refine i_istore (lv' := [(11, .int r7), (0, .ref (ad 3)), (1, .int a1), (2, .ref (ad (k2 + 8))), (3, .ref (ad (k3 + 8))), (4, .int a4), (5, .int x5), (6, .int x6), (7, .int x7), (8, .int x8), (9, .int x9), (10, .int x10)]) (n := 74) C 42 rfl rfl hl (by decide) rfl (fun ls hl => ?_)
  refine i_iload (n := 76) C 43 rfl rfl hl 9 rfl ?_
  refine i_aload_n (n := 77) C 44 rfl rfl rfl hl 1 rfl ?_
  refine i_iload_n (n := 78) C 45 rfl rfl rfl hl 2 rfl ?_
  refine i_aload_n (n := 79) C 46 rfl rfl rfl hl 1 rfl ?_
  refine i_iload_n (n := 80) C 47 rfl rfl rfl hl 2 rfl ?_
  refine i_iload (n := 82) C 48 rfl rfl hl 8 rfl ?_
  refine i_callVp (rest := [.int a1, .ref (ad 3), .int x8]) (ci := 6) (qc := (R_Or, T_Or, 6)) (n := 85) C 49 rfl rfl hl h rfl (wC_get (h := 3) (by decide)) (kV_Or_68 ⟨by decide, by decide⟩) (m_Or_signOf hw) rfl rfl (Nat.le_of_ble_eq_true rfl) ⟨by decide, by decide⟩ (fun r8 hw => ?_)
  refine i_bipush (v := (109 : Int32)) (n := 87) C 50 rfl rfl rfl ?_
  refine i_icmp_ne (tgt := 97) (n := 90) C 51 rfl rfl rfl (fun c9 => ?_) (fun c9 => ?_)
  · replace hw := hw.1 c9
    refine i_iload (n := 99) C 56 rfl rfl hl 8 rfl ?_
    refine i_iconst (v := (2 : Int32)) (n := 100) C 57 rfl rfl rfl ?_
    refine i_iadd (n := 101) C 58 rfl rfl ?_
    exact e_Or_rulesSo_101 C h hk2 hk3 hret hb25 x5 x6 x9 x10 r7 x8 a1 (x7 + (2 : Int32)) ls (lv_sub hl [1, 2, 3, 4, 5, 6, 7, 10, 11, 0] rfl) hw
  · replace hw := hw.2 c9
    refine i_iload (n := 92) C 52 rfl rfl hl 8 rfl ?_
    refine i_iconst (v := (1 : Int32)) (n := 93) C 53 rfl rfl rfl ?_
    refine i_iadd (n := 94) C 54 rfl rfl ?_
    refine i_goto (tgt := 101) C 55 rfl rfl ?_
    exact e_Or_rulesSo_101 C h hk2 hk3 hret hb25 x5 x6 x9 x10 r7 x8 a1 (x7 + (1 : Int32)) ls (lv_sub hl [1, 2, 3, 4, 5, 6, 7, 10, 11, 0] rfl) hw
set_option maxHeartbeats 4000000 in
set_option maxRecDepth 100000 in
theorem e_Or_rulesSo_25 {I : Nat → Int32} {A : Nat → Nat → Int32} {T : Nat → Option Nat} {L : List Nat} {K : Nat → Nat} {F : Nat → Nat → Int32} {a1 : Int32} {k2 : Nat} {k3 : Nat} {a4 : Int32} {P : Int32 → Prop} {kx25 : Int32 → Prop} (C : CX D cy R_Or c_Or_rulesSo tb_Or_rulesSo 12 p s m args c Z) (h : HXw D Z s.heap H locs (wC cy ad I A T L K F)) (hk2 : k2 < 41 ∧ tyC k2 = 0) (hk3 : k3 < 41 ∧ tyC k3 = 0) (hret : RetP p l e { frames := 3, cells := 0, slots := 0, locals := 70 } s m args below meth c c_Or_rulesSo .int H locs Q P)
    (hx25 : ∀ (x5 : Int32) (ls : Array Slot), lv_has ls 12 [(5, .int x5)] → kx25 x5 → W p l e { frames := 3, cells := 0, slots := 0, locals := 70 } s m args below meth c H locs 0 0 Q (F0 m 161 ls [])) :
    ∀ (n : Nat) (x5 : Int32) (x6 : Int32) (x7 : Int32) (x8 : Int32) (x9 : Int32) (ls : Array Slot), lv_has ls 12 [(0, .ref (ad 3)), (1, .int a1), (2, .ref (ad (k2 + 8))), (3, .ref (ad (k3 + 8))), (4, .int a4), (5, .int x5), (6, .int x6), (7, .int x7), (8, .int x8), (9, .int x9)] → g_Or_rulesSo_25 I A a1 k2 k3 a4 P kx25 n x5 x6 x7 x8 x9 → W p l e { frames := 3, cells := 0, slots := 0, locals := 70 } s m args below meth c H locs 0 0 Q (F0 m 25 ls []) := by
  intro n
  induction n with
  | zero => intro x5 x6 x7 x8 x9 ls hl hw; exact hw.elim
  | succ n ih =>
    intro x5 x6 x7 x8 x9 ls hl hw
    refine i_iload (n := 27) C 16 rfl rfl hl 9 rfl ?_
    refine i_aload_n (n := 28) C 17 rfl rfl rfl hl 0 rfl ?_
    refine fgC_Or_20 (n := 31) C 18 rfl rfl h ?_
    refine i_iload_n (n := 32) C 19 rfl rfl rfl hl 1 rfl ?_
    obtain ⟨hb, hw⟩ := hw
    refine i_iald (n := 33) C 20 rfl rfl h (wC_arr 23 (by decide) rfl) hb ?_
    refine i_icmp_ge (tgt := 161) (n := 36) C 21 rfl rfl rfl (fun c3 => ?_) (fun c3 => ?_)
    · replace hw := hw.1 c3
      exact hx25 x5 ls (lv_sub hl [5] rfl) hw
    · replace hw := hw.2 c3
      refine i_aload_n (n := 37) C 22 rfl rfl rfl hl 0 rfl ?_
      refine fgC_Or_17 (n := 40) C 23 rfl rfl h ?_
      refine i_iload_n (n := 41) C 24 rfl rfl rfl hl 1 rfl ?_
      obtain ⟨hb, hw⟩ := hw
      refine i_aldA (n := 42) C 25 rfl rfl h (wC_get (h := 7) (by decide)) hb (if_pos (vp_in_lt hb)) ?_
      have hr4 := vp_in_lt hb
      refine i_iload (n := 44) C 26 rfl rfl hl 9 rfl ?_
      obtain ⟨hb, hw⟩ := hw
      refine i_iald (n := 45) C 27 rfl rfl h (wC_row6 hr4) hb ?_
      refine lv_topi (fun y5 ey5 => ?_)
      replace hw := hw y5 ey5
      refine i_istore (lv' := [(10, .int y5), (0, .ref (ad 3)), (1, .int a1), (2, .ref (ad (k2 + 8))), (3, .ref (ad (k3 + 8))), (4, .int a4), (5, .int x5), (6, .int x6), (7, .int x7), (8, .int x8), (9, .int x9)]) (n := 47) C 28 rfl rfl hl (by decide) rfl (fun ls hl => ?_)
      refine i_iload (n := 49) C 29 rfl rfl hl 0 rfl ?_
      refine i_bipush (v := (38 : Int32)) (n := 51) C 30 rfl rfl rfl ?_
      refine i_icmp_eq (tgt := 61) (n := 54) C 31 rfl rfl rfl (fun c6 => ?_) (fun c6 => ?_)
      · replace hw := hw.1 c6
        exact e_Or_rulesSo_61 C h hk2 hk3 hret ih x5 x6 x7 x8 x9 y5 ls (lv_sub hl [1, 2, 3, 4, 5, 6, 7, 8, 9, 10, 0] rfl) hw
      · replace hw := hw.2 c6
        refine i_iload (n := 56) C 32 rfl rfl hl 0 rfl ?_
        refine i_bipush (v := (58 : Int32)) (n := 58) C 33 rfl rfl rfl ?_
        refine i_icmp_ne (tgt := 115) (n := 61) C 34 rfl rfl rfl (fun c18 => ?_) (fun c18 => ?_)
        · replace hw := hw.1 c18
          exact e_Or_rulesSo_115 C h hk2 hk3 hret ih x5 x6 x7 x8 x9 y5 ls (lv_sub hl [1, 2, 3, 4, 5, 6, 7, 8, 9, 10, 0] rfl) hw
        · replace hw := hw.2 c18
          exact e_Or_rulesSo_61 C h hk2 hk3 hret ih x5 x6 x7 x8 x9 y5 ls (lv_sub hl [1, 2, 3, 4, 5, 6, 7, 8, 9, 10, 0] rfl) hw
set_option maxHeartbeats 4000000 in
set_option maxRecDepth 100000 in
theorem m_Or_rulesSo {l : Launch} {D : va_G} {cy : Nat → ClassId} {ad : Nat → Nat} {I : Nat → Int32} {A : Nat → Nat → Int32} {T : Nat → Option Nat} {L : List Nat} {K : Nat → Nat} {F : Nat → Nat → Int32} {a1 : Int32} {k2 : Nat} {k3 : Nat} {a4 : Int32} {P : Int32 → Prop} (hk2 : k2 < 41 ∧ tyC k2 = 0) (hk3 : k3 < 41 ∧ tyC k3 = 0) (hw : g_Or_rulesSo I A a1 k2 k3 a4 P) : ∀ sz, Met l y_Or_rulesSo (WL y_Or_rulesSo c_Or_rulesSo 12 (some .int)) { frames := 3, cells := 0, slots := 0, locals := 70 } (va_Pc [.ref (ad 3), .int a1, .ref (ad (k2 + 8)), .ref (ad (k3 + 8)), .int a4] (PreW D cy (wC cy ad I A T L K F) sz)) (vp_Si P) 0 0 (fun _ => False) := by
  refine met_p R_Or .int db_Or_rulesSo (by decide) rfl rfl (Nat.le_of_ble_eq_true rfl) ?_
  intro p e s m below meth c Z Q ls C h hl hret
  have hl : lv_has ls 12 [(0, .ref (ad 3)), (1, .int a1), (2, .ref (ad (k2 + 8))), (3, .ref (ad (k3 + 8))), (4, .int a4)] := hl
  refine i_aload_n (n := 1) C 0 rfl rfl rfl hl 0 rfl ?_
  refine i_iload_n (n := 2) C 1 rfl rfl rfl hl 1 rfl ?_
  refine i_callVp (rest := []) (ci := 6) (qc := (R_Or, T_Or, 6)) (n := 5) C 2 rfl rfl hl h rfl (wC_get (h := 3) (by decide)) (kV_Or_61 ⟨by decide, by decide⟩) (m_Or_hasOrder hw) rfl rfl (Nat.le_of_ble_eq_true rfl) ⟨by decide, by decide⟩ (fun r1 hw => ?_)
  refine i_if_ne (tgt := 10) (n := 8) C 3 rfl rfl rfl (fun c2 => ?_) (fun c2 => ?_)
  · replace hw := hw.1 c2
    refine i_iconst (v := (0 : Int32)) (n := 11) C 6 rfl rfl rfl ?_
    refine i_istore (lv' := [(5, .int (0 : Int32)), (0, .ref (ad 3)), (1, .int a1), (2, .ref (ad (k2 + 8))), (3, .ref (ad (k3 + 8))), (4, .int a4)]) (n := 13) C 7 rfl rfl hl (by decide) rfl (fun ls hl => ?_)
    refine i_iconst (v := (0 : Int32)) (n := 14) C 8 rfl rfl rfl ?_
    refine i_istore (lv' := [(6, .int (0 : Int32)), (5, .int (0 : Int32)), (0, .ref (ad 3)), (1, .int a1), (2, .ref (ad (k2 + 8))), (3, .ref (ad (k3 + 8))), (4, .int a4)]) (n := 16) C 9 rfl rfl hl (by decide) rfl (fun ls hl => ?_)
    refine i_iconst (v := (0 : Int32)) (n := 17) C 10 rfl rfl rfl ?_
    refine i_istore (lv' := [(7, .int (0 : Int32)), (6, .int (0 : Int32)), (5, .int (0 : Int32)), (0, .ref (ad 3)), (1, .int a1), (2, .ref (ad (k2 + 8))), (3, .ref (ad (k3 + 8))), (4, .int a4)]) (n := 19) C 11 rfl rfl hl (by decide) rfl (fun ls hl => ?_)
    refine i_iconst (v := (1 : Int32)) (n := 20) C 12 rfl rfl rfl ?_
    refine i_istore (lv' := [(8, .int (1 : Int32)), (7, .int (0 : Int32)), (6, .int (0 : Int32)), (5, .int (0 : Int32)), (0, .ref (ad 3)), (1, .int a1), (2, .ref (ad (k2 + 8))), (3, .ref (ad (k3 + 8))), (4, .int a4)]) (n := 22) C 13 rfl rfl hl (by decide) rfl (fun ls hl => ?_)
    refine i_iconst (v := (0 : Int32)) (n := 23) C 14 rfl rfl rfl ?_
    refine i_istore (lv' := [(9, .int (0 : Int32)), (8, .int (1 : Int32)), (7, .int (0 : Int32)), (6, .int (0 : Int32)), (5, .int (0 : Int32)), (0, .ref (ad 3)), (1, .int a1), (2, .ref (ad (k2 + 8))), (3, .ref (ad (k3 + 8))), (4, .int a4)]) (n := 25) C 15 rfl rfl hl (by decide) rfl (fun ls hl => ?_)
    obtain ⟨n19, hw⟩ := hw
    refine e_Or_rulesSo_25 C h hk2 hk3 hret (fun x5_19 ls hl hw => ?_) n19 (0 : Int32) (0 : Int32) (0 : Int32) (1 : Int32) (0 : Int32) ls (lv_sub hl [5, 6, 7, 8, 9, 4, 3, 2, 1, 0] rfl) hw
    have hl : lv_has ls 12 [(5, .int x5_19)] := hl
    refine i_iload (n := 163) C 90 rfl rfl hl 0 rfl ?_
    exact hret _ _ _ rfl hw (C.dg (k := 91) rfl)
  · replace hw := hw.2 c2
    refine i_iconst (v := (0 : Int32)) (n := 9) C 4 rfl rfl rfl ?_
    exact hret _ _ _ rfl hw (C.dg (k := 5) rfl)
end S133
