theorem kV_Pl_38 {R : Room} {s : State} {args : Array Value} (hR : 2 + 1 ≤ R.frames ∧ 8 + (2 + 11) + 44 ≤ R.locals) (ht : ∀ w ∈ GW, w.before args s = true) : CallW R s args R_Pl R_Pl 38 y_Pl_prepare c_Pl_prepare 2 none (WL y_Pl_prepare c_Pl_prepare 2 none) { frames := 2, cells := 0, slots := 0, locals := 44 } 0 0 0 := cwV 0 ht (GW_v w_5_48 w_5_50 w_0_23 w_1_5 (GW_wl w_5_51)) rfl rfl rfl (by decide +kernel) hR
theorem kV_Pl_41 {R : Room} {s : State} {args : Array Value} (hR : 22 + 1 ≤ R.frames ∧ 8 + (7 + 11) + 1100 ≤ R.locals) (ht : ∀ w ∈ GW, w.before args s = true) : CallW R s args R_Pl R_Pl 41 y_Pl_leastCoal c_Pl_leastCoal 7 (some .int) (WL y_Pl_leastCoal c_Pl_leastCoal 7 (some .int)) { frames := 22, cells := 0, slots := 0, locals := 1100 } 0 0 3 := cwV 3 ht (GW_v w_5_57 w_5_59 w_0_24 w_1_5 (GW_wl w_5_60)) rfl rfl rfl (by decide +kernel) hR
section S165
variable {p : Program} {l : Launch} {e : Env} {R : Room} {s : State} {m : MethodId} {args : Array Value} {below : List Frame} {meth : Method} {c : Code} {H : Heap} {locs : List Loc} {cells slots : Nat} {Q : State → Prop}
variable {cc : ByteArray} {pc n nL : Nat} {ls : Array Slot} {rest : List Value} {D : va_G} {cy : Nat → ClassId} {Z : Nat → Prop} {ad : Nat → Nat} {tb : List (Nat × Instr × Nat)} {lv : List (Nat × Value)}
set_option maxHeartbeats 4000000 in
set_option maxRecDepth 100000 in
theorem m_Pl_coalFrom {l : Launch} {D : va_G} {cy : Nat → ClassId} {ad : Nat → Nat} {I : Nat → Int32} {A : Nat → Nat → Int32} {T : Nat → Option Nat} {L : List Nat} {K : Nat → Nat} {F : Nat → Nat → Int32} {a1 : Int32} {P : Int32 → ((Nat → Int32) × (Nat → Nat → Int32)) → Prop} (hw : g_Pl_coalFrom I A a1 P) : ∀ sz, Met l y_Pl_coalFrom (WL y_Pl_coalFrom c_Pl_coalFrom 2 (some .int)) { frames := 23, cells := 0, slots := 0, locals := 1126 } (va_Pc [.ref (ad 4), .int a1] (PreW D cy (wC cy ad I A T L K F) sz)) (va_Qi P (fun u t => PostW D (va_A (wC cy ad I A T L K F) sz) ((fun (u : (Nat → Int32) × (Nat → Nat → Int32)) => wC cy ad u.1 u.2 T L K F) u) t) (va_A (wC cy ad I A T L K F) sz)) 0 0 (va_A (wC cy ad I A T L K F) sz) := by
  refine met_i (wf := fun (u : (Nat → Int32) × (Nat → Nat → Int32)) => wC cy ad u.1 u.2 T L K F) R_Pl .int db_Pl_coalFrom (by decide) rfl rfl (Nat.le_of_ble_eq_true rfl) ?_
  intro p e s m below meth c Z Q ls C h hl hret
  have hl : lv_has ls 2 [(0, .ref (ad 4)), (1, .int a1)] := hl
  refine i_aload_n (n := 1) C 0 rfl rfl rfl hl 0 rfl ?_
  refine i_callVv (rest := []) (ci := 8) (qc := (R_Pl, T_Pl, 8)) (n := 4) C 1 rfl rfl hl h rfl (wC_get (h := 4) (by decide)) (kV_Pl_38 ⟨by decide, by decide⟩) (m_Pl_prepare hw) rfl rfl (Nat.le_of_ble_eq_true rfl) ⟨by decide, by decide⟩ (fun u1 H locs hw h => ?_)
  refine i_aload_n (n := 5) C 2 rfl rfl rfl hl 0 rfl ?_
  refine i_iconst (v := (0 : Int32)) (n := 6) C 3 rfl rfl rfl ?_
  refine i_iconst (v := (0 : Int32)) (n := 7) C 4 rfl rfl rfl ?_
  refine i_iload_n (n := 8) C 5 rfl rfl rfl hl 1 rfl ?_
  refine i_callVi (rest := []) (ci := 8) (qc := (R_Pl, T_Pl, 8)) (n := 11) C 6 rfl rfl hl h rfl (wC_get (h := 4) (by decide)) (kV_Pl_41 ⟨by decide, by decide⟩) (M_least 10 hw) rfl rfl (Nat.le_of_ble_eq_true rfl) ⟨by decide, by decide⟩ (fun r2 u3 H locs hw h => ?_)
  exact hret _ (u1.1, u3) _ _ _ _ rfl hw h (C.dg (k := 7) rfl)
end S165
theorem kV_Pl_72 {R : Room} {s : State} {args : Array Value} (hR : 23 + 1 ≤ R.frames ∧ 8 + (5 + 11) + 1150 ≤ R.locals) (ht : ∀ w ∈ GW, w.before args s = true) : CallW R s args R_Pl R_Pl 72 y_Pl_coalIfLit c_Pl_coalIfLit 5 (some .int) (WL y_Pl_coalIfLit c_Pl_coalIfLit 5 (some .int)) { frames := 23, cells := 0, slots := 0, locals := 1150 } 0 0 4 := cwV 4 ht (GW_v w_5_62 w_5_64 w_0_25 w_1_5 (GW_wl w_5_65)) rfl rfl rfl (by decide +kernel) hR
section S166
variable {p : Program} {l : Launch} {e : Env} {R : Room} {s : State} {m : MethodId} {args : Array Value} {below : List Frame} {meth : Method} {c : Code} {H : Heap} {locs : List Loc} {cells slots : Nat} {Q : State → Prop}
variable {cc : ByteArray} {pc n nL : Nat} {ls : Array Slot} {rest : List Value} {D : va_G} {cy : Nat → ClassId} {Z : Nat → Prop} {ad : Nat → Nat} {tb : List (Nat × Instr × Nat)} {lv : List (Nat × Value)}
set_option maxHeartbeats 4000000 in
set_option maxRecDepth 100000 in
theorem e_Pl_firstBest_12 {I : Nat → Int32} {T : Nat → Option Nat} {L : List Nat} {K : Nat → Nat} {F : Nat → Nat → Int32} {a1 : Int32} {a2 : Int32} {a3 : Int32} {P : Int32 → ((Nat → Nat → Int32)) → Prop} {kx12 : (Nat → Nat → Int32) → Prop} (C : CX D cy R_Pl c_Pl_firstBest tb_Pl_firstBest 6 p s m args c Z) (hret : RetI p l e { frames := 24, cells := 0, slots := 0, locals := 1174 } s m args below meth c c_Pl_firstBest .int D Z Q (fun (u : (Nat → Nat → Int32)) => wC cy ad I u T L K F) P 0 0)
    (hx12 : ∀ (A : Nat → Nat → Int32) (ls : Array Slot) (H : Heap) (locs : List Loc), lv_has ls 6 [] → HXw D Z s.heap H locs (wC cy ad I A T L K F) → kx12 A → W p l e { frames := 24, cells := 0, slots := 0, locals := 1174 } s m args below meth c H locs 0 0 Q (F0 m 42 ls [])) :
    ∀ (n : Nat) (A : Nat → Nat → Int32) (x4 : Int32) (x5 : Int32) (ls : Array Slot) (H : Heap) (locs : List Loc), lv_has ls 6 [(0, .ref (ad 4)), (1, .int a1), (2, .int a2), (3, .int a3), (4, .int x4), (5, .int x5)] → HXw D Z s.heap H locs (wC cy ad I A T L K F) → g_Pl_firstBest_12 I a1 a2 a3 P kx12 n A x4 x5 → W p l e { frames := 24, cells := 0, slots := 0, locals := 1174 } s m args below meth c H locs 0 0 Q (F0 m 12 ls []) := by
  intro n
  induction n with
  | zero => intro A x4 x5 ls H locs hl h hw; exact hw.elim
  | succ n ih =>
    intro A x4 x5 ls H locs hl h hw
    refine i_iload (n := 14) C 8 rfl rfl hl 5 rfl ?_
    refine i_bipush (v := (8 : Int32)) (n := 16) C 9 rfl rfl rfl ?_
    refine i_icmp_ge (tgt := 42) (n := 19) C 10 rfl rfl rfl (fun c3 => ?_) (fun c3 => ?_)
    · replace hw := hw.1 c3
      exact hx12 A ls _ _ (lv_sub hl [] rfl) h hw
    · replace hw := hw.2 c3
      refine i_aload_n (n := 20) C 11 rfl rfl rfl hl 0 rfl ?_
      refine i_iload_n (n := 21) C 12 rfl rfl rfl hl 1 rfl ?_
      refine i_iload_n (n := 22) C 13 rfl rfl rfl hl 2 rfl ?_
      refine i_iload (n := 24) C 14 rfl rfl hl 5 rfl ?_
      refine i_iload_n (n := 25) C 15 rfl rfl rfl hl 3 rfl ?_
      refine i_callVi (rest := []) (ci := 8) (qc := (R_Pl, T_Pl, 8)) (n := 28) C 16 rfl rfl hl h rfl (wC_get (h := 4) (by decide)) (kV_Pl_72 ⟨by decide, by decide⟩) (m_Pl_coalIfLit (d := 10) (M_least 10) hw) rfl rfl (Nat.le_of_ble_eq_true rfl) ⟨by decide, by decide⟩ (fun r4 u5 H locs hw h => ?_)
      refine i_iload (n := 30) C 17 rfl rfl hl 4 rfl ?_
      refine i_icmp_ne (tgt := 36) (n := 33) C 18 rfl rfl rfl (fun c6 => ?_) (fun c6 => ?_)
      · replace hw := hw.1 c6
        refine i_iinc (v := x5 + (1 : Int32)) (lv' := [(5, .int (x5 + (1 : Int32))), (0, .ref (ad 4)), (1, .int a1), (2, .int a2), (3, .int a3), (4, .int x4)]) (n := 39) C 21 rfl rfl hl 5 rfl rfl (by decide) rfl (fun ls hl => ?_)
        refine i_goto (tgt := 12) C 22 rfl rfl ?_
        exact ih u5 x4 (x5 + (1 : Int32)) ls _ _ (lv_sub hl [1, 2, 3, 4, 5, 0] rfl) h hw
      · replace hw := hw.2 c6
        refine i_iload (n := 35) C 19 rfl rfl hl 5 rfl ?_
        exact hret _ u5 _ _ _ _ rfl hw h (C.dg (k := 20) rfl)
set_option maxHeartbeats 4000000 in
set_option maxRecDepth 100000 in
theorem m_Pl_firstBest {l : Launch} {D : va_G} {cy : Nat → ClassId} {ad : Nat → Nat} {I : Nat → Int32} {A : Nat → Nat → Int32} {T : Nat → Option Nat} {L : List Nat} {K : Nat → Nat} {F : Nat → Nat → Int32} {a1 : Int32} {a2 : Int32} {a3 : Int32} {P : Int32 → ((Nat → Nat → Int32)) → Prop} (hw : g_Pl_firstBest I A a1 a2 a3 P) : ∀ sz, Met l y_Pl_firstBest (WL y_Pl_firstBest c_Pl_firstBest 6 (some .int)) { frames := 24, cells := 0, slots := 0, locals := 1174 } (va_Pc [.ref (ad 4), .int a1, .int a2, .int a3] (PreW D cy (wC cy ad I A T L K F) sz)) (va_Qi P (fun u t => PostW D (va_A (wC cy ad I A T L K F) sz) ((fun (u : (Nat → Nat → Int32)) => wC cy ad I u T L K F) u) t) (va_A (wC cy ad I A T L K F) sz)) 0 0 (va_A (wC cy ad I A T L K F) sz) := by
  refine met_i (wf := fun (u : (Nat → Nat → Int32)) => wC cy ad I u T L K F) R_Pl .int db_Pl_firstBest (by decide) rfl rfl (Nat.le_of_ble_eq_true rfl) ?_
  intro p e s m below meth c Z Q ls C h hl hret
  have hl : lv_has ls 6 [(0, .ref (ad 4)), (1, .int a1), (2, .int a2), (3, .int a3)] := hl
  refine i_aload_n (n := 1) C 0 rfl rfl rfl hl 0 rfl ?_
  refine i_iload_n (n := 2) C 1 rfl rfl rfl hl 1 rfl ?_
  refine i_iload_n (n := 3) C 2 rfl rfl rfl hl 2 rfl ?_
  refine i_iload_n (n := 4) C 3 rfl rfl rfl hl 3 rfl ?_
  refine i_callVi (rest := []) (ci := 8) (qc := (R_Pl, T_Pl, 8)) (n := 7) C 4 rfl rfl hl h rfl (wC_get (h := 4) (by decide)) (kV_Pl_41 ⟨by decide, by decide⟩) (M_least 10 hw) rfl rfl (Nat.le_of_ble_eq_true rfl) ⟨by decide, by decide⟩ (fun r1 u2 H locs hw h => ?_)
  refine i_istore (lv' := [(4, .int r1), (0, .ref (ad 4)), (1, .int a1), (2, .int a2), (3, .int a3)]) (n := 9) C 5 rfl rfl hl (by decide) rfl (fun ls hl => ?_)
  refine i_iconst (v := (0 : Int32)) (n := 10) C 6 rfl rfl rfl ?_
  refine i_istore (lv' := [(5, .int (0 : Int32)), (4, .int r1), (0, .ref (ad 4)), (1, .int a1), (2, .int a2), (3, .int a3)]) (n := 12) C 7 rfl rfl hl (by decide) rfl (fun ls hl => ?_)
  obtain ⟨n7, hw⟩ := hw
  refine e_Pl_firstBest_12 C hret (fun A_7 ls H locs hl h hw => ?_) n7 u2 r1 (0 : Int32) ls _ _ (lv_sub hl [2, 3, 4, 5, 1, 0] rfl) h hw
  have hl : lv_has ls 6 [] := hl
  refine i_iconst (v := (0 : Int32)) (n := 43) C 23 rfl rfl rfl ?_
  exact hret _ A_7 _ _ _ _ rfl hw h (C.dg (k := 24) rfl)
end S166
theorem kV_Pl_45 {R : Room} {s : State} {args : Array Value} (hR : 24 + 1 ≤ R.frames ∧ 8 + (6 + 11) + 1174 ≤ R.locals) (ht : ∀ w ∈ GW, w.before args s = true) : CallW R s args R_Pl R_Pl 45 y_Pl_firstBest c_Pl_firstBest 6 (some .int) (WL y_Pl_firstBest c_Pl_firstBest 6 (some .int)) { frames := 24, cells := 0, slots := 0, locals := 1174 } 0 0 3 := cwV 3 ht (GW_v w_5_75 w_5_77 w_0_27 w_1_5 (GW_wl w_5_78)) rfl rfl rfl (by decide +kernel) hR
section S167
variable {p : Program} {l : Launch} {e : Env} {R : Room} {s : State} {m : MethodId} {args : Array Value} {below : List Frame} {meth : Method} {c : Code} {H : Heap} {locs : List Loc} {cells slots : Nat} {Q : State → Prop}
variable {cc : ByteArray} {pc n nL : Nat} {ls : Array Slot} {rest : List Value} {D : va_G} {cy : Nat → ClassId} {Z : Nat → Prop} {ad : Nat → Nat} {tb : List (Nat × Instr × Nat)} {lv : List (Nat × Value)}
set_option maxHeartbeats 4000000 in
set_option maxRecDepth 100000 in
theorem e_Pl_litIn_27 {T : Nat → Option Nat} {L : List Nat} {K : Nat → Nat} {F : Nat → Nat → Int32} {a1 : Int32} {a2 : Int32} {P : Int32 → ((Nat → Int32) × (Nat → Nat → Int32)) → Prop} {kx27 : (Nat → Int32) → (Nat → Nat → Int32) → Int32 → Prop} (C : CX D cy R_Pl c_Pl_litIn tb_Pl_litIn 7 p s m args c Z) (hret : RetI p l e { frames := 25, cells := 0, slots := 0, locals := 1199 } s m args below meth c c_Pl_litIn .int D Z Q (fun (u : (Nat → Int32) × (Nat → Nat → Int32)) => wC cy ad u.1 u.2 T L K F) P 0 0)
    (hx27 : ∀ (I : Nat → Int32) (A : Nat → Nat → Int32) (x3 : Int32) (ls : Array Slot) (H : Heap) (locs : List Loc), lv_has ls 7 [(3, .int x3)] → HXw D Z s.heap H locs (wC cy ad I A T L K F) → kx27 I A x3 → W p l e { frames := 25, cells := 0, slots := 0, locals := 1199 } s m args below meth c H locs 0 0 Q (F0 m 67 ls [])) :
    ∀ (n : Nat) (I : Nat → Int32) (A : Nat → Nat → Int32) (x3 : Int32) (x4 : Int32) (x5 : Int32) (ls : Array Slot) (H : Heap) (locs : List Loc), lv_has ls 7 [(0, .ref (ad 4)), (1, .int a1), (3, .int x3), (4, .int x4), (5, .int x5)] → HXw D Z s.heap H locs (wC cy ad I A T L K F) → g_Pl_litIn_27 a1 a2 P kx27 n I A x3 x4 x5 → W p l e { frames := 25, cells := 0, slots := 0, locals := 1199 } s m args below meth c H locs 0 0 Q (F0 m 27 ls []) := by
  intro n
  induction n with
  | zero => intro I A x3 x4 x5 ls H locs hl h hw; exact hw.elim
  | succ n ih =>
    intro I A x3 x4 x5 ls H locs hl h hw
    refine i_iload (n := 29) C 16 rfl rfl hl 4 rfl ?_
    refine i_iload_n (n := 30) C 17 rfl rfl rfl hl 1 rfl ?_
    refine i_icmp_gt (tgt := 67) (n := 33) C 18 rfl rfl rfl (fun c4 => ?_) (fun c4 => ?_)
    · replace hw := hw.1 c4
      exact hx27 I A x3 ls _ _ (lv_sub hl [2] rfl) h hw
    · replace hw := hw.2 c4
      refine i_aload_n (n := 34) C 19 rfl rfl rfl hl 0 rfl ?_
      refine i_iload (n := 36) C 20 rfl rfl hl 4 rfl ?_
      refine i_iload_n (n := 37) C 21 rfl rfl rfl hl 2 rfl ?_
      refine i_iload (n := 39) C 22 rfl rfl hl 3 rfl ?_
      refine i_callVi (rest := []) (ci := 8) (qc := (R_Pl, T_Pl, 8)) (n := 42) C 23 rfl rfl hl h rfl (wC_get (h := 4) (by decide)) (kV_Pl_45 ⟨by decide, by decide⟩) (m_Pl_firstBest hw) rfl rfl (Nat.le_of_ble_eq_true rfl) ⟨by decide, by decide⟩ (fun r5 u6 H locs hw h => ?_)
      refine i_istore (lv' := [(6, .int r5), (0, .ref (ad 4)), (1, .int a1), (3, .int x3), (4, .int x4), (5, .int x5)]) (n := 44) C 24 rfl rfl hl (by decide) rfl (fun ls hl => ?_)
      refine i_aload_n (n := 45) C 25 rfl rfl rfl hl 1 rfl ?_
      refine i_iload (n := 47) C 26 rfl rfl hl 5 rfl ?_
      refine i_iload_n (n := 48) C 27 rfl rfl rfl hl 3 rfl ?_
      refine i_iload (n := 50) C 28 rfl rfl hl 0 rfl ?_
      refine i_iand (n := 51) C 29 rfl rfl ?_
      refine i_iload (n := 53) C 30 rfl rfl hl 4 rfl ?_
      refine i_callVp (rest := []) (ci := 8) (qc := (R_Pl, T_Pl, 8)) (n := 56) C 31 rfl rfl hl h rfl (wC_get (h := 4) (by decide)) (kV_Pl_48 ⟨by decide, by decide⟩) (m_Pl_weightsBehind hw) rfl rfl (Nat.le_of_ble_eq_true rfl) ⟨by decide, by decide⟩ (fun r7 hw => ?_)
      refine i_istore (lv' := [(4, .int r7), (6, .int r5), (0, .ref (ad 4)), (1, .int a1), (3, .int x3), (5, .int x5)]) (n := 58) C 32 rfl rfl hl (by decide) rfl (fun ls hl => ?_)
      refine i_iload (n := 60) C 33 rfl rfl hl 1 rfl ?_
      refine i_istore_n (lv' := [(3, .int r5), (4, .int r7), (6, .int r5), (0, .ref (ad 4)), (1, .int a1), (5, .int x5)]) (n := 61) C 34 rfl rfl rfl hl (by decide) rfl (fun ls hl => ?_)
      refine i_iinc (v := x5 + (1 : Int32)) (lv' := [(5, .int (x5 + (1 : Int32))), (3, .int r5), (4, .int r7), (6, .int r5), (0, .ref (ad 4)), (1, .int a1)]) (n := 64) C 35 rfl rfl hl 5 rfl rfl (by decide) rfl (fun ls hl => ?_)
      refine i_goto (tgt := 27) C 36 rfl rfl ?_
      exact ih I u6 r5 r7 (x5 + (1 : Int32)) ls _ _ (lv_sub hl [4, 5, 1, 2, 0] rfl) h hw
set_option maxHeartbeats 4000000 in
set_option maxRecDepth 100000 in
theorem m_Pl_litIn {l : Launch} {D : va_G} {cy : Nat → ClassId} {ad : Nat → Nat} {I : Nat → Int32} {A : Nat → Nat → Int32} {T : Nat → Option Nat} {L : List Nat} {K : Nat → Nat} {F : Nat → Nat → Int32} {a1 : Int32} {a2 : Int32} {P : Int32 → ((Nat → Int32) × (Nat → Nat → Int32)) → Prop} (hw : g_Pl_litIn I A a1 a2 P) : ∀ sz, Met l y_Pl_litIn (WL y_Pl_litIn c_Pl_litIn 7 (some .int)) { frames := 25, cells := 0, slots := 0, locals := 1199 } (va_Pc [.ref (ad 4), .int a1, .int a2] (PreW D cy (wC cy ad I A T L K F) sz)) (va_Qi P (fun u t => PostW D (va_A (wC cy ad I A T L K F) sz) ((fun (u : (Nat → Int32) × (Nat → Nat → Int32)) => wC cy ad u.1 u.2 T L K F) u) t) (va_A (wC cy ad I A T L K F) sz)) 0 0 (va_A (wC cy ad I A T L K F) sz) := by
  refine met_i (wf := fun (u : (Nat → Int32) × (Nat → Nat → Int32)) => wC cy ad u.1 u.2 T L K F) R_Pl .int db_Pl_litIn (by decide) rfl rfl (Nat.le_of_ble_eq_true rfl) ?_
  intro p e s m below meth c Z Q ls C h hl hret
  have hl : lv_has ls 7 [(0, .ref (ad 4)), (1, .int a1), (2, .int a2)] := hl
  refine i_iload_n (n := 1) C 0 rfl rfl rfl hl 1 rfl ?_
  refine i_if_lt (tgt := 12) (n := 4) C 1 rfl rfl rfl (fun c1 => ?_) (fun c1 => ?_)
  · replace hw := hw.1 c1
    refine i_bipush (v := (-6 : Int32)) (n := 14) C 6 rfl rfl rfl ?_
    exact hret _ (I, A) _ _ _ _ rfl hw h (C.dg (k := 7) rfl)
  · replace hw := hw.2 c1
    refine i_iload_n (n := 5) C 2 rfl rfl rfl hl 1 rfl ?_
    refine i_aload_n (n := 6) C 3 rfl rfl rfl hl 0 rfl ?_
    refine fgC_Pl_30 (n := 9) C 4 rfl rfl h ?_
    refine i_icmp_lt (tgt := 15) (n := 12) C 5 rfl rfl rfl (fun c2 => ?_) (fun c2 => ?_)
    · replace hw := hw.1 c2
      refine i_aload_n (n := 16) C 8 rfl rfl rfl hl 0 rfl ?_
      refine i_callVv (rest := []) (ci := 8) (qc := (R_Pl, T_Pl, 8)) (n := 19) C 9 rfl rfl hl h rfl (wC_get (h := 4) (by decide)) (kV_Pl_38 ⟨by decide, by decide⟩) (m_Pl_prepare hw) rfl rfl (Nat.le_of_ble_eq_true rfl) ⟨by decide, by decide⟩ (fun u3 H locs hw h => ?_)
      refine i_iconst (v := (0 : Int32)) (n := 20) C 10 rfl rfl rfl ?_
      refine i_istore_n (lv' := [(3, .int (0 : Int32)), (0, .ref (ad 4)), (1, .int a1), (2, .int a2)]) (n := 21) C 11 rfl rfl rfl hl (by decide) rfl (fun ls hl => ?_)
      refine i_iload_n (n := 22) C 12 rfl rfl rfl hl 3 rfl ?_
      refine i_istore (lv' := [(4, .int a2), (3, .int (0 : Int32)), (0, .ref (ad 4)), (1, .int a1), (2, .int a2)]) (n := 24) C 13 rfl rfl hl (by decide) rfl (fun ls hl => ?_)
      refine i_iconst (v := (0 : Int32)) (n := 25) C 14 rfl rfl rfl ?_
      refine i_istore (lv' := [(5, .int (0 : Int32)), (4, .int a2), (3, .int (0 : Int32)), (0, .ref (ad 4)), (1, .int a1), (2, .int a2)]) (n := 27) C 15 rfl rfl hl (by decide) rfl (fun ls hl => ?_)
      obtain ⟨n8, hw⟩ := hw
      refine e_Pl_litIn_27 C hret (fun I_8 A_8 x3_8 ls H locs hl h hw => ?_) n8 u3.1 u3.2 (0 : Int32) a2 (0 : Int32) ls _ _ (lv_sub hl [3, 4, 2, 1, 0] rfl) h hw
      have hl : lv_has ls 7 [(3, .int x3_8)] := hl
      refine i_iload_n (n := 68) C 37 rfl rfl rfl hl 0 rfl ?_
      exact hret _ (I_8, A_8) _ _ _ _ rfl hw h (C.dg (k := 38) rfl)
    · replace hw := hw.2 c2
      refine i_bipush (v := (-6 : Int32)) (n := 14) C 6 rfl rfl rfl ?_
      exact hret _ (I, A) _ _ _ _ rfl hw h (C.dg (k := 7) rfl)
end S167
theorem kV_Pw_341 {R : Room} {s : State} {args : Array Value} (hR : 23 + 1 ≤ R.frames ∧ 8 + (2 + 11) + 1126 ≤ R.locals) (ht : ∀ w ∈ GW, w.before args s = true) : CallW R s args R_Pw R_Pl 341 y_Pl_coalFrom c_Pl_coalFrom 2 (some .int) (WL y_Pl_coalFrom c_Pl_coalFrom 2 (some .int)) { frames := 23, cells := 0, slots := 0, locals := 1126 } 0 0 1 := cwV 1 ht (GW_v w_5_44 w_5_45 w_5_46 w_1_5 (GW_wl w_5_47)) rfl rfl rfl (by decide +kernel) hR
theorem kV_Pw_344 {R : Room} {s : State} {args : Array Value} (hR : 25 + 1 ≤ R.frames ∧ 8 + (7 + 11) + 1199 ≤ R.locals) (ht : ∀ w ∈ GW, w.before args s = true) : CallW R s args R_Pw R_Pl 344 y_Pl_litIn c_Pl_litIn 7 (some .int) (WL y_Pl_litIn c_Pl_litIn 7 (some .int)) { frames := 25, cells := 0, slots := 0, locals := 1199 } 0 0 2 := cwV 2 ht (GW_v w_5_71 w_5_72 w_5_73 w_1_5 (GW_wl w_5_74)) rfl rfl rfl (by decide +kernel) hR
section S168
variable {p : Program} {l : Launch} {e : Env} {R : Room} {s : State} {m : MethodId} {args : Array Value} {below : List Frame} {meth : Method} {c : Code} {H : Heap} {locs : List Loc} {cells slots : Nat} {Q : State → Prop}
variable {cc : ByteArray} {pc n nL : Nat} {ls : Array Slot} {rest : List Value} {D : va_G} {cy : Nat → ClassId} {Z : Nat → Prop} {ad : Nat → Nat} {tb : List (Nat × Instr × Nat)} {lv : List (Nat × Value)}
set_option maxHeartbeats 4000000 in
set_option maxRecDepth 100000 in
theorem m_Pw_best {l : Launch} {D : va_G} {cy : Nat → ClassId} {ad : Nat → Nat} {I : Nat → Int32} {A : Nat → Nat → Int32} {T : Nat → Option Nat} {L : List Nat} {K : Nat → Nat} {F : Nat → Nat → Int32} {a1 : Int32} {a2 : Int32} {P : Int32 → ((Nat → Int32) × (Nat → Nat → Int32)) → Prop} (hw : g_Pw_best I A a1 a2 P) : ∀ sz, Met l y_Pw_best (WL y_Pw_best c_Pw_best 4 (some .int)) { frames := 26, cells := 0, slots := 0, locals := 1225 } (va_Pc [.ref (ad 0), .int a1, .int a2] (PreW D cy (wC cy ad I A T L K F) sz)) (va_Qi P (fun u t => PostW D (va_A (wC cy ad I A T L K F) sz) ((fun (u : (Nat → Int32) × (Nat → Nat → Int32)) => wC cy ad u.1 u.2 T L K F) u) t) (va_A (wC cy ad I A T L K F) sz)) 0 0 (va_A (wC cy ad I A T L K F) sz) := by
  refine met_i (wf := fun (u : (Nat → Int32) × (Nat → Nat → Int32)) => wC cy ad u.1 u.2 T L K F) R_Pw .int db_Pw_best (by decide) rfl rfl (Nat.le_of_ble_eq_true rfl) ?_
  intro p e s m below meth c Z Q ls C h hl hret
  have hl : lv_has ls 4 [(0, .ref (ad 0)), (1, .int a1), (2, .int a2)] := hl
  refine i_iload_n (n := 1) C 0 rfl rfl rfl hl 1 rfl ?_
  refine i_iconst (v := (0 : Int32)) (n := 2) C 1 rfl rfl rfl ?_
  refine i_sipush (v := (200 : Int32)) (n := 5) C 2 rfl rfl rfl ?_
  refine i_callSp (rest := []) (n := 8) C 3 rfl rfl hl h (kS_Pw_69 ⟨by decide, by decide⟩) (m_Pw_isWithin hw) rfl rfl (Nat.le_of_ble_eq_true rfl) ⟨by decide, by decide⟩ (fun r1 hw => ?_)
  refine i_if_ne (tgt := 14) (n := 11) C 4 rfl rfl rfl (fun c2 => ?_) (fun c2 => ?_)
  · replace hw := hw.1 c2
    refine i_aload_n (n := 15) C 7 rfl rfl rfl hl 0 rfl ?_
    refine fgC_Pw_31 (n := 18) C 8 rfl rfl h ?_
    refine i_iload_n (n := 19) C 9 rfl rfl rfl hl 1 rfl ?_
    refine i_callVi (rest := []) (ci := 8) (qc := (R_Pl, T_Pl, 8)) (n := 22) C 10 rfl rfl hl h rfl (wC_get (h := 4) (by decide)) (kV_Pw_341 ⟨by decide, by decide⟩) (m_Pl_coalFrom hw) rfl rfl (Nat.le_of_ble_eq_true rfl) ⟨by decide, by decide⟩ (fun r3 u4 H locs hw h => ?_)
    refine i_istore_n (lv' := [(3, .int r3), (0, .ref (ad 0)), (1, .int a1), (2, .int a2)]) (n := 23) C 11 rfl rfl rfl hl (by decide) rfl (fun ls hl => ?_)
    refine i_iload_n (n := 24) C 12 rfl rfl rfl hl 0 rfl ?_
    refine i_ldcw (n := 27) C 13 rfl rfl w_4_84 ?_
    refine i_icmp_lt (tgt := 33) (n := 30) C 14 rfl rfl rfl (fun c5 => ?_) (fun c5 => ?_)
    · replace hw := hw.1 c5
      refine i_iload_n (n := 34) C 17 rfl rfl rfl hl 3 rfl ?_
      refine i_iconst (v := (-1 : Int32)) (n := 35) C 18 rfl rfl rfl ?_
      refine i_icmp_ne (tgt := 42) (n := 38) C 19 rfl rfl rfl (fun c6 => ?_) (fun c6 => ?_)
      · replace hw := hw.1 c6
        refine i_aload_n (n := 43) C 22 rfl rfl rfl hl 1 rfl ?_
        refine fgC_Pw_31 (n := 46) C 23 rfl rfl h ?_
        refine i_iload_n (n := 47) C 24 rfl rfl rfl hl 3 rfl ?_
        refine i_iload_n (n := 48) C 25 rfl rfl rfl hl 2 rfl ?_
        refine i_callVi (rest := []) (ci := 8) (qc := (R_Pl, T_Pl, 8)) (n := 51) C 26 rfl rfl hl h rfl (wC_get (h := 4) (by decide)) (kV_Pw_344 ⟨by decide, by decide⟩) (m_Pl_litIn hw) rfl rfl (Nat.le_of_ble_eq_true rfl) ⟨by decide, by decide⟩ (fun r7 u8 H locs hw h => ?_)
        exact hret _ (u8.1, u8.2) _ _ _ _ rfl hw h (C.dg (k := 27) rfl)
      · replace hw := hw.2 c6
        refine i_iload_n (n := 39) C 20 rfl rfl rfl hl 0 rfl ?_
        refine i_goto (tgt := 51) C 21 rfl rfl ?_
        exact hret _ (u4.1, u4.2) _ _ _ _ rfl hw h (C.dg (k := 27) rfl)
    · replace hw := hw.2 c5
      refine i_bipush (v := (-5 : Int32)) (n := 32) C 15 rfl rfl rfl ?_
      exact hret _ (u4.1, u4.2) _ _ _ _ rfl hw h (C.dg (k := 16) rfl)
  · replace hw := hw.2 c2
    refine i_bipush (v := (-2 : Int32)) (n := 13) C 5 rfl rfl rfl ?_
    exact hret _ (I, A) _ _ _ _ rfl hw h (C.dg (k := 6) rfl)
end S168
section S169
variable {p : Program} {l : Launch} {e : Env} {R : Room} {s : State} {m : MethodId} {args : Array Value} {below : List Frame} {meth : Method} {c : Code} {H : Heap} {locs : List Loc} {cells slots : Nat} {Q : State → Prop}
variable {cc : ByteArray} {pc n nL : Nat} {ls : Array Slot} {rest : List Value} {D : va_G} {cy : Nat → ClassId} {Z : Nat → Prop} {ad : Nat → Nat} {tb : List (Nat × Instr × Nat)} {lv : List (Nat × Value)}
set_option maxHeartbeats 4000000 in
set_option maxRecDepth 100000 in
theorem e_Pl_firstFailure_28 {T : Nat → Option Nat} {L : List Nat} {K : Nat → Nat} {F : Nat → Nat → Int32} {a1 : Int32} {P : Int32 → ((Nat → Int32) × (Nat → Nat → Int32)) → Prop} {kb8 : (Nat → Int32) → (Nat → Nat → Int32) → Int32 → Int32 → Prop} (C : CX D cy R_Pl c_Pl_firstFailure tb_Pl_firstFailure 4 p s m args c Z) (hret : RetI p l e { frames := 3, cells := 0, slots := 0, locals := 65 } s m args below meth c c_Pl_firstFailure .int D Z Q (fun (u : (Nat → Int32) × (Nat → Nat → Int32)) => wC cy ad u.1 u.2 T L K F) P 0 0)
    (hb8 : ∀ (I : Nat → Int32) (A : Nat → Nat → Int32) (x2 : Int32) (x3 : Int32) (ls : Array Slot) (H : Heap) (locs : List Loc), lv_has ls 4 [(0, .ref (ad 4)), (2, .int x2), (3, .int x3)] → HXw D Z s.heap H locs (wC cy ad I A T L K F) → kb8 I A x2 x3 → W p l e { frames := 3, cells := 0, slots := 0, locals := 65 } s m args below meth c H locs 0 0 Q (F0 m 8 ls [])) :
    ∀ (I : Nat → Int32) (A : Nat → Nat → Int32) (x2 : Int32) (x3 : Int32) (s1 : Int32) (s2 : Int32) (ls : Array Slot) (H : Heap) (locs : List Loc), lv_has ls 4 [(0, .ref (ad 4)), (2, .int x2), (3, .int x3)] → HXw D Z s.heap H locs (wC cy ad I A T L K F) → g_Pl_firstFailure_28 a1 P kb8 I A x2 x3 s1 s2 → W p l e { frames := 3, cells := 0, slots := 0, locals := 65 } s m args below meth c H locs 0 0 Q (F0 m 28 ls [.int s2, .int s1, .ref (ad 4)]) := by
  intro I A x2 x3 s1 s2 ls H locs hl h hw
  refine i_iload_n (n := 29) C 17 rfl rfl rfl hl 1 rfl ?_
  refine i_callVp (rest := []) (ci := 8) (qc := (R_Pl, T_Pl, 8)) (n := 32) C 18 rfl rfl hl h rfl (wC_get (h := 4) (by decide)) (kV_Pl_48 ⟨by decide, by decide⟩) (m_Pl_weightsBehind hw) rfl rfl (Nat.le_of_ble_eq_true rfl) ⟨by decide, by decide⟩ (fun r4 hw => ?_)
  refine i_istore_n (lv' := [(2, .int r4), (0, .ref (ad 4)), (3, .int x3)]) (n := 33) C 19 rfl rfl rfl hl (by decide) rfl (fun ls hl => ?_)
  refine i_iload_n (n := 34) C 20 rfl rfl rfl hl 0 rfl ?_
  refine i_if_ge (tgt := 39) (n := 37) C 21 rfl rfl rfl (fun c5 => ?_) (fun c5 => ?_)
  · replace hw := hw.1 c5
    refine i_iinc (v := x3 + (1 : Int32)) (lv' := [(3, .int (x3 + (1 : Int32))), (2, .int r4), (0, .ref (ad 4))]) (n := 42) C 24 rfl rfl hl 2 rfl rfl (by decide) rfl (fun ls hl => ?_)
    refine i_goto (tgt := 8) C 25 rfl rfl ?_
    exact hb8 I A r4 (x3 + (1 : Int32)) ls _ _ (lv_sub hl [2, 1, 0] rfl) h hw
  · replace hw := hw.2 c5
    refine i_iload_n (n := 38) C 22 rfl rfl rfl hl 2 rfl ?_
    exact hret _ (I, A) _ _ _ _ rfl hw h (C.dg (k := 23) rfl)
set_option maxHeartbeats 4000000 in
set_option maxRecDepth 100000 in
theorem e_Pl_firstFailure_8 {T : Nat → Option Nat} {L : List Nat} {K : Nat → Nat} {F : Nat → Nat → Int32} {a1 : Int32} {P : Int32 → ((Nat → Int32) × (Nat → Nat → Int32)) → Prop} {kx8 : (Nat → Int32) → (Nat → Nat → Int32) → Prop} (C : CX D cy R_Pl c_Pl_firstFailure tb_Pl_firstFailure 4 p s m args c Z) (hret : RetI p l e { frames := 3, cells := 0, slots := 0, locals := 65 } s m args below meth c c_Pl_firstFailure .int D Z Q (fun (u : (Nat → Int32) × (Nat → Nat → Int32)) => wC cy ad u.1 u.2 T L K F) P 0 0)
    (hx8 : ∀ (I : Nat → Int32) (A : Nat → Nat → Int32) (ls : Array Slot) (H : Heap) (locs : List Loc), lv_has ls 4 [] → HXw D Z s.heap H locs (wC cy ad I A T L K F) → kx8 I A → W p l e { frames := 3, cells := 0, slots := 0, locals := 65 } s m args below meth c H locs 0 0 Q (F0 m 45 ls [])) :
    ∀ (n : Nat) (I : Nat → Int32) (A : Nat → Nat → Int32) (x2 : Int32) (x3 : Int32) (ls : Array Slot) (H : Heap) (locs : List Loc), lv_has ls 4 [(0, .ref (ad 4)), (2, .int x2), (3, .int x3)] → HXw D Z s.heap H locs (wC cy ad I A T L K F) → g_Pl_firstFailure_8 a1 P kx8 n I A x2 x3 → W p l e { frames := 3, cells := 0, slots := 0, locals := 65 } s m args below meth c H locs 0 0 Q (F0 m 8 ls []) := by
  intro n
  induction n with
  | zero => intro I A x2 x3 ls H locs hl h hw; exact hw.elim
  | succ n ih =>
    intro I A x2 x3 ls H locs hl h hw
    refine i_iload_n (n := 9) C 6 rfl rfl rfl hl 2 rfl ?_
    refine i_aload_n (n := 10) C 7 rfl rfl rfl hl 0 rfl ?_
    refine fgC_Pl_30 (n := 13) C 8 rfl rfl h ?_
    refine i_icmp_ge (tgt := 45) (n := 16) C 9 rfl rfl rfl (fun c2 => ?_) (fun c2 => ?_)
    · replace hw := hw.1 c2
      exact hx8 I A ls _ _ (lv_sub hl [] rfl) h hw
    · replace hw := hw.2 c2
      refine i_aload_n (n := 17) C 10 rfl rfl rfl hl 0 rfl ?_
      refine i_iload_n (n := 18) C 11 rfl rfl rfl hl 2 rfl ?_
      refine i_iload_n (n := 19) C 12 rfl rfl rfl hl 2 rfl ?_
      refine i_if_ne (tgt := 26) (n := 22) C 13 rfl rfl rfl (fun c3 => ?_) (fun c3 => ?_)
      · replace hw := hw.1 c3
        refine i_bipush (v := (7 : Int32)) (n := 28) C 16 rfl rfl rfl ?_
        exact e_Pl_firstFailure_28 C hret ih I A x2 x3 x3 (7 : Int32) ls _ _ hl h hw
      · replace hw := hw.2 c3
        refine i_iconst (v := (0 : Int32)) (n := 23) C 14 rfl rfl rfl ?_
        refine i_goto (tgt := 28) C 15 rfl rfl ?_
        exact e_Pl_firstFailure_28 C hret ih I A x2 x3 x3 (0 : Int32) ls _ _ hl h hw
set_option maxHeartbeats 4000000 in
set_option maxRecDepth 100000 in
theorem m_Pl_firstFailure {l : Launch} {D : va_G} {cy : Nat → ClassId} {ad : Nat → Nat} {I : Nat → Int32} {A : Nat → Nat → Int32} {T : Nat → Option Nat} {L : List Nat} {K : Nat → Nat} {F : Nat → Nat → Int32} {a1 : Int32} {P : Int32 → ((Nat → Int32) × (Nat → Nat → Int32)) → Prop} (hw : g_Pl_firstFailure I A a1 P) : ∀ sz, Met l y_Pl_firstFailure (WL y_Pl_firstFailure c_Pl_firstFailure 4 (some .int)) { frames := 3, cells := 0, slots := 0, locals := 65 } (va_Pc [.ref (ad 4), .int a1] (PreW D cy (wC cy ad I A T L K F) sz)) (va_Qi P (fun u t => PostW D (va_A (wC cy ad I A T L K F) sz) ((fun (u : (Nat → Int32) × (Nat → Nat → Int32)) => wC cy ad u.1 u.2 T L K F) u) t) (va_A (wC cy ad I A T L K F) sz)) 0 0 (va_A (wC cy ad I A T L K F) sz) := by
  refine met_i (wf := fun (u : (Nat → Int32) × (Nat → Nat → Int32)) => wC cy ad u.1 u.2 T L K F) R_Pl .int db_Pl_firstFailure (by decide) rfl rfl (Nat.le_of_ble_eq_true rfl) ?_
  intro p e s m below meth c Z Q ls C h hl hret
  have hl : lv_has ls 4 [(0, .ref (ad 4)), (1, .int a1)] := hl
  refine i_aload_n (n := 1) C 0 rfl rfl rfl hl 0 rfl ?_
  refine i_callVv (rest := []) (ci := 8) (qc := (R_Pl, T_Pl, 8)) (n := 4) C 1 rfl rfl hl h rfl (wC_get (h := 4) (by decide)) (kV_Pl_38 ⟨by decide, by decide⟩) (m_Pl_prepare hw) rfl rfl (Nat.le_of_ble_eq_true rfl) ⟨by decide, by decide⟩ (fun u1 H locs hw h => ?_)
  refine i_iload_n (n := 5) C 2 rfl rfl rfl hl 1 rfl ?_
  refine i_istore_n (lv' := [(2, .int a1), (0, .ref (ad 4)), (1, .int a1)]) (n := 6) C 3 rfl rfl rfl hl (by decide) rfl (fun ls hl => ?_)
  refine i_iconst (v := (0 : Int32)) (n := 7) C 4 rfl rfl rfl ?_
  refine i_istore_n (lv' := [(3, .int (0 : Int32)), (2, .int a1), (0, .ref (ad 4)), (1, .int a1)]) (n := 8) C 5 rfl rfl rfl hl (by decide) rfl (fun ls hl => ?_)
  obtain ⟨n6, hw⟩ := hw
  refine e_Pl_firstFailure_8 C hret (fun I_6 A_6 ls H locs hl h hw => ?_) n6 u1.1 u1.2 a1 (0 : Int32) ls _ _ (lv_sub hl [2, 1, 0] rfl) h hw
  have hl : lv_has ls 4 [] := hl
  refine i_bipush (v := (-6 : Int32)) (n := 47) C 26 rfl rfl rfl ?_
  exact hret _ (I_6, A_6) _ _ _ _ rfl hw h (C.dg (k := 27) rfl)
end S169
theorem kV_Pw_347 {R : Room} {s : State} {args : Array Value} (hR : 3 + 1 ≤ R.frames ∧ 8 + (4 + 11) + 65 ≤ R.locals) (ht : ∀ w ∈ GW, w.before args s = true) : CallW R s args R_Pw R_Pl 347 y_Pl_firstFailure c_Pl_firstFailure 4 (some .int) (WL y_Pl_firstFailure c_Pl_firstFailure 4 (some .int)) { frames := 3, cells := 0, slots := 0, locals := 65 } 0 0 1 := cwV 1 ht (GW_v w_5_83 w_5_84 w_5_85 w_1_5 (GW_wl w_5_86)) rfl rfl rfl (by decide +kernel) hR
section S170
variable {p : Program} {l : Launch} {e : Env} {R : Room} {s : State} {m : MethodId} {args : Array Value} {below : List Frame} {meth : Method} {c : Code} {H : Heap} {locs : List Loc} {cells slots : Nat} {Q : State → Prop}
variable {cc : ByteArray} {pc n nL : Nat} {ls : Array Slot} {rest : List Value} {D : va_G} {cy : Nat → ClassId} {Z : Nat → Prop} {ad : Nat → Nat} {tb : List (Nat × Instr × Nat)} {lv : List (Nat × Value)}
set_option maxHeartbeats 4000000 in
set_option maxRecDepth 100000 in
theorem m_Pw_fails {l : Launch} {D : va_G} {cy : Nat → ClassId} {ad : Nat → Nat} {I : Nat → Int32} {A : Nat → Nat → Int32} {T : Nat → Option Nat} {L : List Nat} {K : Nat → Nat} {F : Nat → Nat → Int32} {a1 : Int32} {P : Int32 → ((Nat → Int32) × (Nat → Nat → Int32)) → Prop} (hw : g_Pw_fails I A a1 P) : ∀ sz, Met l y_Pw_fails (WL y_Pw_fails c_Pw_fails 2 (some .int)) { frames := 4, cells := 0, slots := 0, locals := 88 } (va_Pc [.ref (ad 0), .int a1] (PreW D cy (wC cy ad I A T L K F) sz)) (va_Qi P (fun u t => PostW D (va_A (wC cy ad I A T L K F) sz) ((fun (u : (Nat → Int32) × (Nat → Nat → Int32)) => wC cy ad u.1 u.2 T L K F) u) t) (va_A (wC cy ad I A T L K F) sz)) 0 0 (va_A (wC cy ad I A T L K F) sz) := by
  refine met_i (wf := fun (u : (Nat → Int32) × (Nat → Nat → Int32)) => wC cy ad u.1 u.2 T L K F) R_Pw .int db_Pw_fails (by decide) rfl rfl (Nat.le_of_ble_eq_true rfl) ?_
  intro p e s m below meth c Z Q ls C h hl hret
  have hl : lv_has ls 2 [(0, .ref (ad 0)), (1, .int a1)] := hl
  refine i_iload_n (n := 1) C 0 rfl rfl rfl hl 1 rfl ?_
  refine i_iconst (v := (0 : Int32)) (n := 2) C 1 rfl rfl rfl ?_
  refine i_sipush (v := (200 : Int32)) (n := 5) C 2 rfl rfl rfl ?_
  refine i_callSp (rest := []) (n := 8) C 3 rfl rfl hl h (kS_Pw_69 ⟨by decide, by decide⟩) (m_Pw_isWithin hw) rfl rfl (Nat.le_of_ble_eq_true rfl) ⟨by decide, by decide⟩ (fun r1 hw => ?_)
  refine i_if_eq (tgt := 22) (n := 11) C 4 rfl rfl rfl (fun c2 => ?_) (fun c2 => ?_)
  · replace hw := hw.1 c2
    refine i_bipush (v := (-2 : Int32)) (n := 24) C 10 rfl rfl rfl ?_
    exact hret _ (I, A) _ _ _ _ rfl hw h (C.dg (k := 11) rfl)
  · replace hw := hw.2 c2
    refine i_aload_n (n := 12) C 5 rfl rfl rfl hl 0 rfl ?_
    refine fgC_Pw_31 (n := 15) C 6 rfl rfl h ?_
    refine i_iload_n (n := 16) C 7 rfl rfl rfl hl 1 rfl ?_
    refine i_callVi (rest := []) (ci := 8) (qc := (R_Pl, T_Pl, 8)) (n := 19) C 8 rfl rfl hl h rfl (wC_get (h := 4) (by decide)) (kV_Pw_347 ⟨by decide, by decide⟩) (m_Pl_firstFailure hw) rfl rfl (Nat.le_of_ble_eq_true rfl) ⟨by decide, by decide⟩ (fun r3 u4 H locs hw h => ?_)
    refine i_goto (tgt := 24) C 9 rfl rfl ?_
    exact hret _ (u4.1, u4.2) _ _ _ _ rfl hw h (C.dg (k := 11) rfl)
end S170
section S171
variable {p : Program} {l : Launch} {e : Env} {R : Room} {s : State} {m : MethodId} {args : Array Value} {below : List Frame} {meth : Method} {c : Code} {H : Heap} {locs : List Loc} {cells slots : Nat} {Q : State → Prop}
variable {cc : ByteArray} {pc n nL : Nat} {ls : Array Slot} {rest : List Value} {D : va_G} {cy : Nat → ClassId} {Z : Nat → Prop} {ad : Nat → Nat} {tb : List (Nat × Instr × Nat)} {lv : List (Nat × Value)}
set_option maxHeartbeats 4000000 in
set_option maxRecDepth 100000 in
theorem m_Pw_term {l : Launch} {D : va_G} {cy : Nat → ClassId} {ad : Nat → Nat} {I : Nat → Int32} {A : Nat → Nat → Int32} {T : Nat → Option Nat} {L : List Nat} {K : Nat → Nat} {F : Nat → Nat → Int32} {a1 : Int32} {a2 : Int32} {P : Int32 → ((Nat → Nat → Int32)) → Prop} (hw : g_Pw_term A a1 a2 P) : ∀ sz, Met l y_Pw_term (WL y_Pw_term c_Pw_term 4 (some .int)) { frames := 1, cells := 0, slots := 0, locals := 22 } (va_Pc [.ref (ad 0), .int a1, .int a2] (PreW D cy (wC cy ad I A T L K F) sz)) (va_Qi P (fun u t => PostW D (va_A (wC cy ad I A T L K F) sz) ((fun (u : (Nat → Nat → Int32)) => wC cy ad I u T L K F) u) t) (va_A (wC cy ad I A T L K F) sz)) 0 0 (va_A (wC cy ad I A T L K F) sz) := by
  refine met_i (wf := fun (u : (Nat → Nat → Int32)) => wC cy ad I u T L K F) R_Pw .int db_Pw_term (by decide) rfl rfl (Nat.le_of_ble_eq_true rfl) ?_
  intro p e s m below meth c Z Q ls C h hl hret
  have hl : lv_has ls 4 [(0, .ref (ad 0)), (1, .int a1), (2, .int a2)] := hl
  refine i_iload_n (n := 1) C 0 rfl rfl rfl hl 1 rfl ?_
  refine i_iconst (v := (0 : Int32)) (n := 2) C 1 rfl rfl rfl ?_
  refine i_iconst (v := (3 : Int32)) (n := 3) C 2 rfl rfl rfl ?_
  refine i_callSp (rest := []) (n := 6) C 3 rfl rfl hl h (kS_Pw_69 ⟨by decide, by decide⟩) (m_Pw_isWithin hw) rfl rfl (Nat.le_of_ble_eq_true rfl) ⟨by decide, by decide⟩ (fun r1 hw => ?_)
  refine i_if_ne (tgt := 11) (n := 9) C 4 rfl rfl rfl (fun c2 => ?_) (fun c2 => ?_)
  · replace hw := hw.1 c2
    refine i_iload_n (n := 12) C 7 rfl rfl rfl hl 2 rfl ?_
    refine i_iconst (v := (0 : Int32)) (n := 13) C 8 rfl rfl rfl ?_
    refine i_bipush (v := (100 : Int32)) (n := 15) C 9 rfl rfl rfl ?_
    refine i_callSp (rest := []) (n := 18) C 10 rfl rfl hl h (kS_Pw_69 ⟨by decide, by decide⟩) (m_Pw_isWithin hw) rfl rfl (Nat.le_of_ble_eq_true rfl) ⟨by decide, by decide⟩ (fun r3 hw => ?_)
    refine i_if_ne (tgt := 24) (n := 21) C 11 rfl rfl rfl (fun c4 => ?_) (fun c4 => ?_)
    · replace hw := hw.1 c4
      refine i_aload_n (n := 25) C 14 rfl rfl rfl hl 0 rfl ?_
      refine fgC_Pw_43 (n := 28) C 15 rfl rfl h ?_
      refine i_iload_n (n := 29) C 16 rfl rfl rfl hl 1 rfl ?_
      obtain ⟨hb, hw⟩ := hw
      refine i_iald (n := 30) C 17 rfl rfl h (wC_arr 2 (by decide) rfl) hb ?_
      refine lv_topi (fun y5 ey5 => ?_)
      replace hw := hw y5 ey5
      refine i_istore_n (lv' := [(3, .int y5), (0, .ref (ad 0)), (1, .int a1), (2, .int a2)]) (n := 31) C 18 rfl rfl rfl hl (by decide) rfl (fun ls hl => ?_)
      refine i_aload_n (n := 32) C 19 rfl rfl rfl hl 1 rfl ?_
      refine fgC_Pw_43 (n := 35) C 20 rfl rfl h ?_
      refine i_iload_n (n := 36) C 21 rfl rfl rfl hl 2 rfl ?_
      refine i_iload_n (n := 37) C 22 rfl rfl rfl hl 3 rfl ?_
      obtain ⟨hb, hw⟩ := hw
      refine i_iast (n := 38) C 23 rfl rfl h (wC_arr 2 (by decide) rfl) hb (wC_sA 2 (by decide) rfl _ _) (fun H locs h => ?_)
      refine i_iload_n (n := 39) C 24 rfl rfl rfl hl 0 rfl ?_
      exact hret _ (sA A 2 a1 a2) _ _ _ _ rfl hw h (C.dg (k := 25) rfl)
    · replace hw := hw.2 c4
      refine i_bipush (v := (-2 : Int32)) (n := 23) C 12 rfl rfl rfl ?_
      exact hret _ A _ _ _ _ rfl hw h (C.dg (k := 13) rfl)
  · replace hw := hw.2 c2
    refine i_iconst (v := (-1 : Int32)) (n := 10) C 5 rfl rfl rfl ?_
    exact hret _ A _ _ _ _ rfl hw h (C.dg (k := 6) rfl)
end S171
section S172
variable {p : Program} {l : Launch} {e : Env} {R : Room} {s : State} {m : MethodId} {args : Array Value} {below : List Frame} {meth : Method} {c : Code} {H : Heap} {locs : List Loc} {cells slots : Nat} {Q : State → Prop}
variable {cc : ByteArray} {pc n nL : Nat} {ls : Array Slot} {rest : List Value} {D : va_G} {cy : Nat → ClassId} {Z : Nat → Prop} {ad : Nat → Nat} {tb : List (Nat × Instr × Nat)} {lv : List (Nat × Value)}
set_option maxHeartbeats 4000000 in
set_option maxRecDepth 100000 in
theorem m_Pw_meter {l : Launch} {D : va_G} {cy : Nat → ClassId} {ad : Nat → Nat} {I : Nat → Int32} {A : Nat → Nat → Int32} {T : Nat → Option Nat} {L : List Nat} {K : Nat → Nat} {F : Nat → Nat → Int32} {a1 : Int32} {a2 : Int32} {P : Int32 → ((Nat → Nat → Int32)) → Prop} (hw : g_Pw_meter I A a1 a2 P) : ∀ sz, Met l y_Pw_meter (WL y_Pw_meter c_Pw_meter 4 (some .int)) { frames := 1, cells := 0, slots := 0, locals := 21 } (va_Pc [.ref (ad 0), .int a1, .int a2] (PreW D cy (wC cy ad I A T L K F) sz)) (va_Qi P (fun u t => PostW D (va_A (wC cy ad I A T L K F) sz) ((fun (u : (Nat → Nat → Int32)) => wC cy ad I u T L K F) u) t) (va_A (wC cy ad I A T L K F) sz)) 0 0 (va_A (wC cy ad I A T L K F) sz) := by
  refine met_i (wf := fun (u : (Nat → Nat → Int32)) => wC cy ad I u T L K F) R_Pw .int db_Pw_meter (by decide) rfl rfl (Nat.le_of_ble_eq_true rfl) ?_
  intro p e s m below meth c Z Q ls C h hl hret
  have hl : lv_has ls 4 [(0, .ref (ad 0)), (1, .int a1), (2, .int a2)] := hl
  refine i_aload_n (n := 1) C 0 rfl rfl rfl hl 0 rfl ?_
  refine fgC_Pw_10 (n := 4) C 1 rfl rfl h ?_
  refine i_iload_n (n := 5) C 2 rfl rfl rfl hl 1 rfl ?_
  refine i_callVp (rest := []) (ci := 5) (qc := (R_Ne, T_Ne, 17)) (n := 8) C 3 rfl rfl hl h rfl (wC_get (h := 1) (by decide)) (kV_Pw_77 ⟨by decide, by decide⟩) (m_Ne_has hw) rfl rfl (Nat.le_of_ble_eq_true rfl) ⟨by decide, by decide⟩ (fun r1 hw => ?_)
  refine i_if_ne (tgt := 13) (n := 11) C 4 rfl rfl rfl (fun c2 => ?_) (fun c2 => ?_)
  · replace hw := hw.1 c2
    refine i_aload_n (n := 14) C 7 rfl rfl rfl hl 0 rfl ?_
    refine fgC_Pw_39 (n := 17) C 8 rfl rfl h ?_
    refine i_iload_n (n := 18) C 9 rfl rfl rfl hl 1 rfl ?_
    obtain ⟨hb, hw⟩ := hw
    refine i_zald (n := 19) C 10 rfl rfl h (wC_arr 1 (by decide) rfl) hb ?_
    refine i_callSp (rest := []) (n := 22) C 11 rfl rfl hl h (kS_Pw_103 ⟨by decide, by decide⟩) (m_Pw_bit hw) rfl rfl (Nat.le_of_ble_eq_true rfl) ⟨by decide, by decide⟩ (fun r3 hw => ?_)
    refine i_istore_n (lv' := [(3, .int r3), (0, .ref (ad 0)), (1, .int a1), (2, .int a2)]) (n := 23) C 12 rfl rfl rfl hl (by decide) rfl (fun ls hl => ?_)
    refine i_aload_n (n := 24) C 13 rfl rfl rfl hl 1 rfl ?_
    refine fgC_Pw_39 (n := 27) C 14 rfl rfl h ?_
    refine i_iload_n (n := 28) C 15 rfl rfl rfl hl 2 rfl ?_
    refine i_iload_n (n := 29) C 16 rfl rfl rfl hl 3 rfl ?_
    obtain ⟨hb, hw⟩ := hw
    refine i_zast (n := 30) C 17 rfl rfl h (wC_arr 1 (by decide) rfl) hb (wC_sA 1 (by decide) rfl _ _) (fun H locs h => ?_)
    refine i_iload_n (n := 31) C 18 rfl rfl rfl hl 0 rfl ?_
    exact hret _ (sA A 1 a1 (vp_nar .boolean a2)) _ _ _ _ rfl hw h (C.dg (k := 19) rfl)
  · replace hw := hw.2 c2
    refine i_iconst (v := (-1 : Int32)) (n := 12) C 5 rfl rfl rfl ?_
    exact hret _ A _ _ _ _ rfl hw h (C.dg (k := 6) rfl)
end S172
section S173
variable {p : Program} {l : Launch} {e : Env} {R : Room} {s : State} {m : MethodId} {args : Array Value} {below : List Frame} {meth : Method} {c : Code} {H : Heap} {locs : List Loc} {cells slots : Nat} {Q : State → Prop}
variable {cc : ByteArray} {pc n nL : Nat} {ls : Array Slot} {rest : List Value} {D : va_G} {cy : Nat → ClassId} {Z : Nat → Prop} {ad : Nat → Nat} {tb : List (Nat × Instr × Nat)} {lv : List (Nat × Value)}
set_option maxHeartbeats 4000000 in
set_option maxRecDepth 100000 in
theorem m_Pw_pay {l : Launch} {D : va_G} {cy : Nat → ClassId} {ad : Nat → Nat} {I : Nat → Int32} {A : Nat → Nat → Int32} {T : Nat → Option Nat} {L : List Nat} {K : Nat → Nat} {F : Nat → Nat → Int32} {a1 : Int32} {P : Int32 → Prop} (hw : g_Pw_pay I A a1 P) : ∀ sz, Met l y_Pw_pay (WL y_Pw_pay c_Pw_pay 2 (some .int)) { frames := 1, cells := 0, slots := 0, locals := 21 } (va_Pc [.ref (ad 0), .int a1] (PreW D cy (wC cy ad I A T L K F) sz)) (vp_Si P) 0 0 (fun _ => False) := by
  refine met_p R_Pw .int db_Pw_pay (by decide) rfl rfl (Nat.le_of_ble_eq_true rfl) ?_
  intro p e s m below meth c Z Q ls C h hl hret
  have hl : lv_has ls 2 [(0, .ref (ad 0)), (1, .int a1)] := hl
  refine i_aload_n (n := 1) C 0 rfl rfl rfl hl 0 rfl ?_
  refine fgC_Pw_10 (n := 4) C 1 rfl rfl h ?_
  refine i_iload_n (n := 5) C 2 rfl rfl rfl hl 1 rfl ?_
  refine i_callVp (rest := []) (ci := 5) (qc := (R_Ne, T_Ne, 17)) (n := 8) C 3 rfl rfl hl h rfl (wC_get (h := 1) (by decide)) (kV_Pw_77 ⟨by decide, by decide⟩) (m_Ne_has hw) rfl rfl (Nat.le_of_ble_eq_true rfl) ⟨by decide, by decide⟩ (fun r1 hw => ?_)
  refine i_if_eq (tgt := 38) (n := 11) C 4 rfl rfl rfl (fun c2 => ?_) (fun c2 => ?_)
  · replace hw := hw.1 c2
    refine i_iconst (v := (-1 : Int32)) (n := 39) C 21 rfl rfl rfl ?_
    exact hret _ _ _ rfl hw (C.dg (k := 22) rfl)
  · replace hw := hw.2 c2
    refine i_aload_n (n := 12) C 5 rfl rfl rfl hl 0 rfl ?_
    refine fgC_Pw_35 (n := 15) C 6 rfl rfl h ?_
    refine i_iload_n (n := 16) C 7 rfl rfl rfl hl 1 rfl ?_
    obtain ⟨hb, hw⟩ := hw
    refine i_iald (n := 17) C 8 rfl rfl h (wC_arr 0 (by decide) rfl) hb ?_
    refine i_bipush (v := (100 : Int32)) (n := 19) C 9 rfl rfl rfl ?_
    refine i_idiv (n := 20) C 10 rfl rfl (by decide) ?_
    refine i_aload_n (n := 21) C 11 rfl rfl rfl hl 0 rfl ?_
    refine fgC_Pw_43 (n := 24) C 12 rfl rfl h ?_
    refine i_aload_n (n := 25) C 13 rfl rfl rfl hl 0 rfl ?_
    refine fgC_Pw_10 (n := 28) C 14 rfl rfl h ?_
    refine fgC_Pw_181 (n := 31) C 15 rfl rfl h ?_
    refine i_iload_n (n := 32) C 16 rfl rfl rfl hl 1 rfl ?_
    obtain ⟨hb, hw⟩ := hw
    refine i_iald (n := 33) C 17 rfl rfl h (wC_arr 8 (by decide) rfl) hb ?_
    obtain ⟨hb, hw⟩ := hw
    refine i_iald (n := 34) C 18 rfl rfl h (wC_arr 2 (by decide) rfl) hb ?_
    refine i_imul (n := 35) C 19 rfl rfl ?_
    refine i_goto (tgt := 39) C 20 rfl rfl ?_
    exact hret _ _ _ rfl hw (C.dg (k := 22) rfl)
end S173
section S174
variable {p : Program} {l : Launch} {e : Env} {R : Room} {s : State} {m : MethodId} {args : Array Value} {below : List Frame} {meth : Method} {c : Code} {H : Heap} {locs : List Loc} {cells slots : Nat} {Q : State → Prop}
variable {cc : ByteArray} {pc n nL : Nat} {ls : Array Slot} {rest : List Value} {D : va_G} {cy : Nat → ClassId} {Z : Nat → Prop} {ad : Nat → Nat} {tb : List (Nat × Instr × Nat)} {lv : List (Nat × Value)}
set_option maxHeartbeats 4000000 in
set_option maxRecDepth 100000 in
theorem m_Mo_in {l : Launch} {D : va_G} {cy : Nat → ClassId}   {a1 : Int32} {a2 : Int32} {a3 : Int32} {w : va_W} {P : Int32 → Prop} (hw : g_Mo_in a1 a2 a3 P) : ∀ sz, Met l y_Mo_in (WL y_Mo_in c_Mo_in 3 (some .boolean)) { frames := 0, cells := 0, slots := 0, locals := 0 } (va_Pc [.int a1, .int a2, .int a3] (PreW D cy (w) sz)) (vp_Si P) 0 0 (fun _ => False) := by
  refine met_p R_Mo .boolean db_Mo_in (by decide) rfl rfl (Nat.le_of_ble_eq_true rfl) ?_
  intro p e s m below meth c Z Q ls C h hl hret
  have hl : lv_has ls 3 [(0, .int a1), (1, .int a2), (2, .int a3)] := hl
  refine i_iload_n (n := 1) C 0 rfl rfl rfl hl 0 rfl ?_
  refine i_iload_n (n := 2) C 1 rfl rfl rfl hl 1 rfl ?_
  refine i_icmp_lt (tgt := 14) (n := 5) C 2 rfl rfl rfl (fun c1 => ?_) (fun c1 => ?_)
  · replace hw := hw.1 c1
    refine i_iconst (v := (0 : Int32)) (n := 15) C 8 rfl rfl rfl ?_
    exact hret _ _ _ rfl hw (C.dg (k := 9) rfl)
  · replace hw := hw.2 c1
    refine i_iload_n (n := 6) C 3 rfl rfl rfl hl 0 rfl ?_
    refine i_iload_n (n := 7) C 4 rfl rfl rfl hl 2 rfl ?_
    refine i_icmp_gt (tgt := 14) (n := 10) C 5 rfl rfl rfl (fun c2 => ?_) (fun c2 => ?_)
    · replace hw := hw.1 c2
      refine i_iconst (v := (0 : Int32)) (n := 15) C 8 rfl rfl rfl ?_
      exact hret _ _ _ rfl hw (C.dg (k := 9) rfl)
    · replace hw := hw.2 c2
      refine i_iconst (v := (1 : Int32)) (n := 11) C 6 rfl rfl rfl ?_
      refine i_goto (tgt := 15) C 7 rfl rfl ?_
      exact hret _ _ _ rfl hw (C.dg (k := 9) rfl)
end S174
theorem kS_Mo_126 {R : Room} {s : State} {args : Array Value} (hR : 0 + 1 ≤ R.frames ∧ 8 + (3 + 11) + 0 ≤ R.locals) (ht : ∀ w ∈ GW, w.before args s = true) : CallB R s args R_Mo 126 y_Mo_in c_Mo_in 3 (some .boolean) (WL y_Mo_in c_Mo_in 3 (some .boolean)) { frames := 0, cells := 0, slots := 0, locals := 0 } 0 0 3 ∧ (Cond.static y_Mo_in).before args s = true := cwS 3 ht (GW_s w_6_20 w_6_21 w_1_7 (GW_wl w_6_22)) rfl rfl rfl (by decide +kernel) hR
section S175
variable {p : Program} {l : Launch} {e : Env} {R : Room} {s : State} {m : MethodId} {args : Array Value} {below : List Frame} {meth : Method} {c : Code} {H : Heap} {locs : List Loc} {cells slots : Nat} {Q : State → Prop}
variable {cc : ByteArray} {pc n nL : Nat} {ls : Array Slot} {rest : List Value} {D : va_G} {cy : Nat → ClassId} {Z : Nat → Prop} {ad : Nat → Nat} {tb : List (Nat × Instr × Nat)} {lv : List (Nat × Value)}
set_option maxHeartbeats 4000000 in
set_option maxRecDepth 100000 in
theorem m_Mo_isNode {l : Launch} {D : va_G} {cy : Nat → ClassId} {ad : Nat → Nat} {I : Nat → Int32} {A : Nat → Nat → Int32} {a1 : Int32} {P : Int32 → Prop} (hw : g_Mo_isNode I a1 P) : ∀ sz, Met l y_Mo_isNode (WL y_Mo_isNode c_Mo_isNode 2 (some .boolean)) { frames := 1, cells := 0, slots := 0, locals := 22 } (va_Pc [.ref (ad 0), .int a1] (PreW D cy (wM cy ad I A) sz)) (vp_Si P) 0 0 (fun _ => False) := by
  refine met_p R_Mo .boolean db_Mo_isNode (by decide) rfl rfl (Nat.le_of_ble_eq_true rfl) ?_
  intro p e s m below meth c Z Q ls C h hl hret
  have hl : lv_has ls 2 [(0, .ref (ad 0)), (1, .int a1)] := hl
  refine i_iload_n (n := 1) C 0 rfl rfl rfl hl 1 rfl ?_
  refine i_iconst (v := (0 : Int32)) (n := 2) C 1 rfl rfl rfl ?_
  refine i_aload_n (n := 3) C 2 rfl rfl rfl hl 0 rfl ?_
  refine fgM_Mo_122 (n := 6) C 3 rfl rfl h ?_
  refine i_iconst (v := (1 : Int32)) (n := 7) C 4 rfl rfl rfl ?_
  refine i_isub (n := 8) C 5 rfl rfl ?_
  refine i_callSp (rest := []) (n := 11) C 6 rfl rfl hl h (kS_Mo_126 ⟨by decide, by decide⟩) (m_Mo_in hw) rfl rfl (Nat.le_of_ble_eq_true rfl) ⟨by decide, by decide⟩ (fun r1 hw => ?_)
  obtain ⟨hB, hw⟩ := hw
  exact hret _ _ _ hB.nar hw (C.dg (k := 7) rfl)
end S175
section S176
variable {p : Program} {l : Launch} {e : Env} {R : Room} {s : State} {m : MethodId} {args : Array Value} {below : List Frame} {meth : Method} {c : Code} {H : Heap} {locs : List Loc} {cells slots : Nat} {Q : State → Prop}
variable {cc : ByteArray} {pc n nL : Nat} {ls : Array Slot} {rest : List Value} {D : va_G} {cy : Nat → ClassId} {Z : Nat → Prop} {ad : Nat → Nat} {tb : List (Nat × Instr × Nat)} {lv : List (Nat × Value)}
set_option maxHeartbeats 4000000 in
set_option maxRecDepth 100000 in
theorem m_Mo_isMain {l : Launch} {D : va_G} {cy : Nat → ClassId} {ad : Nat → Nat} {I : Nat → Int32} {A : Nat → Nat → Int32} {a1 : Int32} {P : Int32 → Prop} (hw : g_Mo_isMain I a1 P) : ∀ sz, Met l y_Mo_isMain (WL y_Mo_isMain c_Mo_isMain 2 (some .boolean)) { frames := 1, cells := 0, slots := 0, locals := 22 } (va_Pc [.ref (ad 0), .int a1] (PreW D cy (wM cy ad I A) sz)) (vp_Si P) 0 0 (fun _ => False) := by
  refine met_p R_Mo .boolean db_Mo_isMain (by decide) rfl rfl (Nat.le_of_ble_eq_true rfl) ?_
  intro p e s m below meth c Z Q ls C h hl hret
  have hl : lv_has ls 2 [(0, .ref (ad 0)), (1, .int a1)] := hl
  refine i_iload_n (n := 1) C 0 rfl rfl rfl hl 1 rfl ?_
  refine i_iconst (v := (0 : Int32)) (n := 2) C 1 rfl rfl rfl ?_
  refine i_aload_n (n := 3) C 2 rfl rfl rfl hl 0 rfl ?_
  refine fgM_Mo_130 (n := 6) C 3 rfl rfl h ?_
  refine i_iconst (v := (1 : Int32)) (n := 7) C 4 rfl rfl rfl ?_
  refine i_isub (n := 8) C 5 rfl rfl ?_
  refine i_callSp (rest := []) (n := 11) C 6 rfl rfl hl h (kS_Mo_126 ⟨by decide, by decide⟩) (m_Mo_in hw) rfl rfl (Nat.le_of_ble_eq_true rfl) ⟨by decide, by decide⟩ (fun r1 hw => ?_)
  obtain ⟨hB, hw⟩ := hw
  exact hret _ _ _ hB.nar hw (C.dg (k := 7) rfl)
end S176
section S177
variable {p : Program} {l : Launch} {e : Env} {R : Room} {s : State} {m : MethodId} {args : Array Value} {below : List Frame} {meth : Method} {c : Code} {H : Heap} {locs : List Loc} {cells slots : Nat} {Q : State → Prop}
variable {cc : ByteArray} {pc n nL : Nat} {ls : Array Slot} {rest : List Value} {D : va_G} {cy : Nat → ClassId} {Z : Nat → Prop} {ad : Nat → Nat} {tb : List (Nat × Instr × Nat)} {lv : List (Nat × Value)}
set_option maxHeartbeats 4000000 in
set_option maxRecDepth 100000 in
theorem m_Mo_isValve {l : Launch} {D : va_G} {cy : Nat → ClassId} {ad : Nat → Nat} {I : Nat → Int32} {A : Nat → Nat → Int32} {a1 : Int32} {P : Int32 → Prop} (hw : g_Mo_isValve I a1 P) : ∀ sz, Met l y_Mo_isValve (WL y_Mo_isValve c_Mo_isValve 2 (some .boolean)) { frames := 1, cells := 0, slots := 0, locals := 22 } (va_Pc [.ref (ad 0), .int a1] (PreW D cy (wM cy ad I A) sz)) (vp_Si P) 0 0 (fun _ => False) := by
  refine met_p R_Mo .boolean db_Mo_isValve (by decide) rfl rfl (Nat.le_of_ble_eq_true rfl) ?_
  intro p e s m below meth c Z Q ls C h hl hret
  have hl : lv_has ls 2 [(0, .ref (ad 0)), (1, .int a1)] := hl
  refine i_iload_n (n := 1) C 0 rfl rfl rfl hl 1 rfl ?_
  refine i_iconst (v := (0 : Int32)) (n := 2) C 1 rfl rfl rfl ?_
  refine i_aload_n (n := 3) C 2 rfl rfl rfl hl 0 rfl ?_
  refine fgM_Mo_133 (n := 6) C 3 rfl rfl h ?_
  refine i_iconst (v := (1 : Int32)) (n := 7) C 4 rfl rfl rfl ?_
  refine i_isub (n := 8) C 5 rfl rfl ?_
  refine i_callSp (rest := []) (n := 11) C 6 rfl rfl hl h (kS_Mo_126 ⟨by decide, by decide⟩) (m_Mo_in hw) rfl rfl (Nat.le_of_ble_eq_true rfl) ⟨by decide, by decide⟩ (fun r1 hw => ?_)
  obtain ⟨hB, hw⟩ := hw
  exact hret _ _ _ hB.nar hw (C.dg (k := 7) rfl)
end S177
section S178
variable {p : Program} {l : Launch} {e : Env} {R : Room} {s : State} {m : MethodId} {args : Array Value} {below : List Frame} {meth : Method} {c : Code} {H : Heap} {locs : List Loc} {cells slots : Nat} {Q : State → Prop}
variable {cc : ByteArray} {pc n nL : Nat} {ls : Array Slot} {rest : List Value} {D : va_G} {cy : Nat → ClassId} {Z : Nat → Prop} {ad : Nat → Nat} {tb : List (Nat × Instr × Nat)} {lv : List (Nat × Value)}
set_option maxHeartbeats 4000000 in
set_option maxRecDepth 100000 in
theorem m_Mo_node {l : Launch} {D : va_G} {cy : Nat → ClassId} {ad : Nat → Nat} {I : Nat → Int32} {A : Nat → Nat → Int32} {a1 : Int32} {a2 : Int32} {P : Int32 → ((Nat → Int32) × (Nat → Nat → Int32)) → Prop} (hw : g_Mo_node I A a1 a2 P) : ∀ sz, Met l y_Mo_node (WL y_Mo_node c_Mo_node 3 (some .int)) { frames := 1, cells := 0, slots := 0, locals := 22 } (va_Pc [.ref (ad 0), .int a1, .int a2] (PreW D cy (wM cy ad I A) sz)) (va_Qi P (fun u t => PostW D (va_A (wM cy ad I A) sz) ((fun (u : (Nat → Int32) × (Nat → Nat → Int32)) => wM cy ad u.1 u.2) u) t) (va_A (wM cy ad I A) sz)) 0 0 (va_A (wM cy ad I A) sz) := by
  refine met_i (wf := fun (u : (Nat → Int32) × (Nat → Nat → Int32)) => wM cy ad u.1 u.2) R_Mo .int db_Mo_node (by decide) rfl rfl (Nat.le_of_ble_eq_true rfl) ?_
  intro p e s m below meth c Z Q ls C h hl hret
  have hl : lv_has ls 3 [(0, .ref (ad 0)), (1, .int a1), (2, .int a2)] := hl
  refine i_iload_n (n := 1) C 0 rfl rfl rfl hl 1 rfl ?_
  refine i_iconst (v := (0 : Int32)) (n := 2) C 1 rfl rfl rfl ?_
  refine i_sipush (v := (200 : Int32)) (n := 5) C 2 rfl rfl rfl ?_
  refine i_callSp (rest := []) (n := 8) C 3 rfl rfl hl h (kS_Mo_126 ⟨by decide, by decide⟩) (m_Mo_in hw) rfl rfl (Nat.le_of_ble_eq_true rfl) ⟨by decide, by decide⟩ (fun r1 hw => ?_)
  refine i_if_eq (tgt := 20) (n := 11) C 4 rfl rfl rfl (fun c2 => ?_) (fun c2 => ?_)
  · replace hw := hw.1 c2
    refine i_bipush (v := (-2 : Int32)) (n := 22) C 10 rfl rfl rfl ?_
    exact hret _ (I, A) _ _ _ _ rfl hw h (C.dg (k := 11) rfl)
  · replace hw := hw.2 c2
    refine i_iload_n (n := 12) C 5 rfl rfl rfl hl 2 rfl ?_
    refine i_iconst (v := (0 : Int32)) (n := 13) C 6 rfl rfl rfl ?_
    refine i_iconst (v := (3 : Int32)) (n := 14) C 7 rfl rfl rfl ?_
    refine i_callSp (rest := []) (n := 17) C 8 rfl rfl hl h (kS_Mo_126 ⟨by decide, by decide⟩) (m_Mo_in hw) rfl rfl (Nat.le_of_ble_eq_true rfl) ⟨by decide, by decide⟩ (fun r3 hw => ?_)
    refine i_if_ne (tgt := 23) (n := 20) C 9 rfl rfl rfl (fun c4 => ?_) (fun c4 => ?_)
    · replace hw := hw.1 c4
      refine i_aload_n (n := 24) C 12 rfl rfl rfl hl 0 rfl ?_
      refine fgM_Mo_122 (n := 27) C 13 rfl rfl h ?_
      refine i_bipush (v := (12 : Int32)) (n := 29) C 14 rfl rfl rfl ?_
      refine i_icmp_ne (tgt := 35) (n := 32) C 15 rfl rfl rfl (fun c5 => ?_) (fun c5 => ?_)
      · replace hw := hw.1 c5
        refine i_aload_n (n := 36) C 18 rfl rfl rfl hl 0 rfl ?_
        refine fgM_Mo_7 (n := 39) C 19 rfl rfl h ?_
        refine i_aload_n (n := 40) C 20 rfl rfl rfl hl 0 rfl ?_
        refine fgM_Mo_122 (n := 43) C 21 rfl rfl h ?_
        refine i_iload_n (n := 44) C 22 rfl rfl rfl hl 1 rfl ?_
        obtain ⟨hb, hw⟩ := hw
        refine i_iast (n := 45) C 23 rfl rfl h (wM_arr 0 (by decide) rfl) hb (wM_sA 0 (by decide) rfl _ _) (fun H locs h => ?_)
        refine i_aload_n (n := 46) C 24 rfl rfl rfl hl 0 rfl ?_
        refine fgM_Mo_13 (n := 49) C 25 rfl rfl h ?_
        refine i_aload_n (n := 50) C 26 rfl rfl rfl hl 0 rfl ?_
        refine fgM_Mo_122 (n := 53) C 27 rfl rfl h ?_
        refine i_iload_n (n := 54) C 28 rfl rfl rfl hl 2 rfl ?_
        obtain ⟨hb, hw⟩ := hw
        refine i_iast (n := 55) C 29 rfl rfl h (wM_arr 1 (by decide) rfl) hb (wM_sA 1 (by decide) rfl _ _) (fun H locs h => ?_)
        refine i_aload_n (n := 56) C 30 rfl rfl rfl hl 0 rfl ?_
        refine fgM_Mo_50 (n := 59) C 31 rfl rfl h ?_
        refine i_aload_n (n := 60) C 32 rfl rfl rfl hl 0 rfl ?_
        refine fgM_Mo_122 (n := 63) C 33 rfl rfl h ?_
        refine i_bipush (v := (10 : Int32)) (n := 65) C 34 rfl rfl rfl ?_
        refine i_iload_n (n := 66) C 35 rfl rfl rfl hl 1 rfl ?_
        refine i_imul (n := 67) C 36 rfl rfl ?_
        obtain ⟨hb, hw⟩ := hw
        refine i_iast (n := 68) C 37 rfl rfl h (wM_arr 13 (by decide) rfl) hb (wM_sA 13 (by decide) rfl _ _) (fun H locs h => ?_)
        refine i_aload_n (n := 69) C 38 rfl rfl rfl hl 0 rfl ?_
        refine i_dup (n := 70) C 39 rfl rfl rfl ?_
        refine fgM_Mo_122 (n := 73) C 40 rfl rfl h ?_
        refine i_iconst (v := (1 : Int32)) (n := 74) C 41 rfl rfl rfl ?_
        refine i_iadd (n := 75) C 42 rfl rfl ?_
        refine fpM_Mo_122 (n := 78) C 43 rfl rfl h (fun H locs h => ?_)
        refine i_aload_n (n := 79) C 44 rfl rfl rfl hl 0 rfl ?_
        refine fgM_Mo_122 (n := 82) C 45 rfl rfl h ?_
        refine i_iconst (v := (1 : Int32)) (n := 83) C 46 rfl rfl rfl ?_
        refine i_isub (n := 84) C 47 rfl rfl ?_
        exact hret _ (va_up I 0 ((I 0) + (1 : Int32)), sA (sA (sA A 0 (I 0) a1) 1 (I 0) a2) 13 (I 0) ((10 : Int32) * a1)) _ _ _ _ rfl hw h (C.dg (k := 48) rfl)
      · replace hw := hw.2 c5
        refine i_bipush (v := (-4 : Int32)) (n := 34) C 16 rfl rfl rfl ?_
        exact hret _ (I, A) _ _ _ _ rfl hw h (C.dg (k := 17) rfl)
    · replace hw := hw.2 c4
      refine i_bipush (v := (-2 : Int32)) (n := 22) C 10 rfl rfl rfl ?_
      exact hret _ (I, A) _ _ _ _ rfl hw h (C.dg (k := 11) rfl)
end S178
theorem kV_Mo_136 {R : Room} {s : State} {args : Array Value} (hR : 1 + 1 ≤ R.frames ∧ 8 + (2 + 11) + 22 ≤ R.locals) (ht : ∀ w ∈ GW, w.before args s = true) : CallW R s args R_Mo R_Mo 136 y_Mo_isNode c_Mo_isNode 2 (some .boolean) (WL y_Mo_isNode c_Mo_isNode 2 (some .boolean)) { frames := 1, cells := 0, slots := 0, locals := 22 } 0 0 1 := cwV 1 ht (GW_v w_6_27 w_6_29 w_0_28 w_1_7 (GW_wl w_6_30)) rfl rfl rfl (by decide +kernel) hR
section S179
variable {p : Program} {l : Launch} {e : Env} {R : Room} {s : State} {m : MethodId} {args : Array Value} {below : List Frame} {meth : Method} {c : Code} {H : Heap} {locs : List Loc} {cells slots : Nat} {Q : State → Prop}
variable {cc : ByteArray} {pc n nL : Nat} {ls : Array Slot} {rest : List Value} {D : va_G} {cy : Nat → ClassId} {Z : Nat → Prop} {ad : Nat → Nat} {tb : List (Nat × Instr × Nat)} {lv : List (Nat × Value)}
set_option maxHeartbeats 4000000 in
set_option maxRecDepth 100000 in
theorem e_Mo_main_108  {a1 : Int32} {a2 : Int32} {a3 : Int32} {P : Int32 → ((Nat → Int32) × (Nat → Nat → Int32)) → Prop} {kb52 : (Nat → Int32) → (Nat → Nat → Int32) → Int32 → Prop} (C : CX D cy R_Mo c_Mo_main tb_Mo_main 5 p s m args c Z) (hret : RetI p l e { frames := 2, cells := 0, slots := 0, locals := 43 } s m args below meth c c_Mo_main .int D Z Q (fun (u : (Nat → Int32) × (Nat → Nat → Int32)) => wM cy ad u.1 u.2) P 0 0)
    (hb52 : ∀ (I : Nat → Int32) (A : Nat → Nat → Int32) (x4 : Int32) (ls : Array Slot) (H : Heap) (locs : List Loc), lv_has ls 5 [(0, .ref (ad 0)), (1, .int a1), (2, .int a2), (3, .int a3), (4, .int x4)] → HXw D Z s.heap H locs (wM cy ad I A) → kb52 I A x4 → W p l e { frames := 2, cells := 0, slots := 0, locals := 43 } s m args below meth c H locs 0 0 Q (F0 m 52 ls [])) :
    ∀ (I : Nat → Int32) (A : Nat → Nat → Int32) (x4 : Int32) (ls : Array Slot) (H : Heap) (locs : List Loc), lv_has ls 5 [(0, .ref (ad 0)), (1, .int a1), (2, .int a2), (3, .int a3), (4, .int x4)] → HXw D Z s.heap H locs (wM cy ad I A) → g_Mo_main_108 a1 a2 a3 P kb52 I A x4 → W p l e { frames := 2, cells := 0, slots := 0, locals := 43 } s m args below meth c H locs 0 0 Q (F0 m 108 ls []) := by
  intro I A x4 ls H locs hl h hw
  refine i_iinc (v := x4 + (1 : Int32)) (lv' := [(4, .int (x4 + (1 : Int32))), (0, .ref (ad 0)), (1, .int a1), (2, .int a2), (3, .int a3)]) (n := 111) C 58 rfl rfl hl 4 rfl rfl (by decide) rfl (fun ls hl => ?_)
  refine i_goto (tgt := 52) C 59 rfl rfl ?_
  exact hb52 I A (x4 + (1 : Int32)) ls _ _ (lv_sub hl [1, 2, 3, 4, 0] rfl) h hw
set_option maxHeartbeats 4000000 in
set_option maxRecDepth 100000 in
theorem e_Mo_main_83  {a1 : Int32} {a2 : Int32} {a3 : Int32} {P : Int32 → ((Nat → Int32) × (Nat → Nat → Int32)) → Prop} {kb52 : (Nat → Int32) → (Nat → Nat → Int32) → Int32 → Prop} (C : CX D cy R_Mo c_Mo_main tb_Mo_main 5 p s m args c Z) (hret : RetI p l e { frames := 2, cells := 0, slots := 0, locals := 43 } s m args below meth c c_Mo_main .int D Z Q (fun (u : (Nat → Int32) × (Nat → Nat → Int32)) => wM cy ad u.1 u.2) P 0 0)
    (hb52 : ∀ (I : Nat → Int32) (A : Nat → Nat → Int32) (x4 : Int32) (ls : Array Slot) (H : Heap) (locs : List Loc), lv_has ls 5 [(0, .ref (ad 0)), (1, .int a1), (2, .int a2), (3, .int a3), (4, .int x4)] → HXw D Z s.heap H locs (wM cy ad I A) → kb52 I A x4 → W p l e { frames := 2, cells := 0, slots := 0, locals := 43 } s m args below meth c H locs 0 0 Q (F0 m 52 ls [])) :
    ∀ (I : Nat → Int32) (A : Nat → Nat → Int32) (x4 : Int32) (ls : Array Slot) (H : Heap) (locs : List Loc), lv_has ls 5 [(0, .ref (ad 0)), (1, .int a1), (2, .int a2), (3, .int a3), (4, .int x4)] → HXw D Z s.heap H locs (wM cy ad I A) → g_Mo_main_83 a1 a2 a3 P kb52 I A x4 → W p l e { frames := 2, cells := 0, slots := 0, locals := 43 } s m args below meth c H locs 0 0 Q (F0 m 83 ls []) := by
  intro I A x4 ls H locs hl h hw
  refine i_aload_n (n := 84) C 44 rfl rfl rfl hl 0 rfl ?_
  refine fgM_Mo_53 (n := 87) C 45 rfl rfl h ?_
  refine i_iload (n := 89) C 46 rfl rfl hl 4 rfl ?_
  obtain ⟨hb, hw⟩ := hw
  refine i_iald (n := 90) C 47 rfl rfl h (wM_arr 14 (by decide) rfl) hb ?_
  refine i_iload_n (n := 91) C 48 rfl rfl rfl hl 2 rfl ?_
  refine i_icmp_ne (tgt := 108) (n := 94) C 49 rfl rfl rfl (fun c11 => ?_) (fun c11 => ?_)
  · replace hw := hw.1 c11
    exact e_Mo_main_108 C hret hb52 I A x4 ls _ _ hl h hw
  · replace hw := hw.2 c11
    refine i_aload_n (n := 95) C 50 rfl rfl rfl hl 0 rfl ?_
    refine fgM_Mo_56 (n := 98) C 51 rfl rfl h ?_
    refine i_iload (n := 100) C 52 rfl rfl hl 4 rfl ?_
    obtain ⟨hb, hw⟩ := hw
    refine i_iald (n := 101) C 53 rfl rfl h (wM_arr 15 (by decide) rfl) hb ?_
    refine i_iload_n (n := 102) C 54 rfl rfl rfl hl 1 rfl ?_
    refine i_icmp_ne (tgt := 108) (n := 105) C 55 rfl rfl rfl (fun c12 => ?_) (fun c12 => ?_)
    · replace hw := hw.1 c12
      exact e_Mo_main_108 C hret hb52 I A x4 ls _ _ hl h hw
    · replace hw := hw.2 c12
      refine i_bipush (v := (-5 : Int32)) (n := 107) C 56 rfl rfl rfl ?_
      exact hret _ (I, A) _ _ _ _ rfl hw h (C.dg (k := 57) rfl)
set_option maxHeartbeats 4000000 in
set_option maxRecDepth 100000 in
theorem e_Mo_main_52  {a1 : Int32} {a2 : Int32} {a3 : Int32} {P : Int32 → ((Nat → Int32) × (Nat → Nat → Int32)) → Prop} {kx52 : (Nat → Int32) → (Nat → Nat → Int32) → Prop} (C : CX D cy R_Mo c_Mo_main tb_Mo_main 5 p s m args c Z) (hret : RetI p l e { frames := 2, cells := 0, slots := 0, locals := 43 } s m args below meth c c_Mo_main .int D Z Q (fun (u : (Nat → Int32) × (Nat → Nat → Int32)) => wM cy ad u.1 u.2) P 0 0)
    (hx52 : ∀ (I : Nat → Int32) (A : Nat → Nat → Int32) (ls : Array Slot) (H : Heap) (locs : List Loc), lv_has ls 5 [(0, .ref (ad 0)), (1, .int a1), (2, .int a2), (3, .int a3)] → HXw D Z s.heap H locs (wM cy ad I A) → kx52 I A → W p l e { frames := 2, cells := 0, slots := 0, locals := 43 } s m args below meth c H locs 0 0 Q (F0 m 114 ls [])) :
    ∀ (n : Nat) (I : Nat → Int32) (A : Nat → Nat → Int32) (x4 : Int32) (ls : Array Slot) (H : Heap) (locs : List Loc), lv_has ls 5 [(0, .ref (ad 0)), (1, .int a1), (2, .int a2), (3, .int a3), (4, .int x4)] → HXw D Z s.heap H locs (wM cy ad I A) → g_Mo_main_52 a1 a2 a3 P kx52 n I A x4 → W p l e { frames := 2, cells := 0, slots := 0, locals := 43 } s m args below meth c H locs 0 0 Q (F0 m 52 ls []) := by
  intro n
  induction n with
  | zero => intro I A x4 ls H locs hl h hw; exact hw.elim
  | succ n ih =>
    intro I A x4 ls H locs hl h hw
    refine i_iload (n := 54) C 28 rfl rfl hl 4 rfl ?_
    refine i_aload_n (n := 55) C 29 rfl rfl rfl hl 0 rfl ?_
    refine fgM_Mo_130 (n := 58) C 30 rfl rfl h ?_
    refine i_icmp_ge (tgt := 114) (n := 61) C 31 rfl rfl rfl (fun c9 => ?_) (fun c9 => ?_)
    · replace hw := hw.1 c9
      exact hx52 I A ls _ _ (lv_sub hl [0, 1, 2, 3] rfl) h hw
    · replace hw := hw.2 c9
      refine i_aload_n (n := 62) C 32 rfl rfl rfl hl 0 rfl ?_
      refine fgM_Mo_53 (n := 65) C 33 rfl rfl h ?_
      refine i_iload (n := 67) C 34 rfl rfl hl 4 rfl ?_
      obtain ⟨hb, hw⟩ := hw
      refine i_iald (n := 68) C 35 rfl rfl h (wM_arr 14 (by decide) rfl) hb ?_
      refine i_iload_n (n := 69) C 36 rfl rfl rfl hl 1 rfl ?_
      refine i_icmp_ne (tgt := 83) (n := 72) C 37 rfl rfl rfl (fun c10 => ?_) (fun c10 => ?_)
      · replace hw := hw.1 c10
        exact e_Mo_main_83 C hret ih I A x4 ls _ _ hl h hw
      · replace hw := hw.2 c10
        refine i_aload_n (n := 73) C 38 rfl rfl rfl hl 0 rfl ?_
        refine fgM_Mo_56 (n := 76) C 39 rfl rfl h ?_
        refine i_iload (n := 78) C 40 rfl rfl hl 4 rfl ?_
        obtain ⟨hb, hw⟩ := hw
        refine i_iald (n := 79) C 41 rfl rfl h (wM_arr 15 (by decide) rfl) hb ?_
        refine i_iload_n (n := 80) C 42 rfl rfl rfl hl 2 rfl ?_
        refine i_icmp_eq (tgt := 105) (n := 83) C 43 rfl rfl rfl (fun c13 => ?_) (fun c13 => ?_)
        · replace hw := hw.1 c13
          refine i_bipush (v := (-5 : Int32)) (n := 107) C 56 rfl rfl rfl ?_
          exact hret _ (I, A) _ _ _ _ rfl hw h (C.dg (k := 57) rfl)
        · replace hw := hw.2 c13
          exact e_Mo_main_83 C hret ih I A x4 ls _ _ hl h hw
set_option maxHeartbeats 4000000 in
set_option maxRecDepth 100000 in
theorem m_Mo_main {l : Launch} {D : va_G} {cy : Nat → ClassId} {ad : Nat → Nat} {I : Nat → Int32} {A : Nat → Nat → Int32} {a1 : Int32} {a2 : Int32} {a3 : Int32} {P : Int32 → ((Nat → Int32) × (Nat → Nat → Int32)) → Prop} (hw : g_Mo_main I A a1 a2 a3 P) : ∀ sz, Met l y_Mo_main (WL y_Mo_main c_Mo_main 5 (some .int)) { frames := 2, cells := 0, slots := 0, locals := 43 } (va_Pc [.ref (ad 0), .int a1, .int a2, .int a3] (PreW D cy (wM cy ad I A) sz)) (va_Qi P (fun u t => PostW D (va_A (wM cy ad I A) sz) ((fun (u : (Nat → Int32) × (Nat → Nat → Int32)) => wM cy ad u.1 u.2) u) t) (va_A (wM cy ad I A) sz)) 0 0 (va_A (wM cy ad I A) sz) := by
  refine met_i (wf := fun (u : (Nat → Int32) × (Nat → Nat → Int32)) => wM cy ad u.1 u.2) R_Mo .int db_Mo_main (by decide) rfl rfl (Nat.le_of_ble_eq_true rfl) ?_
  intro p e s m below meth c Z Q ls C h hl hret
  have hl : lv_has ls 5 [(0, .ref (ad 0)), (1, .int a1), (2, .int a2), (3, .int a3)] := hl
  refine i_aload_n (n := 1) C 0 rfl rfl rfl hl 0 rfl ?_
  refine i_iload_n (n := 2) C 1 rfl rfl rfl hl 1 rfl ?_
  refine i_callVp (rest := []) (ci := 11) (qc := (R_Mo, T_Mo, 50)) (n := 5) C 2 rfl rfl hl h rfl (wM_get (h := 0) (by decide)) (kV_Mo_136 ⟨by decide, by decide⟩) (m_Mo_isNode hw) rfl rfl (Nat.le_of_ble_eq_true rfl) ⟨by decide, by decide⟩ (fun r1 hw => ?_)
  refine i_if_eq (tgt := 21) (n := 8) C 3 rfl rfl rfl (fun c2 => ?_) (fun c2 => ?_)
  · replace hw := hw.1 c2
    refine i_iconst (v := (-1 : Int32)) (n := 22) C 11 rfl rfl rfl ?_
    exact hret _ (I, A) _ _ _ _ rfl hw h (C.dg (k := 12) rfl)
  · replace hw := hw.2 c2
    refine i_aload_n (n := 9) C 4 rfl rfl rfl hl 0 rfl ?_
    refine i_iload_n (n := 10) C 5 rfl rfl rfl hl 2 rfl ?_
    refine i_callVp (rest := []) (ci := 11) (qc := (R_Mo, T_Mo, 50)) (n := 13) C 6 rfl rfl hl h rfl (wM_get (h := 0) (by decide)) (kV_Mo_136 ⟨by decide, by decide⟩) (m_Mo_isNode hw) rfl rfl (Nat.le_of_ble_eq_true rfl) ⟨by decide, by decide⟩ (fun r3 hw => ?_)
    refine i_if_eq (tgt := 21) (n := 16) C 7 rfl rfl rfl (fun c4 => ?_) (fun c4 => ?_)
    · replace hw := hw.1 c4
      refine i_iconst (v := (-1 : Int32)) (n := 22) C 11 rfl rfl rfl ?_
      exact hret _ (I, A) _ _ _ _ rfl hw h (C.dg (k := 12) rfl)
    · replace hw := hw.2 c4
      refine i_iload_n (n := 17) C 8 rfl rfl rfl hl 1 rfl ?_
      refine i_iload_n (n := 18) C 9 rfl rfl rfl hl 2 rfl ?_
      refine i_icmp_ne (tgt := 23) (n := 21) C 10 rfl rfl rfl (fun c5 => ?_) (fun c5 => ?_)
      · replace hw := hw.1 c5
        refine i_iload_n (n := 24) C 13 rfl rfl rfl hl 3 rfl ?_
        refine i_iconst (v := (1 : Int32)) (n := 25) C 14 rfl rfl rfl ?_
        refine i_sipush (v := (1000 : Int32)) (n := 28) C 15 rfl rfl rfl ?_
        refine i_callSp (rest := []) (n := 31) C 16 rfl rfl hl h (kS_Mo_126 ⟨by decide, by decide⟩) (m_Mo_in hw) rfl rfl (Nat.le_of_ble_eq_true rfl) ⟨by decide, by decide⟩ (fun r6 hw => ?_)
        refine i_if_ne (tgt := 37) (n := 34) C 17 rfl rfl rfl (fun c7 => ?_) (fun c7 => ?_)
        · replace hw := hw.1 c7
          refine i_aload_n (n := 38) C 20 rfl rfl rfl hl 0 rfl ?_
          refine fgM_Mo_130 (n := 41) C 21 rfl rfl h ?_
          refine i_bipush (v := (18 : Int32)) (n := 43) C 22 rfl rfl rfl ?_
          refine i_icmp_ne (tgt := 49) (n := 46) C 23 rfl rfl rfl (fun c8 => ?_) (fun c8 => ?_)
          · replace hw := hw.1 c8
            refine i_iconst (v := (0 : Int32)) (n := 50) C 26 rfl rfl rfl ?_
            refine i_istore (lv' := [(4, .int (0 : Int32)), (0, .ref (ad 0)), (1, .int a1), (2, .int a2), (3, .int a3)]) (n := 52) C 27 rfl rfl hl (by decide) rfl (fun ls hl => ?_)
            obtain ⟨n14, hw⟩ := hw
            refine e_Mo_main_52 C hret (fun I_14 A_14 ls H locs hl h hw => ?_) n14 I A (0 : Int32) ls _ _ (lv_sub hl [1, 2, 3, 4, 0] rfl) h hw
            have hl : lv_has ls 5 [(0, .ref (ad 0)), (1, .int a1), (2, .int a2), (3, .int a3)] := hl
            refine i_aload_n (n := 115) C 60 rfl rfl rfl hl 0 rfl ?_
            refine fgM_Mo_53 (n := 118) C 61 rfl rfl h ?_
            refine i_aload_n (n := 119) C 62 rfl rfl rfl hl 0 rfl ?_
            refine fgM_Mo_130 (n := 122) C 63 rfl rfl h ?_
            refine i_iload_n (n := 123) C 64 rfl rfl rfl hl 1 rfl ?_
            obtain ⟨hb, hw⟩ := hw
            refine i_iast (n := 124) C 65 rfl rfl h (wM_arr 14 (by decide) rfl) hb (wM_sA 14 (by decide) rfl _ _) (fun H locs h => ?_)
            refine i_aload_n (n := 125) C 66 rfl rfl rfl hl 0 rfl ?_
            refine fgM_Mo_56 (n := 128) C 67 rfl rfl h ?_
            refine i_aload_n (n := 129) C 68 rfl rfl rfl hl 0 rfl ?_
            refine fgM_Mo_130 (n := 132) C 69 rfl rfl h ?_
            refine i_iload_n (n := 133) C 70 rfl rfl rfl hl 2 rfl ?_
            obtain ⟨hb, hw⟩ := hw
            refine i_iast (n := 134) C 71 rfl rfl h (wM_arr 15 (by decide) rfl) hb (wM_sA 15 (by decide) rfl _ _) (fun H locs h => ?_)
            refine i_aload_n (n := 135) C 72 rfl rfl rfl hl 0 rfl ?_
            refine fgM_Mo_59 (n := 138) C 73 rfl rfl h ?_
            refine i_aload_n (n := 139) C 74 rfl rfl rfl hl 0 rfl ?_
            refine fgM_Mo_130 (n := 142) C 75 rfl rfl h ?_
            refine i_iload_n (n := 143) C 76 rfl rfl rfl hl 3 rfl ?_
            obtain ⟨hb, hw⟩ := hw
            refine i_iast (n := 144) C 77 rfl rfl h (wM_arr 16 (by decide) rfl) hb (wM_sA 16 (by decide) rfl _ _) (fun H locs h => ?_)
            refine i_aload_n (n := 145) C 78 rfl rfl rfl hl 0 rfl ?_
            refine i_dup (n := 146) C 79 rfl rfl rfl ?_
            refine fgM_Mo_130 (n := 149) C 80 rfl rfl h ?_
            refine i_iconst (v := (1 : Int32)) (n := 150) C 81 rfl rfl rfl ?_
            refine i_iadd (n := 151) C 82 rfl rfl ?_
            refine fpM_Mo_130 (n := 154) C 83 rfl rfl h (fun H locs h => ?_)
            refine i_aload_n (n := 155) C 84 rfl rfl rfl hl 0 rfl ?_
            refine fgM_Mo_130 (n := 158) C 85 rfl rfl h ?_
            refine i_iconst (v := (1 : Int32)) (n := 159) C 86 rfl rfl rfl ?_
            refine i_isub (n := 160) C 87 rfl rfl ?_
            exact hret _ (va_up I_14 1 ((I_14 1) + (1 : Int32)), sA (sA (sA A_14 14 (I_14 1) a1) 15 (I_14 1) a2) 16 (I_14 1) a3) _ _ _ _ rfl hw h (C.dg (k := 88) rfl)
          · replace hw := hw.2 c8
            refine i_bipush (v := (-4 : Int32)) (n := 48) C 24 rfl rfl rfl ?_
            exact hret _ (I, A) _ _ _ _ rfl hw h (C.dg (k := 25) rfl)
        · replace hw := hw.2 c7
          refine i_bipush (v := (-2 : Int32)) (n := 36) C 18 rfl rfl rfl ?_
          exact hret _ (I, A) _ _ _ _ rfl hw h (C.dg (k := 19) rfl)
      · replace hw := hw.2 c5
        refine i_iconst (v := (-1 : Int32)) (n := 22) C 11 rfl rfl rfl ?_
        exact hret _ (I, A) _ _ _ _ rfl hw h (C.dg (k := 12) rfl)
end S179
