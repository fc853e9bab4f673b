theorem kS_Pl_51 {R : Room} {s : State} {args : Array Value} (hR : 1 + 1 ≤ R.frames ∧ 8 + (4 + 11) + 21 ≤ R.locals) (ht : ∀ w ∈ GW, w.before args s = true) : CallB R s args R_Pl 51 y_Pl_sumOf c_Pl_sumOf 4 (some .int) (WL y_Pl_sumOf c_Pl_sumOf 4 (some .int)) { frames := 1, cells := 0, slots := 0, locals := 21 } 0 0 2 ∧ (Cond.static y_Pl_sumOf).before args s = true := cwS 2 ht (GW_s w_5_52 w_5_53 w_1_5 (GW_wl w_5_54)) rfl rfl rfl (by decide +kernel) hR
theorem kX_Pl_55 {R : Room} {s : State} {args : Array Value} (hR : 0 + 1 ≤ R.frames ∧ 8 + (4 + 11) + 0 ≤ R.locals) (ht : ∀ w ∈ GW, w.before args s = true) : CallB R s args R_Pl 55 y_JArr_fill c_JArr_fill 4 none (WL y_JArr_fill c_JArr_fill 4 none) { frames := 0, cells := 0, slots := 0, locals := 0 } 0 0 2 ∧ (Cond.static y_JArr_fill).before args s = true := ⟨callB_of 2 ht (GW_in (GW_wl w_1_201)) rfl rfl rfl (ht _ w_1_6) (ht _ w_5_56) (by decide +kernel) hR, ht _ w_1_200⟩
section S161
variable {p : Program} {l : Launch} {e : Env} {R : Room} {s : State} {m : MethodId} {args : Array Value} {below : List Frame} {meth : Method} {c : Code} {H : Heap} {locs : List Loc} {cells slots : Nat} {Q : State → Prop}
variable {cc : ByteArray} {pc n nL : Nat} {ls : Array Slot} {rest : List Value} {D : va_G} {cy : Nat → ClassId} {Z : Nat → Prop} {ad : Nat → Nat} {tb : List (Nat × Instr × Nat)} {lv : List (Nat × Value)}
def g_Pl_prepare_10 (P : ((Nat → Int32) × (Nat → Nat → Int32)) → Prop) (kx10 : (Nat → Int32) → (Nat → Nat → Int32) → Prop) : Nat → (Nat → Int32) → (Nat → Nat → Int32) → Int32 → Prop
  | 0, _, _, _ => False
  | n10 + 1, I, A, x1 => ((8 : Int32) ≤ x1 → (kx10 I A)) ∧ (¬ (8 : Int32) ≤ x1 → (g_Pl_sumOf A 26 x1 (fun r3 => (vp_in x1 8 ∧ (g_Pl_sumOf (sA A 28 x1 r3) 27 x1 (fun r4 => (vp_in x1 8 ∧ (g_Pl_prepare_10 P kx10 n10 I (sA (sA A 28 x1 r3) 29 x1 r4) (x1 + (1 : Int32))))))))))
set_option maxHeartbeats 4000000 in
set_option maxRecDepth 100000 in
theorem e_Pl_prepare_10 {T : Nat → Option Nat} {L : List Nat} {K : Nat → Nat} {F : Nat → Nat → Int32}  {P : ((Nat → Int32) × (Nat → Nat → Int32)) → Prop} {kx10 : (Nat → Int32) → (Nat → Nat → Int32) → Prop} (C : CX D cy R_Pl c_Pl_prepare tb_Pl_prepare 2 p s m args c Z) (hret : RetV p l e { frames := 2, cells := 0, slots := 0, locals := 44 } s m args below meth c c_Pl_prepare D Z Q (fun (u : (Nat → Int32) × (Nat → Nat → Int32)) => wC cy ad u.1 u.2 T L K F) P 0 0)
    (hx10 : ∀ (I : Nat → Int32) (A : Nat → Nat → Int32) (ls : Array Slot) (H : Heap) (locs : List Loc), lv_has ls 2 [(0, .ref (ad 4))] → HXw D Z s.heap H locs (wC cy ad I A T L K F) → kx10 I A → W p l e { frames := 2, cells := 0, slots := 0, locals := 44 } s m args below meth c H locs 0 0 Q (F0 m 50 ls [])) :
    ∀ (n : Nat) (I : Nat → Int32) (A : Nat → Nat → Int32) (x1 : Int32) (ls : Array Slot) (H : Heap) (locs : List Loc), lv_has ls 2 [(0, .ref (ad 4)), (1, .int x1)] → HXw D Z s.heap H locs (wC cy ad I A T L K F) → g_Pl_prepare_10 P kx10 n I A x1 → W p l e { frames := 2, cells := 0, slots := 0, locals := 44 } s m args below meth c H locs 0 0 Q (F0 m 10 ls []) := by
  intro n
  induction n with
  | zero => intro I A x1 ls H locs hl h hw; exact hw.elim
  | succ n ih =>
    intro I A x1 ls H locs hl h hw
    refine i_iload_n (n := 11) C 6 rfl rfl rfl hl 1 rfl ?_
    refine i_bipush (v := (8 : Int32)) (n := 13) C 7 rfl rfl rfl ?_
    refine i_icmp_ge (tgt := 50) (n := 16) C 8 rfl rfl rfl (fun c2 => ?_) (fun c2 => ?_)
    · replace hw := hw.1 c2
      exact hx10 I A ls _ _ (lv_sub hl [0] rfl) h hw
    · replace hw := hw.2 c2
      refine i_aload_n (n := 17) C 9 rfl rfl rfl hl 0 rfl ?_
      refine fgC_Pl_21 (n := 20) C 10 rfl rfl h ?_
      refine i_iload_n (n := 21) C 11 rfl rfl rfl hl 1 rfl ?_
      refine i_aload_n (n := 22) C 12 rfl rfl rfl hl 0 rfl ?_
      refine fgC_Pl_15 (n := 25) C 13 rfl rfl h ?_
      refine i_iload_n (n := 26) C 14 rfl rfl rfl hl 1 rfl ?_
      refine i_callSp (rest := [.int x1, .ref (ad 36)]) (n := 29) C 15 rfl rfl hl h (kS_Pl_51 ⟨by decide, by decide⟩) (m_Pl_sumOf ⟨by decide, rfl⟩ hw) rfl rfl (Nat.le_of_ble_eq_true rfl) ⟨by decide, by decide⟩ (fun r3 hw => ?_)
      obtain ⟨hb, hw⟩ := hw
      refine i_iast (n := 30) C 16 rfl rfl h (wC_arr 28 (by decide) rfl) hb (wC_sA 28 (by decide) rfl _ _) (fun H locs h => ?_)
      refine i_aload_n (n := 31) C 17 rfl rfl rfl hl 0 rfl ?_
      refine fgC_Pl_24 (n := 34) C 18 rfl rfl h ?_
      refine i_iload_n (n := 35) C 19 rfl rfl rfl hl 1 rfl ?_
      refine i_aload_n (n := 36) C 20 rfl rfl rfl hl 0 rfl ?_
      refine fgC_Pl_18 (n := 39) C 21 rfl rfl h ?_
      refine i_iload_n (n := 40) C 22 rfl rfl rfl hl 1 rfl ?_
      refine i_callSp (rest := [.int x1, .ref (ad 37)]) (n := 43) C 23 rfl rfl hl h (kS_Pl_51 ⟨by decide, by decide⟩) (m_Pl_sumOf ⟨by decide, rfl⟩ hw) rfl rfl (Nat.le_of_ble_eq_true rfl) ⟨by decide, by decide⟩ (fun r4 hw => ?_)
      obtain ⟨hb, hw⟩ := hw
      refine i_iast (n := 44) C 24 rfl rfl h (wC_arr 29 (by decide) rfl) hb (wC_sA 29 (by decide) rfl _ _) (fun H locs h => ?_)
      refine i_iinc (v := x1 + (1 : Int32)) (lv' := [(1, .int (x1 + (1 : Int32))), (0, .ref (ad 4))]) (n := 47) C 25 rfl rfl hl 1 rfl rfl (by decide) rfl (fun ls hl => ?_)
      refine i_goto (tgt := 10) C 26 rfl rfl ?_
      exact ih I (sA (sA A 28 x1 r3) 29 x1 r4) (x1 + (1 : Int32)) ls _ _ (lv_sub hl [1, 0] rfl) h hw
def g_Pl_prepare (I : Nat → Int32) (A : Nat → Nat → Int32) (P : ((Nat → Int32) × (Nat → Nat → Int32)) → Prop) : Prop := ((I 15) = 0 → (∃ N : Nat, g_Pl_prepare_10 P (fun (I_5 : Nat → Int32) (A_5 : Nat → Nat → Int32) => g_JArr_fill A_5 30 (-1 : Int32) (fun u6 => (P (va_up I_5 15 (1 : Int32), u6)))) N I A (0 : Int32))) ∧ (¬ (I 15) = 0 → (P (I, A)))
set_option maxHeartbeats 4000000 in
set_option maxRecDepth 100000 in
theorem m_Pl_prepare {l : Launch} {D : va_G} {cy : Nat → ClassId} {ad : Nat → Nat} {I : Nat → Int32} {A : Nat → Nat → Int32} {T : Nat → Option Nat} {L : List Nat} {K : Nat → Nat} {F : Nat → Nat → Int32}  {P : ((Nat → Int32) × (Nat → Nat → Int32)) → Prop} (hw : g_Pl_prepare I A P) : ∀ sz, Met l y_Pl_prepare (WL y_Pl_prepare c_Pl_prepare 2 none) { frames := 2, cells := 0, slots := 0, locals := 44 } (va_Pc [.ref (ad 4)] (PreW D cy (wC cy ad I A T L K F) sz)) (va_Qv P (fun u t => PostW D (va_A (wC cy ad I A T L K F) sz) ((fun (u : (Nat → Int32) × (Nat → Nat → Int32)) => wC cy ad u.1 u.2 T L K F) u) t) (va_A (wC cy ad I A T L K F) sz)) 0 0 (va_A (wC cy ad I A T L K F) sz) := by
  refine met_v (wf := fun (u : (Nat → Int32) × (Nat → Nat → Int32)) => wC cy ad u.1 u.2 T L K F) R_Pl db_Pl_prepare (by decide) rfl (Nat.le_of_ble_eq_true rfl) ?_
  intro p e s m below meth c Z Q ls hin C h hl hret
  have hl : lv_has ls 2 [(0, .ref (ad 4))] := hl
  refine i_aload_n (n := 1) C 0 rfl rfl rfl hl 0 rfl ?_
  refine fgC_Pl_34 (n := 4) C 1 rfl rfl h ?_
  refine i_if_eq (tgt := 8) (n := 7) C 2 rfl rfl rfl (fun c1 => ?_) (fun c1 => ?_)
  · replace hw := hw.1 c1
    refine i_iconst (v := (0 : Int32)) (n := 9) C 4 rfl rfl rfl ?_
    refine i_istore_n (lv' := [(1, .int (0 : Int32)), (0, .ref (ad 4))]) (n := 10) C 5 rfl rfl rfl hl (by decide) rfl (fun ls hl => ?_)
    obtain ⟨n5, hw⟩ := hw
    refine e_Pl_prepare_10 C hret (fun I_5 A_5 ls H locs hl h hw => ?_) n5 I A (0 : Int32) ls _ _ (lv_sub hl [1, 0] rfl) h hw
    have hl : lv_has ls 2 [(0, .ref (ad 4))] := hl
    refine i_aload_n (n := 51) C 27 rfl rfl rfl hl 0 rfl ?_
    refine fgC_Pl_27 (n := 54) C 28 rfl rfl h ?_
    refine i_iconst (v := (-1 : Int32)) (n := 55) C 29 rfl rfl rfl ?_
    refine i_callSv (rest := []) (n := 58) C 30 rfl rfl hl h (kX_Pl_55 ⟨by decide, by decide⟩) (m_JArr_fill ⟨by decide, rfl⟩ hw) rfl rfl (Nat.le_of_ble_eq_true rfl) ⟨by decide, by decide⟩ (fun u6 H locs hw h => ?_)
    refine i_aload_n (n := 59) C 31 rfl rfl rfl hl 0 rfl ?_
    refine i_iconst (v := (1 : Int32)) (n := 60) C 32 rfl rfl rfl ?_
    refine fpC_Pl_34 (n := 63) C 33 rfl rfl h (by first | exact Or.inl rfl | exact Or.inr rfl) (fun H locs h => ?_)
    exact hret (va_up I_5 15 (1 : Int32), u6) _ _ _ _ hw h (C.dg (k := 34) rfl)
  · replace hw := hw.2 c1
    exact hret (I, A) _ _ _ _ hw h (C.dg (k := 3) rfl)
end S161
section S162
variable {p : Program} {l : Launch} {e : Env} {R : Room} {s : State} {m : MethodId} {args : Array Value} {below : List Frame} {meth : Method} {c : Code} {H : Heap} {locs : List Loc} {cells slots : Nat} {Q : State → Prop}
variable {cc : ByteArray} {pc n nL : Nat} {ls : Array Slot} {rest : List Value} {D : va_G} {cy : Nat → ClassId} {Z : Nat → Prop} {ad : Nat → Nat} {tb : List (Nat × Instr × Nat)} {lv : List (Nat × Value)}
def g_Pl_weightsBehind (A : Nat → Nat → Int32) (a1 : Int32) (a2 : Int32) (a3 : Int32) (P : Int32 → Prop) : Prop := vp_in a2 8 ∧ (vp_in a1 8 ∧ (P ((if (a3 + (A 28 a2.toNatClampNeg)) < (200 : Int32) then (a3 + (A 28 a2.toNatClampNeg)) else (200 : Int32)) - (A 25 a1.toNatClampNeg))))
set_option maxHeartbeats 4000000 in
set_option maxRecDepth 100000 in
theorem m_Pl_weightsBehind {l : Launch} {D : va_G} {cy : Nat → ClassId} {ad : Nat → Nat} {I : Nat → Int32} {A : Nat → Nat → Int32} {T : Nat → Option Nat} {L : List Nat} {K : Nat → Nat} {F : Nat → Nat → Int32} {a1 : Int32} {a2 : Int32} {a3 : Int32} {P : Int32 → Prop} (hw : g_Pl_weightsBehind A a1 a2 a3 P) : ∀ sz, Met l y_Pl_weightsBehind (WL y_Pl_weightsBehind c_Pl_weightsBehind 4 (some .int)) { frames := 1, cells := 0, slots := 0, locals := 21 } (va_Pc [.ref (ad 4), .int a1, .int a2, .int a3] (PreW D cy (wC cy ad I A T L K F) sz)) (vp_Si P) 0 0 (fun _ => False) := by
  refine met_p R_Pl .int db_Pl_weightsBehind (by decide) rfl rfl (Nat.le_of_ble_eq_true rfl) ?_
  intro p e s m below meth c Z Q ls C h hl hret
  have hl : lv_has ls 4 [(0, .ref (ad 4)), (1, .int a1), (2, .int a2), (3, .int a3)] := hl
  refine i_sipush (v := (200 : Int32)) (n := 3) C 0 rfl rfl rfl ?_
  refine i_iload_n (n := 4) C 1 rfl rfl rfl hl 3 rfl ?_
  refine i_aload_n (n := 5) C 2 rfl rfl rfl hl 0 rfl ?_
  refine fgC_Pl_21 (n := 8) C 3 rfl rfl h ?_
  refine i_iload_n (n := 9) C 4 rfl rfl rfl hl 2 rfl ?_
  obtain ⟨hb, hw⟩ := hw
  refine i_iald (n := 10) C 5 rfl rfl h (wC_arr 28 (by decide) rfl) hb ?_
  refine i_iadd (n := 11) C 6 rfl rfl ?_
  refine i_mmin (n := 14) C 7 rfl rfl hl w_5_70 (by decide) (Nat.le_of_ble_eq_true rfl) (Nat.le_of_ble_eq_true rfl) (Nat.le_of_ble_eq_true rfl) ?_
  refine i_aload_n (n := 15) C 8 rfl rfl rfl hl 0 rfl ?_
  refine fgC_Pl_11 (n := 18) C 9 rfl rfl h ?_
  refine i_iload_n (n := 19) C 10 rfl rfl rfl hl 1 rfl ?_
  obtain ⟨hb, hw⟩ := hw
  refine i_iald (n := 20) C 11 rfl rfl h (wC_arr 25 (by decide) rfl) hb ?_
  refine i_isub (n := 21) C 12 rfl rfl ?_
  exact hret _ _ _ rfl hw (C.dg (k := 13) rfl)
end S162
theorem kV_Pl_48 {R : Room} {s : State} {args : Array Value} (hR : 1 + 1 ≤ R.frames ∧ 8 + (4 + 11) + 21 ≤ R.locals) (ht : ∀ w ∈ GW, w.before args s = true) : CallW R s args R_Pl R_Pl 48 y_Pl_weightsBehind c_Pl_weightsBehind 4 (some .int) (WL y_Pl_weightsBehind c_Pl_weightsBehind 4 (some .int)) { frames := 1, cells := 0, slots := 0, locals := 21 } 0 0 3 := cwV 3 ht (GW_v w_5_66 w_5_68 w_0_26 w_1_5 (GW_wl w_5_69)) rfl rfl rfl (by decide +kernel) hR
theorem kV_Pl_41_d {d : Nat} {R : Room} {s : State} {args : Array Value} (hR : (2 * d + 2) + 1 ≤ R.frames ∧ 8 + (7 + 11) + (100 * d + 100) ≤ R.locals) (ht : ∀ w ∈ GW, w.before args s = true) : CallW R s args R_Pl R_Pl 41 y_Pl_leastCoal c_Pl_leastCoal 7 (some .int) (WL y_Pl_leastCoal c_Pl_leastCoal 7 (some .int)) { frames := (2 * d + 2), cells := 0, slots := 0, locals := (100 * d + 100) } 0 0 3 := cwV 3 ht (GW_v w_5_57 w_5_59 w_0_24 w_1_5 (GW_wl w_5_60)) rfl rfl rfl (by decide +kernel) hR
section S163
variable {p : Program} {l : Launch} {e : Env} {R : Room} {s : State} {m : MethodId} {args : Array Value} {below : List Frame} {meth : Method} {c : Code} {H : Heap} {locs : List Loc} {cells slots : Nat} {Q : State → Prop}
variable {cc : ByteArray} {pc n nL : Nat} {ls : Array Slot} {rest : List Value} {D : va_G} {cy : Nat → ClassId} {Z : Nat → Prop} {ad : Nat → Nat} {tb : List (Nat × Instr × Nat)} {lv : List (Nat × Value)}
def g_Pl_coalIfLit (I : Nat → Int32) (A : Nat → Nat → Int32) (a1 : Int32) (a2 : Int32) (a3 : Int32) (a4 : Int32) (gl : (Nat → Int32) → (Nat → Nat → Int32) → Int32 → Int32 → Int32 → (Int32 → (Nat → Nat → Int32) → Prop) → Prop) (P : Int32 → ((Nat → Nat → Int32)) → Prop) : Prop := vp_in a3 8 ∧ (g_Pl_weightsBehind A a1 (a2 &&& a3) a4 (fun r1 => (gl I A (a1 + (1 : Int32)) a3 r1 (fun r2 u3 => (P ((A 29 a3.toNatClampNeg) + r2) u3)))))
set_option maxHeartbeats 4000000 in
set_option maxRecDepth 100000 in
theorem m_Pl_coalIfLit {l : Launch} {D : va_G} {cy : Nat → ClassId} {ad : Nat → Nat} {I : Nat → Int32} {A : Nat → Nat → Int32} {T : Nat → Option Nat} {L : List Nat} {K : Nat → Nat} {F : Nat → Nat → Int32} {a1 : Int32} {a2 : Int32} {a3 : Int32} {a4 : Int32} {d : Nat} {gl : (Nat → Int32) → (Nat → Nat → Int32) → Int32 → Int32 → Int32 → (Int32 → (Nat → Nat → Int32) → Prop) → Prop} {P : Int32 → ((Nat → Nat → Int32)) → Prop} (hgl : ∀ {I : Nat → Int32} {A : Nat → Nat → Int32} {a1 a2 a3 : Int32} {P : Int32 → (Nat → Nat → Int32) → Prop}, gl I A a1 a2 a3 P → ∀ sz, Met l y_Pl_leastCoal (WL y_Pl_leastCoal c_Pl_leastCoal 7 (some .int)) { frames := (2 * d + 2), cells := 0, slots := 0, locals := (100 * d + 100) } (va_Pc [.ref (ad 4), .int a1, .int a2, .int a3] (PreW D cy (wC cy ad I A T L K F) sz)) (va_Qi P (fun u t => PostW D (va_A (wC cy ad I A T L K F) sz) (wC cy ad I u T L K F) t) (va_A (wC cy ad I A T L K F) sz)) 0 0 (va_A (wC cy ad I A T L K F) sz)) (hw : g_Pl_coalIfLit I A a1 a2 a3 a4 gl P) : ∀ sz, Met l y_Pl_coalIfLit (WL y_Pl_coalIfLit c_Pl_coalIfLit 5 (some .int)) { frames := (2 * d + 3), cells := 0, slots := 0, locals := (100 * d + 150) } (va_Pc [.ref (ad 4), .int a1, .int a2, .int a3, .int a4] (PreW D cy (wC cy ad I A T L K F) sz)) (va_Qi P (fun u t => PostW D (va_A (wC cy ad I A T L K F) sz) ((fun (u : (Nat → Nat → Int32)) => wC cy ad I u T L K F) u) t) (va_A (wC cy ad I A T L K F) sz)) 0 0 (va_A (wC cy ad I A T L K F) sz) := by
  refine met_i (wf := fun (u : (Nat → Nat → Int32)) => wC cy ad I u T L K F) R_Pl .int db_Pl_coalIfLit (by decide) rfl rfl (Nat.le_of_ble_eq_true rfl) ?_
  intro p e s m below meth c Z Q ls C h hl hret
  have hl : lv_has ls 5 [(0, .ref (ad 4)), (1, .int a1), (2, .int a2), (3, .int a3), (4, .int a4)] := hl
  refine i_aload_n (n := 1) C 0 rfl rfl rfl hl 0 rfl ?_
  refine fgC_Pl_24 (n := 4) C 1 rfl rfl h ?_
  refine i_iload_n (n := 5) C 2 rfl rfl rfl hl 3 rfl ?_
  obtain ⟨hb, hw⟩ := hw
  refine i_iald (n := 6) C 3 rfl rfl h (wC_arr 29 (by decide) rfl) hb ?_
  refine i_aload_n (n := 7) C 4 rfl rfl rfl hl 0 rfl ?_
  refine i_iload_n (n := 8) C 5 rfl rfl rfl hl 1 rfl ?_
  refine i_iconst (v := (1 : Int32)) (n := 9) C 6 rfl rfl rfl ?_
  refine i_iadd (n := 10) C 7 rfl rfl ?_
  refine i_iload_n (n := 11) C 8 rfl rfl rfl hl 3 rfl ?_
  refine i_aload_n (n := 12) C 9 rfl rfl rfl hl 0 rfl ?_
  refine i_iload_n (n := 13) C 10 rfl rfl rfl hl 1 rfl ?_
  refine i_iload_n (n := 14) C 11 rfl rfl rfl hl 2 rfl ?_
  refine i_iload_n (n := 15) C 12 rfl rfl rfl hl 3 rfl ?_
  refine i_iand (n := 16) C 13 rfl rfl ?_
  refine i_iload (n := 18) C 14 rfl rfl hl 4 rfl ?_
  refine i_callVp (rest := [.int a3, .int (a1 + (1 : Int32)), .ref (ad 4), .int (A 29 a3.toNatClampNeg)]) (ci := 8) (qc := (R_Pl, T_Pl, 8)) (n := 21) C 15 rfl rfl hl h rfl (wC_get (h := 4) (by decide)) (kV_Pl_48 ⟨by first | decide | (dsimp only; omega), by first | decide | (dsimp only; omega)⟩) (m_Pl_weightsBehind hw) rfl rfl (Nat.le_of_ble_eq_true rfl) ⟨by first | decide | (dsimp only; omega), by first | decide | (dsimp only; omega)⟩ (fun r1 hw => ?_)
  refine i_callVi (rest := [.int (A 29 a3.toNatClampNeg)]) (ci := 8) (qc := (R_Pl, T_Pl, 8)) (n := 24) C 16 rfl rfl hl h rfl (wC_get (h := 4) (by decide)) (kV_Pl_41_d ⟨by first | decide | (dsimp only; omega), by first | decide | (dsimp only; omega)⟩) (hgl hw) rfl rfl (Nat.le_of_ble_eq_true rfl) ⟨by first | decide | (dsimp only; omega), by first | decide | (dsimp only; omega)⟩ (fun r2 u3 H locs hw h => ?_)
  refine i_iadd (n := 25) C 17 rfl rfl ?_
  exact hret _ u3 _ _ _ _ rfl hw h (C.dg (k := 18) rfl)
end S163
theorem kV_Pl_72_d {d : Nat} {R : Room} {s : State} {args : Array Value} (hR : (2 * d + 3) + 1 ≤ R.frames ∧ 8 + (5 + 11) + (100 * d + 150) ≤ R.locals) (ht : ∀ w ∈ GW, w.before args s = true) : CallW R s args R_Pl R_Pl 72 y_Pl_coalIfLit c_Pl_coalIfLit 5 (some .int) (WL y_Pl_coalIfLit c_Pl_coalIfLit 5 (some .int)) { frames := (2 * d + 3), cells := 0, slots := 0, locals := (100 * d + 150) } 0 0 4 := cwV 4 ht (GW_v w_5_62 w_5_64 w_0_25 w_1_5 (GW_wl w_5_65)) rfl rfl rfl (by decide +kernel) hR
section S164
variable {p : Program} {l : Launch} {e : Env} {R : Room} {s : State} {m : MethodId} {args : Array Value} {below : List Frame} {meth : Method} {c : Code} {H : Heap} {locs : List Loc} {cells slots : Nat} {Q : State → Prop}
variable {cc : ByteArray} {pc n nL : Nat} {ls : Array Slot} {rest : List Value} {D : va_G} {cy : Nat → ClassId} {Z : Nat → Prop} {ad : Nat → Nat} {tb : List (Nat × Instr × Nat)} {lv : List (Nat × Value)}
def g_Pl_leastCoal_87 (I : Nat → Int32) (a1 : Int32) (a2 : Int32) (a3 : Int32) (gl : (Nat → Int32) → (Nat → Nat → Int32) → Int32 → Int32 → Int32 → (Int32 → (Nat → Nat → Int32) → Prop) → Prop) (P : Int32 → ((Nat → Nat → Int32)) → Prop)  (A : Nat → Nat → Int32) (x4 : Int32) : Prop := vp_in x4 12864 ∧ (P (A 30 x4.toNatClampNeg) A)
set_option maxHeartbeats 4000000 in
set_option maxRecDepth 100000 in
theorem e_Pl_leastCoal_87 {I : Nat → Int32} {T : Nat → Option Nat} {L : List Nat} {K : Nat → Nat} {F : Nat → Nat → Int32} {a1 : Int32} {a2 : Int32} {a3 : Int32} {d : Nat} {gl : (Nat → Int32) → (Nat → Nat → Int32) → Int32 → Int32 → Int32 → (Int32 → (Nat → Nat → Int32) → Prop) → Prop} {P : Int32 → ((Nat → Nat → Int32)) → Prop}  (C : CX D cy R_Pl c_Pl_leastCoal tb_Pl_leastCoal 7 p s m args c Z) (hgl : ∀ {I : Nat → Int32} {A : Nat → Nat → Int32} {a1 a2 a3 : Int32} {P : Int32 → (Nat → Nat → Int32) → Prop}, gl I A a1 a2 a3 P → ∀ sz, Met l y_Pl_leastCoal (WL y_Pl_leastCoal c_Pl_leastCoal 7 (some .int)) { frames := (2 * d + 2), cells := 0, slots := 0, locals := (100 * d + 100) } (va_Pc [.ref (ad 4), .int a1, .int a2, .int a3] (PreW D cy (wC cy ad I A T L K F) sz)) (va_Qi P (fun u t => PostW D (va_A (wC cy ad I A T L K F) sz) (wC cy ad I u T L K F) t) (va_A (wC cy ad I A T L K F) sz)) 0 0 (va_A (wC cy ad I A T L K F) sz)) (hret : RetI p l e { frames := (2 * d + 4), cells := 0, slots := 0, locals := (100 * d + 200) } s m args below meth c c_Pl_leastCoal .int D Z Q (fun (u : (Nat → Nat → Int32)) => wC cy ad I u T L K F) P 0 0) :
    ∀ (A : Nat → Nat → Int32) (x4 : Int32) (ls : Array Slot) (H : Heap) (locs : List Loc), lv_has ls 7 [(0, .ref (ad 4)), (4, .int x4)] → HXw D Z s.heap H locs (wC cy ad I A T L K F) → g_Pl_leastCoal_87 I a1 a2 a3 gl P  A x4 → W p l e { frames := (2 * d + 4), cells := 0, slots := 0, locals := (100 * d + 200) } s m args below meth c H locs 0 0 Q (F0 m 87 ls []) := by
  intro A x4 ls H locs hl h hw
  refine i_aload_n (n := 88) C 49 rfl rfl rfl hl 0 rfl ?_
  refine fgC_Pl_27 (n := 91) C 50 rfl rfl h ?_
  refine i_iload (n := 93) C 51 rfl rfl hl 1 rfl ?_
  obtain ⟨hb, hw⟩ := hw
  refine i_iald (n := 94) C 52 rfl rfl h (wC_arr 30 (by decide) rfl) hb ?_
  exact hret _ A _ _ _ _ rfl hw h (C.dg (k := 53) rfl)
def g_Pl_leastCoal_49 (I : Nat → Int32) (a1 : Int32) (a2 : Int32) (a3 : Int32) (gl : (Nat → Int32) → (Nat → Nat → Int32) → Int32 → Int32 → Int32 → (Int32 → (Nat → Nat → Int32) → Prop) → Prop) (P : Int32 → ((Nat → Nat → Int32)) → Prop) (kx49 : (Nat → Nat → Int32) → Int32 → Int32 → Prop) : Nat → (Nat → Nat → Int32) → Int32 → Int32 → Int32 → Prop
  | 0, _, _, _, _ => False
  | n49 + 1, A, x4, x5, x6 => ((8 : Int32) ≤ x6 → (kx49 A x4 x5)) ∧ (¬ (8 : Int32) ≤ x6 → (g_Pl_coalIfLit I A a1 a2 x6 a3 gl (fun r6 u7 => (∀ y8 : Int32, y8 = (if r6 < x5 then r6 else x5) → (g_Pl_leastCoal_49 I a1 a2 a3 gl P kx49 n49 u7 x4 y8 (x6 + (1 : Int32)))))))
set_option maxHeartbeats 4000000 in
set_option maxRecDepth 100000 in
theorem e_Pl_leastCoal_49 {I : Nat → Int32} {T : Nat → Option Nat} {L : List Nat} {K : Nat → Nat} {F : Nat → Nat → Int32} {a1 : Int32} {a2 : Int32} {a3 : Int32} {d : Nat} {gl : (Nat → Int32) → (Nat → Nat → Int32) → Int32 → Int32 → Int32 → (Int32 → (Nat → Nat → Int32) → Prop) → Prop} {P : Int32 → ((Nat → Nat → Int32)) → Prop} {kx49 : (Nat → Nat → Int32) → Int32 → Int32 → Prop} (C : CX D cy R_Pl c_Pl_leastCoal tb_Pl_leastCoal 7 p s m args c Z) (hgl : ∀ {I : Nat → Int32} {A : Nat → Nat → Int32} {a1 a2 a3 : Int32} {P : Int32 → (Nat → Nat → Int32) → Prop}, gl I A a1 a2 a3 P → ∀ sz, Met l y_Pl_leastCoal (WL y_Pl_leastCoal c_Pl_leastCoal 7 (some .int)) { frames := (2 * d + 2), cells := 0, slots := 0, locals := (100 * d + 100) } (va_Pc [.ref (ad 4), .int a1, .int a2, .int a3] (PreW D cy (wC cy ad I A T L K F) sz)) (va_Qi P (fun u t => PostW D (va_A (wC cy ad I A T L K F) sz) (wC cy ad I u T L K F) t) (va_A (wC cy ad I A T L K F) sz)) 0 0 (va_A (wC cy ad I A T L K F) sz)) (hret : RetI p l e { frames := (2 * d + 4), cells := 0, slots := 0, locals := (100 * d + 200) } s m args below meth c c_Pl_leastCoal .int D Z Q (fun (u : (Nat → Nat → Int32)) => wC cy ad I u T L K F) P 0 0)
    (hx49 : ∀ (A : Nat → Nat → Int32) (x4 : Int32) (x5 : Int32) (ls : Array Slot) (H : Heap) (locs : List Loc), lv_has ls 7 [(0, .ref (ad 4)), (4, .int x4), (5, .int x5)] → HXw D Z s.heap H locs (wC cy ad I A T L K F) → kx49 A x4 x5 → W p l e { frames := (2 * d + 4), cells := 0, slots := 0, locals := (100 * d + 200) } s m args below meth c H locs 0 0 Q (F0 m 78 ls [])) :
    ∀ (n : Nat) (A : Nat → Nat → Int32) (x4 : Int32) (x5 : Int32) (x6 : Int32) (ls : Array Slot) (H : Heap) (locs : List Loc), lv_has ls 7 [(0, .ref (ad 4)), (1, .int a1), (2, .int a2), (3, .int a3), (4, .int x4), (5, .int x5), (6, .int x6)] → HXw D Z s.heap H locs (wC cy ad I A T L K F) → g_Pl_leastCoal_49 I a1 a2 a3 gl P kx49 n A x4 x5 x6 → W p l e { frames := (2 * d + 4), cells := 0, slots := 0, locals := (100 * d + 200) } s m args below meth c H locs 0 0 Q (F0 m 49 ls []) := by
  intro n
  induction n with
  | zero => intro A x4 x5 x6 ls H locs hl h hw; exact hw.elim
  | succ n ih =>
    intro A x4 x5 x6 ls H locs hl h hw
    refine i_iload (n := 51) C 30 rfl rfl hl 6 rfl ?_
    refine i_bipush (v := (8 : Int32)) (n := 53) C 31 rfl rfl rfl ?_
    refine i_icmp_ge (tgt := 78) (n := 56) C 32 rfl rfl rfl (fun c5 => ?_) (fun c5 => ?_)
    · replace hw := hw.1 c5
      exact hx49 A x4 x5 ls _ _ (lv_sub hl [0, 4, 5] rfl) h hw
    · replace hw := hw.2 c5
      refine i_iload (n := 58) C 33 rfl rfl hl 5 rfl ?_
      refine i_aload_n (n := 59) C 34 rfl rfl rfl hl 0 rfl ?_
      refine i_iload_n (n := 60) C 35 rfl rfl rfl hl 1 rfl ?_
      refine i_iload_n (n := 61) C 36 rfl rfl rfl hl 2 rfl ?_
      refine i_iload (n := 63) C 37 rfl rfl hl 6 rfl ?_
      refine i_iload_n (n := 64) C 38 rfl rfl rfl hl 3 rfl ?_
      refine i_callVi (rest := [.int x5]) (ci := 8) (qc := (R_Pl, T_Pl, 8)) (n := 67) C 39 rfl rfl hl h rfl (wC_get (h := 4) (by decide)) (kV_Pl_72_d ⟨by first | decide | (dsimp only; omega), by first | decide | (dsimp only; omega)⟩) (m_Pl_coalIfLit hgl hw) rfl rfl (Nat.le_of_ble_eq_true rfl) ⟨by first | decide | (dsimp only; omega), by first | decide | (dsimp only; omega)⟩ (fun r6 u7 H locs hw h => ?_)
      refine i_mmin (n := 70) C 40 rfl rfl hl w_5_70 (by dsimp only; omega) (Nat.le_trans (m := 21) (Nat.le_of_ble_eq_true rfl) (by dsimp only; omega)) (Nat.le_of_ble_eq_true rfl) (Nat.le_of_ble_eq_true rfl) ?_
      refine lv_topi (fun y8 ey8 => ?_)
      replace hw := hw y8 ey8
      refine i_istore (lv' := [(5, .int y8), (0, .ref (ad 4)), (1, .int a1), (2, .int a2), (3, .int a3), (4, .int x4), (6, .int x6)]) (n := 72) C 41 rfl rfl hl (by decide) rfl (fun ls hl => ?_)
      refine i_iinc (v := x6 + (1 : Int32)) (lv' := [(6, .int (x6 + (1 : Int32))), (5, .int y8), (0, .ref (ad 4)), (1, .int a1), (2, .int a2), (3, .int a3), (4, .int x4)]) (n := 75) C 42 rfl rfl hl 6 rfl rfl (by decide) rfl (fun ls hl => ?_)
      refine i_goto (tgt := 49) C 43 rfl rfl ?_
      exact ih u7 x4 y8 (x6 + (1 : Int32)) ls _ _ (lv_sub hl [2, 3, 4, 5, 6, 1, 0] rfl) h hw
def g_Pl_leastCoal (I : Nat → Int32) (A : Nat → Nat → Int32) (a1 : Int32) (a2 : Int32) (a3 : Int32) (gl : (Nat → Int32) → (Nat → Nat → Int32) → Int32 → Int32 → Int32 → (Int32 → (Nat → Nat → Int32) → Prop) → Prop) (P : Int32 → ((Nat → Nat → Int32)) → Prop) : Prop := (0 ≤ a3 → ((a1 < (I 14) → (∀ y3 : Int32, y3 = ((((a1 * (8 : Int32)) + a2) * (201 : Int32)) + a3) → (vp_in y3 12864 ∧ ((¬ (A 30 y3.toNatClampNeg) = (-1 : Int32) → (g_Pl_leastCoal_87 I a1 a2 a3 gl P  A y3)) ∧ ((A 30 y3.toNatClampNeg) = (-1 : Int32) → (∃ N : Nat, g_Pl_leastCoal_49 I a1 a2 a3 gl P (fun (A_9 : Nat → Nat → Int32) (x4_9 : Int32) (x5_9 : Int32) => vp_in x4_9 12864 ∧ (g_Pl_leastCoal_87 I a1 a2 a3 gl P  (sA A_9 30 x4_9 x5_9) x4_9)) N A y3 (1000000 : Int32) (0 : Int32))))))) ∧ (¬ a1 < (I 14) → (P (0 : Int32) A)))) ∧ (¬ 0 ≤ a3 → (P (1000000 : Int32) A))
set_option maxHeartbeats 4000000 in
set_option maxRecDepth 100000 in
theorem m_Pl_leastCoal {l : Launch} {D : va_G} {cy : Nat → ClassId} {ad : Nat → Nat} {I : Nat → Int32} {A : Nat → Nat → Int32} {T : Nat → Option Nat} {L : List Nat} {K : Nat → Nat} {F : Nat → Nat → Int32} {a1 : Int32} {a2 : Int32} {a3 : Int32} {d : Nat} {gl : (Nat → Int32) → (Nat → Nat → Int32) → Int32 → Int32 → Int32 → (Int32 → (Nat → Nat → Int32) → Prop) → Prop} {P : Int32 → ((Nat → Nat → Int32)) → Prop} (hgl : ∀ {I : Nat → Int32} {A : Nat → Nat → Int32} {a1 a2 a3 : Int32} {P : Int32 → (Nat → Nat → Int32) → Prop}, gl I A a1 a2 a3 P → ∀ sz, Met l y_Pl_leastCoal (WL y_Pl_leastCoal c_Pl_leastCoal 7 (some .int)) { frames := (2 * d + 2), cells := 0, slots := 0, locals := (100 * d + 100) } (va_Pc [.ref (ad 4), .int a1, .int a2, .int a3] (PreW D cy (wC cy ad I A T L K F) sz)) (va_Qi P (fun u t => PostW D (va_A (wC cy ad I A T L K F) sz) (wC cy ad I u T L K F) t) (va_A (wC cy ad I A T L K F) sz)) 0 0 (va_A (wC cy ad I A T L K F) sz)) (hw : g_Pl_leastCoal I A a1 a2 a3 gl P) : ∀ sz, Met l y_Pl_leastCoal (WL y_Pl_leastCoal c_Pl_leastCoal 7 (some .int)) { frames := (2 * d + 4), cells := 0, slots := 0, locals := (100 * d + 200) } (va_Pc [.ref (ad 4), .int a1, .int a2, .int a3] (PreW D cy (wC cy ad I A T L K F) sz)) (va_Qi P (fun u t => PostW D (va_A (wC cy ad I A T L K F) sz) ((fun (u : (Nat → Nat → Int32)) => wC cy ad I u T L K F) u) t) (va_A (wC cy ad I A T L K F) sz)) 0 0 (va_A (wC cy ad I A T L K F) sz) := by
  refine met_i (wf := fun (u : (Nat → Nat → Int32)) => wC cy ad I u T L K F) R_Pl .int db_Pl_leastCoal (by decide) rfl rfl (Nat.le_of_ble_eq_true rfl) ?_
  intro p e s m below meth c Z Q ls C h hl hret
  have hl : lv_has ls 7 [(0, .ref (ad 4)), (1, .int a1), (2, .int a2), (3, .int a3)] := hl
  refine i_iload_n (n := 1) C 0 rfl rfl rfl hl 3 rfl ?_
  refine i_if_ge (tgt := 7) (n := 4) C 1 rfl rfl rfl (fun c1 => ?_) (fun c1 => ?_)
  · replace hw := hw.1 c1
    refine i_iload_n (n := 8) C 4 rfl rfl rfl hl 1 rfl ?_
    refine i_aload_n (n := 9) C 5 rfl rfl rfl hl 0 rfl ?_
    refine fgC_Pl_30 (n := 12) C 6 rfl rfl h ?_
    refine i_icmp_lt (tgt := 17) (n := 15) C 7 rfl rfl rfl (fun c2 => ?_) (fun c2 => ?_)
    · replace hw := hw.1 c2
      refine i_iload_n (n := 18) C 10 rfl rfl rfl hl 1 rfl ?_
      refine i_bipush (v := (8 : Int32)) (n := 20) C 11 rfl rfl rfl ?_
      refine i_imul (n := 21) C 12 rfl rfl ?_
      refine i_iload_n (n := 22) C 13 rfl rfl rfl hl 2 rfl ?_
      refine i_iadd (n := 23) C 14 rfl rfl ?_
      refine i_sipush (v := (201 : Int32)) (n := 26) C 15 rfl rfl rfl ?_
      refine i_imul (n := 27) C 16 rfl rfl ?_
      refine i_iload_n (n := 28) C 17 rfl rfl rfl hl 3 rfl ?_
      refine i_iadd (n := 29) C 18 rfl rfl ?_
      refine lv_topi (fun y3 ey3 => ?_)
      replace hw := hw y3 ey3
      refine i_istore (lv' := [(4, .int y3), (0, .ref (ad 4)), (1, .int a1), (2, .int a2), (3, .int a3)]) (n := 31) C 19 rfl rfl hl (by decide) rfl (fun ls hl => ?_)
      refine i_aload_n (n := 32) C 20 rfl rfl rfl hl 1 rfl ?_
      refine fgC_Pl_27 (n := 35) C 21 rfl rfl h ?_
      refine i_iload (n := 37) C 22 rfl rfl hl 0 rfl ?_
      obtain ⟨hb, hw⟩ := hw
      refine i_iald (n := 38) C 23 rfl rfl h (wC_arr 30 (by decide) rfl) hb ?_
      refine i_iconst (v := (-1 : Int32)) (n := 39) C 24 rfl rfl rfl ?_
      refine i_icmp_ne (tgt := 87) (n := 42) C 25 rfl rfl rfl (fun c4 => ?_) (fun c4 => ?_)
      · replace hw := hw.1 c4
        exact e_Pl_leastCoal_87 C hgl hret  A y3 ls _ _ (lv_sub hl [1, 0] rfl) h hw
      · replace hw := hw.2 c4
        refine i_ldc (n := 44) C 26 rfl rfl w_5_61 ?_
        refine i_istore (lv' := [(5, .int (1000000 : Int32)), (4, .int y3), (0, .ref (ad 4)), (1, .int a1), (2, .int a2), (3, .int a3)]) (n := 46) C 27 rfl rfl hl (by decide) rfl (fun ls hl => ?_)
        refine i_iconst (v := (0 : Int32)) (n := 47) C 28 rfl rfl rfl ?_
        refine i_istore (lv' := [(6, .int (0 : Int32)), (5, .int (1000000 : Int32)), (4, .int y3), (0, .ref (ad 4)), (1, .int a1), (2, .int a2), (3, .int a3)]) (n := 49) C 29 rfl rfl hl (by decide) rfl (fun ls hl => ?_)
        obtain ⟨n9, hw⟩ := hw
        refine e_Pl_leastCoal_49 C hgl hret (fun A_9 x4_9 x5_9 ls H locs hl h hw => ?_) n9 A y3 (1000000 : Int32) (0 : Int32) ls _ _ (lv_sub hl [3, 4, 5, 6, 2, 1, 0] rfl) h hw
        have hl : lv_has ls 7 [(0, .ref (ad 4)), (4, .int x4_9), (5, .int x5_9)] := hl
        refine i_aload_n (n := 79) C 44 rfl rfl rfl hl 0 rfl ?_
        refine fgC_Pl_27 (n := 82) C 45 rfl rfl h ?_
        refine i_iload (n := 84) C 46 rfl rfl hl 1 rfl ?_
        refine i_iload (n := 86) C 47 rfl rfl hl 2 rfl ?_
        obtain ⟨hb, hw⟩ := hw
        refine i_iast (n := 87) C 48 rfl rfl h (wC_arr 30 (by decide) rfl) hb (wC_sA 30 (by decide) rfl _ _) (fun H locs h => ?_)
        exact e_Pl_leastCoal_87 C hgl hret  (sA A_9 30 x4_9 x5_9) x4_9 ls _ _ (lv_sub hl [0, 1] rfl) h hw
    · replace hw := hw.2 c2
      refine i_iconst (v := (0 : Int32)) (n := 16) C 8 rfl rfl rfl ?_
      exact hret _ A _ _ _ _ rfl hw h (C.dg (k := 9) rfl)
  · replace hw := hw.2 c1
    refine i_ldc (n := 6) C 2 rfl rfl w_5_61 ?_
    exact hret _ A _ _ _ _ rfl hw h (C.dg (k := 3) rfl)
def G_least : Nat → (Nat → Int32) → (Nat → Nat → Int32) → Int32 → Int32 → Int32 → (Int32 → (Nat → Nat → Int32) → Prop) → Prop
  | 0 => fun _ _ _ _ _ _ => False
  | d + 1 => fun I A a1 a2 a3 P => g_Pl_leastCoal I A a1 a2 a3 (G_least d) P
theorem M_least {l : Launch} {D : va_G} {cy : Nat → ClassId} {ad : Nat → Nat} {T : Nat → Option Nat} {L : List Nat} {K : Nat → Nat} {F : Nat → Nat → Int32} : ∀ (d : Nat) {I : Nat → Int32} {A : Nat → Nat → Int32} {a1 a2 a3 : Int32} {P : Int32 → (Nat → Nat → Int32) → Prop}, G_least d I A a1 a2 a3 P → ∀ sz, Met l y_Pl_leastCoal (WL y_Pl_leastCoal c_Pl_leastCoal 7 (some .int)) { frames := (2 * d + 2), cells := 0, slots := 0, locals := (100 * d + 100) } (va_Pc [.ref (ad 4), .int a1, .int a2, .int a3] (PreW D cy (wC cy ad I A T L K F) sz)) (va_Qi P (fun u t => PostW D (va_A (wC cy ad I A T L K F) sz) (wC cy ad I u T L K F) t) (va_A (wC cy ad I A T L K F) sz)) 0 0 (va_A (wC cy ad I A T L K F) sz) := by
  intro d
  induction d with
  | zero => intro I A a1 a2 a3 P hw; exact hw.elim
  | succ d ih =>
    intro I A a1 a2 a3 P hw
    have h := m_Pl_leastCoal (l := l) (D := D) (cy := cy) (ad := ad) (T := T) (L := L) (K := K) (F := F) (d := d) ih hw
    rw [show 2 * d + 4 = 2 * (d + 1) + 2 by omega, show 100 * d + 200 = 100 * (d + 1) + 100 by omega] at h
    exact h
end S164
theorem kV_Pl_38 {R : Room} {s : State} {args : Array Value} (hR : 2 + 1 ≤ R.frames ∧ 8 + (2 + 11) + 44 ≤ R.locals) (ht : ∀ w ∈ GW, w.before args s = true) : CallW R s args R_Pl R_Pl 38 y_Pl_prepare c_Pl_prepare 2 none (WL y_Pl_prepare c_Pl_prepare 2 none) { frames := 2, cells := 0, slots := 0, locals := 44 } 0 0 0 := cwV 0 ht (GW_v w_5_48 w_5_50 w_0_23 w_1_5 (GW_wl w_5_51)) rfl rfl rfl (by decide +kernel) hR
theorem kV_Pl_41 {R : Room} {s : State} {args : Array Value} (hR : 22 + 1 ≤ R.frames ∧ 8 + (7 + 11) + 1100 ≤ R.locals) (ht : ∀ w ∈ GW, w.before args s = true) : CallW R s args R_Pl R_Pl 41 y_Pl_leastCoal c_Pl_leastCoal 7 (some .int) (WL y_Pl_leastCoal c_Pl_leastCoal 7 (some .int)) { frames := 22, cells := 0, slots := 0, locals := 1100 } 0 0 3 := cwV 3 ht (GW_v w_5_57 w_5_59 w_0_24 w_1_5 (GW_wl w_5_60)) rfl rfl rfl (by decide +kernel) hR
section S165
variable {p : Program} {l : Launch} {e : Env} {R : Room} {s : State} {m : MethodId} {args : Array Value} {below : List Frame} {meth : Method} {c : Code} {H : Heap} {locs : List Loc} {cells slots : Nat} {Q : State → Prop}
variable {cc : ByteArray} {pc n nL : Nat} {ls : Array Slot} {rest : List Value} {D : va_G} {cy : Nat → ClassId} {Z : Nat → Prop} {ad : Nat → Nat} {tb : List (Nat × Instr × Nat)} {lv : List (Nat × Value)}
def g_Pl_coalFrom (I : Nat → Int32) (A : Nat → Nat → Int32) (a1 : Int32) (P : Int32 → ((Nat → Int32) × (Nat → Nat → Int32)) → Prop) : Prop := g_Pl_prepare I A (fun u1 => (G_least 10 u1.1 u1.2 (0 : Int32) (0 : Int32) a1 (fun r2 u3 => (P r2 (u1.1, u3)))))
set_option maxHeartbeats 4000000 in
set_option maxRecDepth 100000 in
theorem m_Pl_coalFrom {l : Launch} {D : va_G} {cy : Nat → ClassId} {ad : Nat → Nat} {I : Nat → Int32} {A : Nat → Nat → Int32} {T : Nat → Option Nat} {L : List Nat} {K : Nat → Nat} {F : Nat → Nat → Int32} {a1 : Int32} {P : Int32 → ((Nat → Int32) × (Nat → Nat → Int32)) → Prop} (hw : g_Pl_coalFrom I A a1 P) : ∀ sz, Met l y_Pl_coalFrom (WL y_Pl_coalFrom c_Pl_coalFrom 2 (some .int)) { frames := 23, cells := 0, slots := 0, locals := 1126 } (va_Pc [.ref (ad 4), .int a1] (PreW D cy (wC cy ad I A T L K F) sz)) (va_Qi P (fun u t => PostW D (va_A (wC cy ad I A T L K F) sz) ((fun (u : (Nat → Int32) × (Nat → Nat → Int32)) => wC cy ad u.1 u.2 T L K F) u) t) (va_A (wC cy ad I A T L K F) sz)) 0 0 (va_A (wC cy ad I A T L K F) sz) := by
  refine met_i (wf := fun (u : (Nat → Int32) × (Nat → Nat → Int32)) => wC cy ad u.1 u.2 T L K F) R_Pl .int db_Pl_coalFrom (by decide) rfl rfl (Nat.le_of_ble_eq_true rfl) ?_
  intro p e s m below meth c Z Q ls C h hl hret
  have hl : lv_has ls 2 [(0, .ref (ad 4)), (1, .int a1)] := hl
  refine i_aload_n (n := 1) C 0 rfl rfl rfl hl 0 rfl ?_
  refine i_callVv (rest := []) (ci := 8) (qc := (R_Pl, T_Pl, 8)) (n := 4) C 1 rfl rfl hl h rfl (wC_get (h := 4) (by decide)) (kV_Pl_38 ⟨by decide, by decide⟩) (m_Pl_prepare hw) rfl rfl (Nat.le_of_ble_eq_true rfl) ⟨by decide, by decide⟩ (fun u1 H locs hw h => ?_)
  refine i_aload_n (n := 5) C 2 rfl rfl rfl hl 0 rfl ?_
  refine i_iconst (v := (0 : Int32)) (n := 6) C 3 rfl rfl rfl ?_
  refine i_iconst (v := (0 : Int32)) (n := 7) C 4 rfl rfl rfl ?_
  refine i_iload_n (n := 8) C 5 rfl rfl rfl hl 1 rfl ?_
  refine i_callVi (rest := []) (ci := 8) (qc := (R_Pl, T_Pl, 8)) (n := 11) C 6 rfl rfl hl h rfl (wC_get (h := 4) (by decide)) (kV_Pl_41 ⟨by decide, by decide⟩) (M_least 10 hw) rfl rfl (Nat.le_of_ble_eq_true rfl) ⟨by decide, by decide⟩ (fun r2 u3 H locs hw h => ?_)
  exact hret _ (u1.1, u3) _ _ _ _ rfl hw h (C.dg (k := 7) rfl)
end S165
theorem kV_Pl_72 {R : Room} {s : State} {args : Array Value} (hR : 23 + 1 ≤ R.frames ∧ 8 + (5 + 11) + 1150 ≤ R.locals) (ht : ∀ w ∈ GW, w.before args s = true) : CallW R s args R_Pl R_Pl 72 y_Pl_coalIfLit c_Pl_coalIfLit 5 (some .int) (WL y_Pl_coalIfLit c_Pl_coalIfLit 5 (some .int)) { frames := 23, cells := 0, slots := 0, locals := 1150 } 0 0 4 := cwV 4 ht (GW_v w_5_62 w_5_64 w_0_25 w_1_5 (GW_wl w_5_65)) rfl rfl rfl (by decide +kernel) hR
section S166
variable {p : Program} {l : Launch} {e : Env} {R : Room} {s : State} {m : MethodId} {args : Array Value} {below : List Frame} {meth : Method} {c : Code} {H : Heap} {locs : List Loc} {cells slots : Nat} {Q : State → Prop}
variable {cc : ByteArray} {pc n nL : Nat} {ls : Array Slot} {rest : List Value} {D : va_G} {cy : Nat → ClassId} {Z : Nat → Prop} {ad : Nat → Nat} {tb : List (Nat × Instr × Nat)} {lv : List (Nat × Value)}
def g_Pl_firstBest_12 (I : Nat → Int32) (a1 : Int32) (a2 : Int32) (a3 : Int32) (P : Int32 → ((Nat → Nat → Int32)) → Prop) (kx12 : (Nat → Nat → Int32) → Prop) : Nat → (Nat → Nat → Int32) → Int32 → Int32 → Prop
  | 0, _, _, _ => False
  | n12 + 1, A, x4, x5 => ((8 : Int32) ≤ x5 → (kx12 A)) ∧ (¬ (8 : Int32) ≤ x5 → (g_Pl_coalIfLit I A a1 a2 x5 a3 (G_least 10) (fun r4 u5 => ((¬ r4 = x4 → (g_Pl_firstBest_12 I a1 a2 a3 P kx12 n12 u5 x4 (x5 + (1 : Int32)))) ∧ (r4 = x4 → (P x5 u5))))))
set_option maxHeartbeats 4000000 in
set_option maxRecDepth 100000 in
theorem e_Pl_firstBest_12 {I : Nat → Int32} {T : Nat → Option Nat} {L : List Nat} {K : Nat → Nat} {F : Nat → Nat → Int32} {a1 : Int32} {a2 : Int32} {a3 : Int32} {P : Int32 → ((Nat → Nat → Int32)) → Prop} {kx12 : (Nat → Nat → Int32) → Prop} (C : CX D cy R_Pl c_Pl_firstBest tb_Pl_firstBest 6 p s m args c Z) (hret : RetI p l e { frames := 24, cells := 0, slots := 0, locals := 1174 } s m args below meth c c_Pl_firstBest .int D Z Q (fun (u : (Nat → Nat → Int32)) => wC cy ad I u T L K F) P 0 0)
    (hx12 : ∀ (A : Nat → Nat → Int32) (ls : Array Slot) (H : Heap) (locs : List Loc), lv_has ls 6 [] → HXw D Z s.heap H locs (wC cy ad I A T L K F) → kx12 A → W p l e { frames := 24, cells := 0, slots := 0, locals := 1174 } s m args below meth c H locs 0 0 Q (F0 m 42 ls [])) :
    ∀ (n : Nat) (A : Nat → Nat → Int32) (x4 : Int32) (x5 : Int32) (ls : Array Slot) (H : Heap) (locs : List Loc), lv_has ls 6 [(0, .ref (ad 4)), (1, .int a1), (2, .int a2), (3, .int a3), (4, .int x4), (5, .int x5)] → HXw D Z s.heap H locs (wC cy ad I A T L K F) → g_Pl_firstBest_12 I a1 a2 a3 P kx12 n A x4 x5 → W p l e { frames := 24, cells := 0, slots := 0, locals := 1174 } s m args below meth c H locs 0 0 Q (F0 m 12 ls []) := by
  intro n
  induction n with
  | zero => intro A x4 x5 ls H locs hl h hw; exact hw.elim
  | succ n ih =>
    intro A x4 x5 ls H locs hl h hw
    refine i_iload (n := 14) C 8 rfl rfl hl 5 rfl ?_
    refine i_bipush (v := (8 : Int32)) (n := 16) C 9 rfl rfl rfl ?_
    refine i_icmp_ge (tgt := 42) (n := 19) C 10 rfl rfl rfl (fun c3 => ?_) (fun c3 => ?_)
    · replace hw := hw.1 c3
      exact hx12 A ls _ _ (lv_sub hl [] rfl) h hw
    · replace hw := hw.2 c3
      refine i_aload_n (n := 20) C 11 rfl rfl rfl hl 0 rfl ?_
      refine i_iload_n (n := 21) C 12 rfl rfl rfl hl 1 rfl ?_
      refine i_iload_n (n := 22) C 13 rfl rfl rfl hl 2 rfl ?_
      refine i_iload (n := 24) C 14 rfl rfl hl 5 rfl ?_
      refine i_iload_n (n := 25) C 15 rfl rfl rfl hl 3 rfl ?_
      refine i_callVi (rest := []) (ci := 8) (qc := (R_Pl, T_Pl, 8)) (n := 28) C 16 rfl rfl hl h rfl (wC_get (h := 4) (by decide)) (kV_Pl_72 ⟨by decide, by decide⟩) (m_Pl_coalIfLit (d := 10) (M_least 10) hw) rfl rfl (Nat.le_of_ble_eq_true rfl) ⟨by decide, by decide⟩ (fun r4 u5 H locs hw h => ?_)
      refine i_iload (n := 30) C 17 rfl rfl hl 4 rfl ?_
      refine i_icmp_ne (tgt := 36) (n := 33) C 18 rfl rfl rfl (fun c6 => ?_) (fun c6 => ?_)
      · replace hw := hw.1 c6
        refine i_iinc (v := x5 + (1 : Int32)) (lv' := [(5, .int (x5 + (1 : Int32))), (0, .ref (ad 4)), (1, .int a1), (2, .int a2), (3, .int a3), (4, .int x4)]) (n := 39) C 21 rfl rfl hl 5 rfl rfl (by decide) rfl (fun ls hl => ?_)
        refine i_goto (tgt := 12) C 22 rfl rfl ?_
        exact ih u5 x4 (x5 + (1 : Int32)) ls _ _ (lv_sub hl [1, 2, 3, 4, 5, 0] rfl) h hw
      · replace hw := hw.2 c6
        refine i_iload (n := 35) C 19 rfl rfl hl 5 rfl ?_
        exact hret _ u5 _ _ _ _ rfl hw h (C.dg (k := 20) rfl)
def g_Pl_firstBest (I : Nat → Int32) (A : Nat → Nat → Int32) (a1 : Int32) (a2 : Int32) (a3 : Int32) (P : Int32 → ((Nat → Nat → Int32)) → Prop) : Prop := G_least 10 I A a1 a2 a3 (fun r1 u2 => (∃ N : Nat, g_Pl_firstBest_12 I a1 a2 a3 P (fun (A_7 : Nat → Nat → Int32) => P (0 : Int32) A_7) N u2 r1 (0 : Int32)))
set_option maxHeartbeats 4000000 in
set_option maxRecDepth 100000 in
theorem m_Pl_firstBest {l : Launch} {D : va_G} {cy : Nat → ClassId} {ad : Nat → Nat} {I : Nat → Int32} {A : Nat → Nat → Int32} {T : Nat → Option Nat} {L : List Nat} {K : Nat → Nat} {F : Nat → Nat → Int32} {a1 : Int32} {a2 : Int32} {a3 : Int32} {P : Int32 → ((Nat → Nat → Int32)) → Prop} (hw : g_Pl_firstBest I A a1 a2 a3 P) : ∀ sz, Met l y_Pl_firstBest (WL y_Pl_firstBest c_Pl_firstBest 6 (some .int)) { frames := 24, cells := 0, slots := 0, locals := 1174 } (va_Pc [.ref (ad 4), .int a1, .int a2, .int a3] (PreW D cy (wC cy ad I A T L K F) sz)) (va_Qi P (fun u t => PostW D (va_A (wC cy ad I A T L K F) sz) ((fun (u : (Nat → Nat → Int32)) => wC cy ad I u T L K F) u) t) (va_A (wC cy ad I A T L K F) sz)) 0 0 (va_A (wC cy ad I A T L K F) sz) := by
  refine met_i (wf := fun (u : (Nat → Nat → Int32)) => wC cy ad I u T L K F) R_Pl .int db_Pl_firstBest (by decide) rfl rfl (Nat.le_of_ble_eq_true rfl) ?_
  intro p e s m below meth c Z Q ls C h hl hret
  have hl : lv_has ls 6 [(0, .ref (ad 4)), (1, .int a1), (2, .int a2), (3, .int a3)] := hl
  refine i_aload_n (n := 1) C 0 rfl rfl rfl hl 0 rfl ?_
  refine i_iload_n (n := 2) C 1 rfl rfl rfl hl 1 rfl ?_
  refine i_iload_n (n := 3) C 2 rfl rfl rfl hl 2 rfl ?_
  refine i_iload_n (n := 4) C 3 rfl rfl rfl hl 3 rfl ?_
  refine i_callVi (rest := []) (ci := 8) (qc := (R_Pl, T_Pl, 8)) (n := 7) C 4 rfl rfl hl h rfl (wC_get (h := 4) (by decide)) (kV_Pl_41 ⟨by decide, by decide⟩) (M_least 10 hw) rfl rfl (Nat.le_of_ble_eq_true rfl) ⟨by decide, by decide⟩ (fun r1 u2 H locs hw h => ?_)
  refine i_istore (lv' := [(4, .int r1), (0, .ref (ad 4)), (1, .int a1), (2, .int a2), (3, .int a3)]) (n := 9) C 5 rfl rfl hl (by decide) rfl (fun ls hl => ?_)
  refine i_iconst (v := (0 : Int32)) (n := 10) C 6 rfl rfl rfl ?_
  refine i_istore (lv' := [(5, .int (0 : Int32)), (4, .int r1), (0, .ref (ad 4)), (1, .int a1), (2, .int a2), (3, .int a3)]) (n := 12) C 7 rfl rfl hl (by decide) rfl (fun ls hl => ?_)
  obtain ⟨n7, hw⟩ := hw
  refine e_Pl_firstBest_12 C hret (fun A_7 ls H locs hl h hw => ?_) n7 u2 r1 (0 : Int32) ls _ _ (lv_sub hl [2, 3, 4, 5, 1, 0] rfl) h hw
  have hl : lv_has ls 6 [] := hl
  refine i_iconst (v := (0 : Int32)) (n := 43) C 23 rfl rfl rfl ?_
  exact hret _ A_7 _ _ _ _ rfl hw h (C.dg (k := 24) rfl)
end S166
theorem kV_Pl_45 {R : Room} {s : State} {args : Array Value} (hR : 24 + 1 ≤ R.frames ∧ 8 + (6 + 11) + 1174 ≤ R.locals) (ht : ∀ w ∈ GW, w.before args s = true) : CallW R s args R_Pl R_Pl 45 y_Pl_firstBest c_Pl_firstBest 6 (some .int) (WL y_Pl_firstBest c_Pl_firstBest 6 (some .int)) { frames := 24, cells := 0, slots := 0, locals := 1174 } 0 0 3 := cwV 3 ht (GW_v w_5_75 w_5_77 w_0_27 w_1_5 (GW_wl w_5_78)) rfl rfl rfl (by decide +kernel) hR
section S167
variable {p : Program} {l : Launch} {e : Env} {R : Room} {s : State} {m : MethodId} {args : Array Value} {below : List Frame} {meth : Method} {c : Code} {H : Heap} {locs : List Loc} {cells slots : Nat} {Q : State → Prop}
variable {cc : ByteArray} {pc n nL : Nat} {ls : Array Slot} {rest : List Value} {D : va_G} {cy : Nat → ClassId} {Z : Nat → Prop} {ad : Nat → Nat} {tb : List (Nat × Instr × Nat)} {lv : List (Nat × Value)}
def g_Pl_litIn_27 (a1 : Int32) (a2 : Int32) (P : Int32 → ((Nat → Int32) × (Nat → Nat → Int32)) → Prop) (kx27 : (Nat → Int32) → (Nat → Nat → Int32) → Int32 → Prop) : Nat → (Nat → Int32) → (Nat → Nat → Int32) → Int32 → Int32 → Int32 → Prop
  | 0, _, _, _, _, _ => False
  | n27 + 1, I, A, x3, x4, x5 => (a1 < x5 → (kx27 I A x3)) ∧ (¬ a1 < x5 → (g_Pl_firstBest I A x5 x3 x4 (fun r5 u6 => (g_Pl_weightsBehind u6 x5 (x3 &&& r5) x4 (fun r7 => (g_Pl_litIn_27 a1 a2 P kx27 n27 I u6 r5 r7 (x5 + (1 : Int32))))))))
set_option maxHeartbeats 4000000 in
set_option maxRecDepth 100000 in
theorem e_Pl_litIn_27 {T : Nat → Option Nat} {L : List Nat} {K : Nat → Nat} {F : Nat → Nat → Int32} {a1 : Int32} {a2 : Int32} {P : Int32 → ((Nat → Int32) × (Nat → Nat → Int32)) → Prop} {kx27 : (Nat → Int32) → (Nat → Nat → Int32) → Int32 → Prop} (C : CX D cy R_Pl c_Pl_litIn tb_Pl_litIn 7 p s m args c Z) (hret : RetI p l e { frames := 25, cells := 0, slots := 0, locals := 1199 } s m args below meth c c_Pl_litIn .int D Z Q (fun (u : (Nat → Int32) × (Nat → Nat → Int32)) => wC cy ad u.1 u.2 T L K F) P 0 0)
    (hx27 : ∀ (I : Nat → Int32) (A : Nat → Nat → Int32) (x3 : Int32) (ls : Array Slot) (H : Heap) (locs : List Loc), lv_has ls 7 [(3, .int x3)] → HXw D Z s.heap H locs (wC cy ad I A T L K F) → kx27 I A x3 → W p l e { frames := 25, cells := 0, slots := 0, locals := 1199 } s m args below meth c H locs 0 0 Q (F0 m 67 ls [])) :
    ∀ (n : Nat) (I : Nat → Int32) (A : Nat → Nat → Int32) (x3 : Int32) (x4 : Int32) (x5 : Int32) (ls : Array Slot) (H : Heap) (locs : List Loc), lv_has ls 7 [(0, .ref (ad 4)), (1, .int a1), (3, .int x3), (4, .int x4), (5, .int x5)] → HXw D Z s.heap H locs (wC cy ad I A T L K F) → g_Pl_litIn_27 a1 a2 P kx27 n I A x3 x4 x5 → W p l e { frames := 25, cells := 0, slots := 0, locals := 1199 } s m args below meth c H locs 0 0 Q (F0 m 27 ls []) := by
  intro n
  induction n with
  | zero => intro I A x3 x4 x5 ls H locs hl h hw; exact hw.elim
  | succ n ih =>
    intro I A x3 x4 x5 ls H locs hl h hw
    refine i_iload (n := 29) C 16 rfl rfl hl 4 rfl ?_
    refine i_iload_n (n := 30) C 17 rfl rfl rfl hl 1 rfl ?_
    refine i_icmp_gt (tgt := 67) (n := 33) C 18 rfl rfl rfl (fun c4 => ?_) (fun c4 => ?_)
    · replace hw := hw.1 c4
      exact hx27 I A x3 ls _ _ (lv_sub hl [2] rfl) h hw
    · replace hw := hw.2 c4
      refine i_aload_n (n := 34) C 19 rfl rfl rfl hl 0 rfl ?_
      refine i_iload (n := 36) C 20 rfl rfl hl 4 rfl ?_
      refine i_iload_n (n := 37) C 21 rfl rfl rfl hl 2 rfl ?_
      refine i_iload (n := 39) C 22 rfl rfl hl 3 rfl ?_
      refine i_callVi (rest := []) (ci := 8) (qc := (R_Pl, T_Pl, 8)) (n := 42) C 23 rfl rfl hl h rfl (wC_get (h := 4) (by decide)) (kV_Pl_45 ⟨by decide, by decide⟩) (m_Pl_firstBest hw) rfl rfl (Nat.le_of_ble_eq_true rfl) ⟨by decide, by decide⟩ (fun r5 u6 H locs hw h => ?_)
      refine i_istore (lv' := [(6, .int r5), (0, .ref (ad 4)), (1, .int a1), (3, .int x3), (4, .int x4), (5, .int x5)]) (n := 44) C 24 rfl rfl hl (by decide) rfl (fun ls hl => ?_)
      refine i_aload_n (n := 45) C 25 rfl rfl rfl hl 1 rfl ?_
      refine i_iload (n := 47) C 26 rfl rfl hl 5 rfl ?_
      refine i_iload_n (n := 48) C 27 rfl rfl rfl hl 3 rfl ?_
      refine i_iload (n := 50) C 28 rfl rfl hl 0 rfl ?_
      refine i_iand (n := 51) C 29 rfl rfl ?_
      refine i_iload (n := 53) C 30 rfl rfl hl 4 rfl ?_
      refine i_callVp (rest := []) (ci := 8) (qc := (R_Pl, T_Pl, 8)) (n := 56) C 31 rfl rfl hl h rfl (wC_get (h := 4) (by decide)) (kV_Pl_48 ⟨by decide, by decide⟩) (m_Pl_weightsBehind hw) rfl rfl (Nat.le_of_ble_eq_true rfl) ⟨by decide, by decide⟩ (fun r7 hw => ?_)
      refine i_istore (lv' := [(4, .int r7), (6, .int r5), (0, .ref (ad 4)), (1, .int a1), (3, .int x3), (5, .int x5)]) (n := 58) C 32 rfl rfl hl (by decide) rfl (fun ls hl => ?_)
      refine i_iload (n := 60) C 33 rfl rfl hl 1 rfl ?_
      refine i_istore_n (lv' := [(3, .int r5), (4, .int r7), (6, .int r5), (0, .ref (ad 4)), (1, .int a1), (5, .int x5)]) (n := 61) C 34 rfl rfl rfl hl (by decide) rfl (fun ls hl => ?_)
      refine i_iinc (v := x5 + (1 : Int32)) (lv' := [(5, .int (x5 + (1 : Int32))), (3, .int r5), (4, .int r7), (6, .int r5), (0, .ref (ad 4)), (1, .int a1)]) (n := 64) C 35 rfl rfl hl 5 rfl rfl (by decide) rfl (fun ls hl => ?_)
      refine i_goto (tgt := 27) C 36 rfl rfl ?_
      exact ih I u6 r5 r7 (x5 + (1 : Int32)) ls _ _ (lv_sub hl [4, 5, 1, 2, 0] rfl) h hw
def g_Pl_litIn (I : Nat → Int32) (A : Nat → Nat → Int32) (a1 : Int32) (a2 : Int32) (P : Int32 → ((Nat → Int32) × (Nat → Nat → Int32)) → Prop) : Prop := (a1 < 0 → (P (-6 : Int32) (I, A))) ∧ (¬ a1 < 0 → ((a1 < (I 14) → (g_Pl_prepare I A (fun u3 => (∃ N : Nat, g_Pl_litIn_27 a1 a2 P (fun (I_8 : Nat → Int32) (A_8 : Nat → Nat → Int32) (x3_8 : Int32) => P x3_8 (I_8, A_8)) N u3.1 u3.2 (0 : Int32) a2 (0 : Int32))))) ∧ (¬ a1 < (I 14) → (P (-6 : Int32) (I, A)))))
set_option maxHeartbeats 4000000 in
set_option maxRecDepth 100000 in
theorem m_Pl_litIn {l : Launch} {D : va_G} {cy : Nat → ClassId} {ad : Nat → Nat} {I : Nat → Int32} {A : Nat → Nat → Int32} {T : Nat → Option Nat} {L : List Nat} {K : Nat → Nat} {F : Nat → Nat → Int32} {a1 : Int32} {a2 : Int32} {P : Int32 → ((Nat → Int32) × (Nat → Nat → Int32)) → Prop} (hw : g_Pl_litIn I A a1 a2 P) : ∀ sz, Met l y_Pl_litIn (WL y_Pl_litIn c_Pl_litIn 7 (some .int)) { frames := 25, cells := 0, slots := 0, locals := 1199 } (va_Pc [.ref (ad 4), .int a1, .int a2] (PreW D cy (wC cy ad I A T L K F) sz)) (va_Qi P (fun u t => PostW D (va_A (wC cy ad I A T L K F) sz) ((fun (u : (Nat → Int32) × (Nat → Nat → Int32)) => wC cy ad u.1 u.2 T L K F) u) t) (va_A (wC cy ad I A T L K F) sz)) 0 0 (va_A (wC cy ad I A T L K F) sz) := by
  refine met_i (wf := fun (u : (Nat → Int32) × (Nat → Nat → Int32)) => wC cy ad u.1 u.2 T L K F) R_Pl .int db_Pl_litIn (by decide) rfl rfl (Nat.le_of_ble_eq_true rfl) ?_
  intro p e s m below meth c Z Q ls C h hl hret
  have hl : lv_has ls 7 [(0, .ref (ad 4)), (1, .int a1), (2, .int a2)] := hl
  refine i_iload_n (n := 1) C 0 rfl rfl rfl hl 1 rfl ?_
  refine i_if_lt (tgt := 12) (n := 4) C 1 rfl rfl rfl (fun c1 => ?_) (fun c1 => ?_)
  · replace hw := hw.1 c1
    refine i_bipush (v := (-6 : Int32)) (n := 14) C 6 rfl rfl rfl ?_
    exact hret _ (I, A) _ _ _ _ rfl hw h (C.dg (k := 7) rfl)
  · replace hw := hw.2 c1
    refine i_iload_n (n := 5) C 2 rfl rfl rfl hl 1 rfl ?_
    refine i_aload_n (n := 6) C 3 rfl rfl rfl hl 0 rfl ?_
    refine fgC_Pl_30 (n := 9) C 4 rfl rfl h ?_
    refine i_icmp_lt (tgt := 15) (n := 12) C 5 rfl rfl rfl (fun c2 => ?_) (fun c2 => ?_)
    · replace hw := hw.1 c2
      refine i_aload_n (n := 16) C 8 rfl rfl rfl hl 0 rfl ?_
      refine i_callVv (rest := []) (ci := 8) (qc := (R_Pl, T_Pl, 8)) (n := 19) C 9 rfl rfl hl h rfl (wC_get (h := 4) (by decide)) (kV_Pl_38 ⟨by decide, by decide⟩) (m_Pl_prepare hw) rfl rfl (Nat.le_of_ble_eq_true rfl) ⟨by decide, by decide⟩ (fun u3 H locs hw h => ?_)
      refine i_iconst (v := (0 : Int32)) (n := 20) C 10 rfl rfl rfl ?_
      refine i_istore_n (lv' := [(3, .int (0 : Int32)), (0, .ref (ad 4)), (1, .int a1), (2, .int a2)]) (n := 21) C 11 rfl rfl rfl hl (by decide) rfl (fun ls hl => ?_)
      refine i_iload_n (n := 22) C 12 rfl rfl rfl hl 3 rfl ?_
      refine i_istore (lv' := [(4, .int a2), (3, .int (0 : Int32)), (0, .ref (ad 4)), (1, .int a1), (2, .int a2)]) (n := 24) C 13 rfl rfl hl (by decide) rfl (fun ls hl => ?_)
      refine i_iconst (v := (0 : Int32)) (n := 25) C 14 rfl rfl rfl ?_
      refine i_istore (lv' := [(5, .int (0 : Int32)), (4, .int a2), (3, .int (0 : Int32)), (0, .ref (ad 4)), (1, .int a1), (2, .int a2)]) (n := 27) C 15 rfl rfl hl (by decide) rfl (fun ls hl => ?_)
      obtain ⟨n8, hw⟩ := hw
      refine e_Pl_litIn_27 C hret (fun I_8 A_8 x3_8 ls H locs hl h hw => ?_) n8 u3.1 u3.2 (0 : Int32) a2 (0 : Int32) ls _ _ (lv_sub hl [3, 4, 2, 1, 0] rfl) h hw
      have hl : lv_has ls 7 [(3, .int x3_8)] := hl
      refine i_iload_n (n := 68) C 37 rfl rfl rfl hl 0 rfl ?_
      exact hret _ (I_8, A_8) _ _ _ _ rfl hw h (C.dg (k := 38) rfl)
    · replace hw := hw.2 c2
      refine i_bipush (v := (-6 : Int32)) (n := 14) C 6 rfl rfl rfl ?_
      exact hret _ (I, A) _ _ _ _ rfl hw h (C.dg (k := 7) rfl)
end S167
theorem kV_Pw_341 {R : Room} {s : State} {args : Array Value} (hR : 23 + 1 ≤ R.frames ∧ 8 + (2 + 11) + 1126 ≤ R.locals) (ht : ∀ w ∈ GW, w.before args s = true) : CallW R s args R_Pw R_Pl 341 y_Pl_coalFrom c_Pl_coalFrom 2 (some .int) (WL y_Pl_coalFrom c_Pl_coalFrom 2 (some .int)) { frames := 23, cells := 0, slots := 0, locals := 1126 } 0 0 1 := cwV 1 ht (GW_v w_5_44 w_5_45 w_5_46 w_1_5 (GW_wl w_5_47)) rfl rfl rfl (by decide +kernel) hR
theorem kV_Pw_344 {R : Room} {s : State} {args : Array Value} (hR : 25 + 1 ≤ R.frames ∧ 8 + (7 + 11) + 1199 ≤ R.locals) (ht : ∀ w ∈ GW, w.before args s = true) : CallW R s args R_Pw R_Pl 344 y_Pl_litIn c_Pl_litIn 7 (some .int) (WL y_Pl_litIn c_Pl_litIn 7 (some .int)) { frames := 25, cells := 0, slots := 0, locals := 1199 } 0 0 2 := cwV 2 ht (GW_v w_5_71 w_5_72 w_5_73 w_1_5 (GW_wl w_5_74)) rfl rfl rfl (by decide +kernel) hR
section S168
variable {p : Program} {l : Launch} {e : Env} {R : Room} {s : State} {m : MethodId} {args : Array Value} {below : List Frame} {meth : Method} {c : Code} {H : Heap} {locs : List Loc} {cells slots : Nat} {Q : State → Prop}
variable {cc : ByteArray} {pc n nL : Nat} {ls : Array Slot} {rest : List Value} {D : va_G} {cy : Nat → ClassId} {Z : Nat → Prop} {ad : Nat → Nat} {tb : List (Nat × Instr × Nat)} {lv : List (Nat × Value)}
def g_Pw_best (I : Nat → Int32) (A : Nat → Nat → Int32) (a1 : Int32) (a2 : Int32) (P : Int32 → ((Nat → Int32) × (Nat → Nat → Int32)) → Prop) : Prop := g_Pw_isWithin a1 (0 : Int32) (200 : Int32) (fun r1 => ((¬ r1 = 0 → (g_Pl_coalFrom I A a1 (fun r3 u4 => ((r3 < (1000000 : Int32) → ((¬ a2 = (-1 : Int32) → (g_Pl_litIn u4.1 u4.2 a2 a1 (fun r7 u8 => (P r7 (u8.1, u8.2))))) ∧ (a2 = (-1 : Int32) → (P r3 (u4.1, u4.2))))) ∧ (¬ r3 < (1000000 : Int32) → (P (-5 : Int32) (u4.1, u4.2))))))) ∧ (r1 = 0 → (P (-2 : Int32) (I, A)))))
set_option maxHeartbeats 4000000 in
set_option maxRecDepth 100000 in
theorem m_Pw_best {l : Launch} {D : va_G} {cy : Nat → ClassId} {ad : Nat → Nat} {I : Nat → Int32} {A : Nat → Nat → Int32} {T : Nat → Option Nat} {L : List Nat} {K : Nat → Nat} {F : Nat → Nat → Int32} {a1 : Int32} {a2 : Int32} {P : Int32 → ((Nat → Int32) × (Nat → Nat → Int32)) → Prop} (hw : g_Pw_best I A a1 a2 P) : ∀ sz, Met l y_Pw_best (WL y_Pw_best c_Pw_best 4 (some .int)) { frames := 26, cells := 0, slots := 0, locals := 1225 } (va_Pc [.ref (ad 0), .int a1, .int a2] (PreW D cy (wC cy ad I A T L K F) sz)) (va_Qi P (fun u t => PostW D (va_A (wC cy ad I A T L K F) sz) ((fun (u : (Nat → Int32) × (Nat → Nat → Int32)) => wC cy ad u.1 u.2 T L K F) u) t) (va_A (wC cy ad I A T L K F) sz)) 0 0 (va_A (wC cy ad I A T L K F) sz) := by
  refine met_i (wf := fun (u : (Nat → Int32) × (Nat → Nat → Int32)) => wC cy ad u.1 u.2 T L K F) R_Pw .int db_Pw_best (by decide) rfl rfl (Nat.le_of_ble_eq_true rfl) ?_
  intro p e s m below meth c Z Q ls C h hl hret
  have hl : lv_has ls 4 [(0, .ref (ad 0)), (1, .int a1), (2, .int a2)] := hl
  refine i_iload_n (n := 1) C 0 rfl rfl rfl hl 1 rfl ?_
  refine i_iconst (v := (0 : Int32)) (n := 2) C 1 rfl rfl rfl ?_
  refine i_sipush (v := (200 : Int32)) (n := 5) C 2 rfl rfl rfl ?_
  refine i_callSp (rest := []) (n := 8) C 3 rfl rfl hl h (kS_Pw_69 ⟨by decide, by decide⟩) (m_Pw_isWithin hw) rfl rfl (Nat.le_of_ble_eq_true rfl) ⟨by decide, by decide⟩ (fun r1 hw => ?_)
  refine i_if_ne (tgt := 14) (n := 11) C 4 rfl rfl rfl (fun c2 => ?_) (fun c2 => ?_)
  · replace hw := hw.1 c2
    refine i_aload_n (n := 15) C 7 rfl rfl rfl hl 0 rfl ?_
    refine fgC_Pw_31 (n := 18) C 8 rfl rfl h ?_
    refine i_iload_n (n := 19) C 9 rfl rfl rfl hl 1 rfl ?_
    refine i_callVi (rest := []) (ci := 8) (qc := (R_Pl, T_Pl, 8)) (n := 22) C 10 rfl rfl hl h rfl (wC_get (h := 4) (by decide)) (kV_Pw_341 ⟨by decide, by decide⟩) (m_Pl_coalFrom hw) rfl rfl (Nat.le_of_ble_eq_true rfl) ⟨by decide, by decide⟩ (fun r3 u4 H locs hw h => ?_)
    refine i_istore_n (lv' := [(3, .int r3), (0, .ref (ad 0)), (1, .int a1), (2, .int a2)]) (n := 23) C 11 rfl rfl rfl hl (by decide) rfl (fun ls hl => ?_)
    refine i_iload_n (n := 24) C 12 rfl rfl rfl hl 0 rfl ?_
    refine i_ldcw (n := 27) C 13 rfl rfl w_4_84 ?_
    refine i_icmp_lt (tgt := 33) (n := 30) C 14 rfl rfl rfl (fun c5 => ?_) (fun c5 => ?_)
    · replace hw := hw.1 c5
      refine i_iload_n (n := 34) C 17 rfl rfl rfl hl 3 rfl ?_
      refine i_iconst (v := (-1 : Int32)) (n := 35) C 18 rfl rfl rfl ?_
      refine i_icmp_ne (tgt := 42) (n := 38) C 19 rfl rfl rfl (fun c6 => ?_) (fun c6 => ?_)
      · replace hw := hw.1 c6
        refine i_aload_n (n := 43) C 22 rfl rfl rfl hl 1 rfl ?_
        refine fgC_Pw_31 (n := 46) C 23 rfl rfl h ?_
        refine i_iload_n (n := 47) C 24 rfl rfl rfl hl 3 rfl ?_
        refine i_iload_n (n := 48) C 25 rfl rfl rfl hl 2 rfl ?_
        refine i_callVi (rest := []) (ci := 8) (qc := (R_Pl, T_Pl, 8)) (n := 51) C 26 rfl rfl hl h rfl (wC_get (h := 4) (by decide)) (kV_Pw_344 ⟨by decide, by decide⟩) (m_Pl_litIn hw) rfl rfl (Nat.le_of_ble_eq_true rfl) ⟨by decide, by decide⟩ (fun r7 u8 H locs hw h => ?_)
        exact hret _ (u8.1, u8.2) _ _ _ _ rfl hw h (C.dg (k := 27) rfl)
      · replace hw := hw.2 c6
        refine i_iload_n (n := 39) C 20 rfl rfl rfl hl 0 rfl ?_
        refine i_goto (tgt := 51) C 21 rfl rfl ?_
        exact hret _ (u4.1, u4.2) _ _ _ _ rfl hw h (C.dg (k := 27) rfl)
    · replace hw := hw.2 c5
      refine i_bipush (v := (-5 : Int32)) (n := 32) C 15 rfl rfl rfl ?_
      exact hret _ (u4.1, u4.2) _ _ _ _ rfl hw h (C.dg (k := 16) rfl)
  · replace hw := hw.2 c2
    refine i_bipush (v := (-2 : Int32)) (n := 13) C 5 rfl rfl rfl ?_
    exact hret _ (I, A) _ _ _ _ rfl hw h (C.dg (k := 6) rfl)
end S168
section S169
variable {p : Program} {l : Launch} {e : Env} {R : Room} {s : State} {m : MethodId} {args : Array Value} {below : List Frame} {meth : Method} {c : Code} {H : Heap} {locs : List Loc} {cells slots : Nat} {Q : State → Prop}
variable {cc : ByteArray} {pc n nL : Nat} {ls : Array Slot} {rest : List Value} {D : va_G} {cy : Nat → ClassId} {Z : Nat → Prop} {ad : Nat → Nat} {tb : List (Nat × Instr × Nat)} {lv : List (Nat × Value)}
def g_Pl_firstFailure_28 (a1 : Int32) (P : Int32 → ((Nat → Int32) × (Nat → Nat → Int32)) → Prop) (kb8 : (Nat → Int32) → (Nat → Nat → Int32) → Int32 → Int32 → Prop) (I : Nat → Int32) (A : Nat → Nat → Int32) (x2 : Int32) (x3 : Int32) (s1 : Int32) (s2 : Int32) : Prop := g_Pl_weightsBehind A s1 s2 x2 (fun r4 => ((0 ≤ r4 → (kb8 I A r4 (x3 + (1 : Int32)))) ∧ (¬ 0 ≤ r4 → (P x3 (I, A)))))
set_option maxHeartbeats 4000000 in
set_option maxRecDepth 100000 in
theorem e_Pl_firstFailure_28 {T : Nat → Option Nat} {L : List Nat} {K : Nat → Nat} {F : Nat → Nat → Int32} {a1 : Int32} {P : Int32 → ((Nat → Int32) × (Nat → Nat → Int32)) → Prop} {kb8 : (Nat → Int32) → (Nat → Nat → Int32) → Int32 → Int32 → Prop} (C : CX D cy R_Pl c_Pl_firstFailure tb_Pl_firstFailure 4 p s m args c Z) (hret : RetI p l e { frames := 3, cells := 0, slots := 0, locals := 65 } s m args below meth c c_Pl_firstFailure .int D Z Q (fun (u : (Nat → Int32) × (Nat → Nat → Int32)) => wC cy ad u.1 u.2 T L K F) P 0 0)
    (hb8 : ∀ (I : Nat → Int32) (A : Nat → Nat → Int32) (x2 : Int32) (x3 : Int32) (ls : Array Slot) (H : Heap) (locs : List Loc), lv_has ls 4 [(0, .ref (ad 4)), (2, .int x2), (3, .int x3)] → HXw D Z s.heap H locs (wC cy ad I A T L K F) → kb8 I A x2 x3 → W p l e { frames := 3, cells := 0, slots := 0, locals := 65 } s m args below meth c H locs 0 0 Q (F0 m 8 ls [])) :
    ∀ (I : Nat → Int32) (A : Nat → Nat → Int32) (x2 : Int32) (x3 : Int32) (s1 : Int32) (s2 : Int32) (ls : Array Slot) (H : Heap) (locs : List Loc), lv_has ls 4 [(0, .ref (ad 4)), (2, .int x2), (3, .int x3)] → HXw D Z s.heap H locs (wC cy ad I A T L K F) → g_Pl_firstFailure_28 a1 P kb8 I A x2 x3 s1 s2 → W p l e { frames := 3, cells := 0, slots := 0, locals := 65 } s m args below meth c H locs 0 0 Q (F0 m 28 ls [.int s2, .int s1, .ref (ad 4)]) := by
  intro I A x2 x3 s1 s2 ls H locs hl h hw
  refine i_iload_n (n := 29) C 17 rfl rfl rfl hl 1 rfl ?_
  refine i_callVp (rest := []) (ci := 8) (qc := (R_Pl, T_Pl, 8)) (n := 32) C 18 rfl rfl hl h rfl (wC_get (h := 4) (by decide)) (kV_Pl_48 ⟨by decide, by decide⟩) (m_Pl_weightsBehind hw) rfl rfl (Nat.le_of_ble_eq_true rfl) ⟨by decide, by decide⟩ (fun r4 hw => ?_)
  refine i_istore_n (lv' := [(2, .int r4), (0, .ref (ad 4)), (3, .int x3)]) (n := 33) C 19 rfl rfl rfl hl (by decide) rfl (fun ls hl => ?_)
  refine i_iload_n (n := 34) C 20 rfl rfl rfl hl 0 rfl ?_
  refine i_if_ge (tgt := 39) (n := 37) C 21 rfl rfl rfl (fun c5 => ?_) (fun c5 => ?_)
  · replace hw := hw.1 c5
    refine i_iinc (v := x3 + (1 : Int32)) (lv' := [(3, .int (x3 + (1 : Int32))), (2, .int r4), (0, .ref (ad 4))]) (n := 42) C 24 rfl rfl hl 2 rfl rfl (by decide) rfl (fun ls hl => ?_)
    refine i_goto (tgt := 8) C 25 rfl rfl ?_
    exact hb8 I A r4 (x3 + (1 : Int32)) ls _ _ (lv_sub hl [2, 1, 0] rfl) h hw
  · replace hw := hw.2 c5
    refine i_iload_n (n := 38) C 22 rfl rfl rfl hl 2 rfl ?_
    exact hret _ (I, A) _ _ _ _ rfl hw h (C.dg (k := 23) rfl)
def g_Pl_firstFailure_8 (a1 : Int32) (P : Int32 → ((Nat → Int32) × (Nat → Nat → Int32)) → Prop) (kx8 : (Nat → Int32) → (Nat → Nat → Int32) → Prop) : Nat → (Nat → Int32) → (Nat → Nat → Int32) → Int32 → Int32 → Prop
  | 0, _, _, _, _ => False
  | n8 + 1, I, A, x2, x3 => ((I 14) ≤ x3 → (kx8 I A)) ∧ (¬ (I 14) ≤ x3 → ((¬ x3 = 0 → (g_Pl_firstFailure_28 a1 P (g_Pl_firstFailure_8 a1 P kx8 n8) I A x2 x3 x3 (7 : Int32))) ∧ (x3 = 0 → (g_Pl_firstFailure_28 a1 P (g_Pl_firstFailure_8 a1 P kx8 n8) I A x2 x3 x3 (0 : Int32)))))
set_option maxHeartbeats 4000000 in
set_option maxRecDepth 100000 in
theorem e_Pl_firstFailure_8 {T : Nat → Option Nat} {L : List Nat} {K : Nat → Nat} {F : Nat → Nat → Int32} {a1 : Int32} {P : Int32 → ((Nat → Int32) × (Nat → Nat → Int32)) → Prop} {kx8 : (Nat → Int32) → (Nat → Nat → Int32) → Prop} (C : CX D cy R_Pl c_Pl_firstFailure tb_Pl_firstFailure 4 p s m args c Z) (hret : RetI p l e { frames := 3, cells := 0, slots := 0, locals := 65 } s m args below meth c c_Pl_firstFailure .int D Z Q (fun (u : (Nat → Int32) × (Nat → Nat → Int32)) => wC cy ad u.1 u.2 T L K F) P 0 0)
    (hx8 : ∀ (I : Nat → Int32) (A : Nat → Nat → Int32) (ls : Array Slot) (H : Heap) (locs : List Loc), lv_has ls 4 [] → HXw D Z s.heap H locs (wC cy ad I A T L K F) → kx8 I A → W p l e { frames := 3, cells := 0, slots := 0, locals := 65 } s m args below meth c H locs 0 0 Q (F0 m 45 ls [])) :
    ∀ (n : Nat) (I : Nat → Int32) (A : Nat → Nat → Int32) (x2 : Int32) (x3 : Int32) (ls : Array Slot) (H : Heap) (locs : List Loc), lv_has ls 4 [(0, .ref (ad 4)), (2, .int x2), (3, .int x3)] → HXw D Z s.heap H locs (wC cy ad I A T L K F) → g_Pl_firstFailure_8 a1 P kx8 n I A x2 x3 → W p l e { frames := 3, cells := 0, slots := 0, locals := 65 } s m args below meth c H locs 0 0 Q (F0 m 8 ls []) := by
  intro n
  induction n with
  | zero => intro I A x2 x3 ls H locs hl h hw; exact hw.elim
  | succ n ih =>
    intro I A x2 x3 ls H locs hl h hw
    refine i_iload_n (n := 9) C 6 rfl rfl rfl hl 2 rfl ?_
    refine i_aload_n (n := 10) C 7 rfl rfl rfl hl 0 rfl ?_
    refine fgC_Pl_30 (n := 13) C 8 rfl rfl h ?_
    refine i_icmp_ge (tgt := 45) (n := 16) C 9 rfl rfl rfl (fun c2 => ?_) (fun c2 => ?_)
    · replace hw := hw.1 c2
      exact hx8 I A ls _ _ (lv_sub hl [] rfl) h hw
    · replace hw := hw.2 c2
      refine i_aload_n (n := 17) C 10 rfl rfl rfl hl 0 rfl ?_
      refine i_iload_n (n := 18) C 11 rfl rfl rfl hl 2 rfl ?_
      refine i_iload_n (n := 19) C 12 rfl rfl rfl hl 2 rfl ?_
      refine i_if_ne (tgt := 26) (n := 22) C 13 rfl rfl rfl (fun c3 => ?_) (fun c3 => ?_)
      · replace hw := hw.1 c3
        refine i_bipush (v := (7 : Int32)) (n := 28) C 16 rfl rfl rfl ?_
        exact e_Pl_firstFailure_28 C hret ih I A x2 x3 x3 (7 : Int32) ls _ _ hl h hw
      · replace hw := hw.2 c3
        refine i_iconst (v := (0 : Int32)) (n := 23) C 14 rfl rfl rfl ?_
        refine i_goto (tgt := 28) C 15 rfl rfl ?_
        exact e_Pl_firstFailure_28 C hret ih I A x2 x3 x3 (0 : Int32) ls _ _ hl h hw
def g_Pl_firstFailure (I : Nat → Int32) (A : Nat → Nat → Int32) (a1 : Int32) (P : Int32 → ((Nat → Int32) × (Nat → Nat → Int32)) → Prop) : Prop := g_Pl_prepare I A (fun u1 => (∃ N : Nat, g_Pl_firstFailure_8 a1 P (fun (I_6 : Nat → Int32) (A_6 : Nat → Nat → Int32) => P (-6 : Int32) (I_6, A_6)) N u1.1 u1.2 a1 (0 : Int32)))
set_option maxHeartbeats 4000000 in
set_option maxRecDepth 100000 in
theorem m_Pl_firstFailure {l : Launch} {D : va_G} {cy : Nat → ClassId} {ad : Nat → Nat} {I : Nat → Int32} {A : Nat → Nat → Int32} {T : Nat → Option Nat} {L : List Nat} {K : Nat → Nat} {F : Nat → Nat → Int32} {a1 : Int32} {P : Int32 → ((Nat → Int32) × (Nat → Nat → Int32)) → Prop} (hw : g_Pl_firstFailure I A a1 P) : ∀ sz, Met l y_Pl_firstFailure (WL y_Pl_firstFailure c_Pl_firstFailure 4 (some .int)) { frames := 3, cells := 0, slots := 0, locals := 65 } (va_Pc [.ref (ad 4), .int a1] (PreW D cy (wC cy ad I A T L K F) sz)) (va_Qi P (fun u t => PostW D (va_A (wC cy ad I A T L K F) sz) ((fun (u : (Nat → Int32) × (Nat → Nat → Int32)) => wC cy ad u.1 u.2 T L K F) u) t) (va_A (wC cy ad I A T L K F) sz)) 0 0 (va_A (wC cy ad I A T L K F) sz) := by
  refine met_i (wf := fun (u : (Nat → Int32) × (Nat → Nat → Int32)) => wC cy ad u.1 u.2 T L K F) R_Pl .int db_Pl_firstFailure (by decide) rfl rfl (Nat.le_of_ble_eq_true rfl) ?_
  intro p e s m below meth c Z Q ls C h hl hret
  have hl : lv_has ls 4 [(0, .ref (ad 4)), (1, .int a1)] := hl
  refine i_aload_n (n := 1) C 0 rfl rfl rfl hl 0 rfl ?_
  refine i_callVv (rest := []) (ci := 8) (qc := (R_Pl, T_Pl, 8)) (n := 4) C 1 rfl rfl hl h rfl (wC_get (h := 4) (by decide)) (kV_Pl_38 ⟨by decide, by decide⟩) (m_Pl_prepare hw) rfl rfl (Nat.le_of_ble_eq_true rfl) ⟨by decide, by decide⟩ (fun u1 H locs hw h => ?_)
  refine i_iload_n (n := 5) C 2 rfl rfl rfl hl 1 rfl ?_
  refine i_istore_n (lv' := [(2, .int a1), (0, .ref (ad 4)), (1, .int a1)]) (n := 6) C 3 rfl rfl rfl hl (by decide) rfl (fun ls hl => ?_)
  refine i_iconst (v := (0 : Int32)) (n := 7) C 4 rfl rfl rfl ?_
  refine i_istore_n (lv' := [(3, .int (0 : Int32)), (2, .int a1), (0, .ref (ad 4)), (1, .int a1)]) (n := 8) C 5 rfl rfl rfl hl (by decide) rfl (fun ls hl => ?_)
  obtain ⟨n6, hw⟩ := hw
  refine e_Pl_firstFailure_8 C hret (fun I_6 A_6 ls H locs hl h hw => ?_) n6 u1.1 u1.2 a1 (0 : Int32) ls _ _ (lv_sub hl [2, 1, 0] rfl) h hw
  have hl : lv_has ls 4 [] := hl
  refine i_bipush (v := (-6 : Int32)) (n := 47) C 26 rfl rfl rfl ?_
  exact hret _ (I_6, A_6) _ _ _ _ rfl hw h (C.dg (k := 27) rfl)
end S169
