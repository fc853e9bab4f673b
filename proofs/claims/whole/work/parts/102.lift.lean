theorem kI_Pw_147 {R : Room} {s : State} {args : Array Value} (hR : 3 + 1 ≤ R.frames ∧ 8 + (5 + 11) + 63 ≤ R.locals) (ht : ∀ w ∈ GW, w.before args s = true) : CallB R s args R_Pw 147 y_Li_init c_Li_init 5 none (WL y_Li_init c_Li_init 5 none) { frames := 3, cells := 0, slots := 0, locals := 63 } 0 0 4 ∧ y_Li_init.name = "<init>" ∧ (Cond.instanceMethod y_Li_init).before args s = true := cwI 4 ht (GW_in (GW_wl w_2_156)) rfl rfl rfl (ht _ w_1_10) (ht _ w_2_154) (ht _ w_2_155) rfl (by decide +kernel) hR
section S33
variable {p : Program} {l : Launch} {e : Env} {R : Room} {s : State} {m : MethodId} {args : Array Value} {below : List Frame} {meth : Method} {c : Code} {H : Heap} {locs : List Loc} {cells slots : Nat} {Q : State → Prop}
variable {cc : ByteArray} {pc n nL : Nat} {ls : Array Slot} {rest : List Value} {D : va_G} {cy : Nat → ClassId} {Z : Nat → Prop} {ad : Nat → Nat} {tb : List (Nat × Instr × Nat)} {lv : List (Nat × Value)}
set_option maxHeartbeats 4000000 in
set_option maxRecDepth 100000 in
theorem e_Pw_lift_36 {I : Nat → Int32} {A : Nat → Nat → Int32} {a1 : Int32} {a2 : Int32} {a3 : Int32} {a4 : Int32} {a5 : Int32} {P : Int32 → ((Nat → Option Nat) × (List Nat) × (Nat → Nat) × (Nat → Nat → Int32)) → Prop}  (C : CX D cy R_Pw c_Pw_lift tb_Pw_lift 8 p s m args c Z) (hret : RetI p l e { frames := 4, cells := 1, slots := 4, locals := 87 } s m args below meth c c_Pw_lift .int D Z Q (fun (u : (Nat → Option Nat) × (List Nat) × (Nat → Nat) × (Nat → Nat → Int32)) => wC cy ad I A u.1 u.2.1 u.2.2.1 u.2.2.2) P 1 4) :
    ∀ (T : Nat → Option Nat) (L : List Nat) (K : Nat → Nat) (F : Nat → Nat → Int32) (s0 : Int32) (ls : Array Slot) (H : Heap) (locs : List Loc), lv_has ls 8 [(0, .ref (ad 0)), (1, .int a1), (2, .int a2), (3, .int a3), (4, .int a4), (5, .int a5)] → HXw D Z s.heap H locs (wC cy ad I A T L K F) → g_Pw_lift_36 I a1 a2 a3 a4 a5 P  T L K F s0 → W p l e { frames := 4, cells := 1, slots := 4, locals := 87 } s m args below meth c H locs 0 0 Q (F0 m 36 ls [.int s0]) := by
  intro T L K F s0 ls H locs hl h hw
  refine i_istore (lv' := [(6, .int s0), (0, .ref (ad 0)), (1, .int a1), (2, .int a2), (3, .int a3), (4, .int a4), (5, .int a5)]) (n := 38) C 17 rfl rfl hl (by decide) rfl (fun ls hl => ?_)
  refine i_aload_n (n := 39) C 18 rfl rfl rfl hl 1 rfl ?_
  refine i_iload_n (n := 40) C 19 rfl rfl rfl hl 2 rfl ?_
  refine i_iload (n := 42) C 20 rfl rfl hl 0 rfl ?_
  refine i_callVp (rest := []) (ci := 10) (qc := (R_Pw, T_Pw, 16)) (n := 45) C 21 rfl rfl hl h rfl (wC_get (h := 0) (by decide)) (kV_Pw_132 ⟨by decide, by decide⟩) (m_Pw_refusalToHang hw) rfl rfl (Nat.le_of_ble_eq_true rfl) ⟨by decide, by decide⟩ (fun r3 hw => ?_)
  refine i_istore (lv' := [(7, .int r3), (6, .int s0), (0, .ref (ad 0)), (1, .int a1), (2, .int a2), (3, .int a3), (4, .int a4), (5, .int a5)]) (n := 47) C 22 rfl rfl hl (by decide) rfl (fun ls hl => ?_)
  refine i_iload (n := 49) C 23 rfl rfl hl 0 rfl ?_
  refine i_if_ge (tgt := 57) (n := 52) C 24 rfl rfl rfl (fun c4 => ?_) (fun c4 => ?_)
  · replace hw := hw.1 c4
    refine i_aload_n (n := 58) C 27 rfl rfl rfl hl 2 rfl ?_
    refine fgC_Pw_10 (n := 61) C 28 rfl rfl h ?_
    refine i_iload_n (n := 62) C 29 rfl rfl rfl hl 3 rfl ?_
    refine nw_Pw_145 (n := 65) C 30 rfl rfl h (by decide) (by decide) (fun q5 hfr8 H h => ?_)
    replace hw := hw q5 hfr8
    have hq6 : q5 ∈ L ++ [q5] := List.mem_append_right _ List.mem_cons_self
    have hk7 : (va_up K q5 4) q5 = 4 := if_pos rfl
    refine i_dup (n := 66) C 31 rfl rfl rfl ?_
    refine i_iload_n (n := 67) C 32 rfl rfl rfl hl 4 rfl ?_
    refine i_iload_n (n := 68) C 33 rfl rfl rfl hl 5 rfl ?_
    refine i_iload (n := 70) C 34 rfl rfl hl 6 rfl ?_
    refine i_iload (n := 72) C 35 rfl rfl hl 7 rfl ?_
    refine i_callIv (rest := [.ref q5, .int a1, .ref (ad 1)]) (n := 75) C 36 rfl rfl hl h (kI_Pw_147 ⟨by decide, by decide⟩) (m_Li_init_Li hq6 hk7 hw) rfl rfl (Nat.le_of_ble_eq_true rfl) ⟨by decide, by decide⟩ (fun u9 H locs hw h => ?_)
    refine i_callVi (rest := []) (ci := 5) (qc := (R_Ne, T_Ne, 17)) (n := 78) C 37 rfl rfl hl h rfl (wC_get (h := 1) (by decide)) (kV_Pw_141 ⟨by decide, by decide⟩) (m_Ne_hang hw) rfl rfl (Nat.le_of_ble_eq_true rfl) ⟨by decide, by decide⟩ (fun r10 u11 H locs hw h => ?_)
    exact hret _ (u11, L ++ [q5], va_up K q5 4, u9) _ _ _ _ rfl hw h (C.dg (k := 38) rfl)
  · replace hw := hw.2 c4
    refine i_iload (n := 54) C 25 rfl rfl hl 0 rfl ?_
    refine i_goto (tgt := 78) C 26 rfl rfl ?_
    refine W.widen (k := 1) (n := 4) (by decide) (by decide) ?_
    exact hret _ (T, L, K, F) _ _ _ _ rfl hw h (C.dg (k := 38) rfl)
set_option maxHeartbeats 4000000 in
set_option maxRecDepth 100000 in
theorem e_Pw_lift_35 {I : Nat → Int32} {A : Nat → Nat → Int32} {a1 : Int32} {a2 : Int32} {a3 : Int32} {a4 : Int32} {a5 : Int32} {P : Int32 → ((Nat → Option Nat) × (List Nat) × (Nat → Nat) × (Nat → Nat → Int32)) → Prop}  (C : CX D cy R_Pw c_Pw_lift tb_Pw_lift 8 p s m args c Z) (hret : RetI p l e { frames := 4, cells := 1, slots := 4, locals := 87 } s m args below meth c c_Pw_lift .int D Z Q (fun (u : (Nat → Option Nat) × (List Nat) × (Nat → Nat) × (Nat → Nat → Int32)) => wC cy ad I A u.1 u.2.1 u.2.2.1 u.2.2.2) P 1 4) :
    ∀ (T : Nat → Option Nat) (L : List Nat) (K : Nat → Nat) (F : Nat → Nat → Int32) (ls : Array Slot) (H : Heap) (locs : List Loc), lv_has ls 8 [(0, .ref (ad 0)), (1, .int a1), (2, .int a2), (3, .int a3), (4, .int a4), (5, .int a5)] → HXw D Z s.heap H locs (wC cy ad I A T L K F) → g_Pw_lift_35 I a1 a2 a3 a4 a5 P  T L K F → W p l e { frames := 4, cells := 1, slots := 4, locals := 87 } s m args below meth c H locs 0 0 Q (F0 m 35 ls []) := by
  intro T L K F ls H locs hl h hw
  refine i_iconst (v := (0 : Int32)) (n := 36) C 16 rfl rfl rfl ?_
  exact e_Pw_lift_36 C hret  T L K F (0 : Int32) ls _ _ hl h hw
set_option maxHeartbeats 4000000 in
set_option maxRecDepth 100000 in
theorem m_Pw_lift {l : Launch} {D : va_G} {cy : Nat → ClassId} {ad : Nat → Nat} {I : Nat → Int32} {A : Nat → Nat → Int32} {T : Nat → Option Nat} {L : List Nat} {K : Nat → Nat} {F : Nat → Nat → Int32} {a1 : Int32} {a2 : Int32} {a3 : Int32} {a4 : Int32} {a5 : Int32} {P : Int32 → ((Nat → Option Nat) × (List Nat) × (Nat → Nat) × (Nat → Nat → Int32)) → Prop} (hw : g_Pw_lift I T L K F a1 a2 a3 a4 a5 P) : ∀ sz, Met l y_Pw_lift (WL y_Pw_lift c_Pw_lift 8 (some .int)) { frames := 4, cells := 1, slots := 4, locals := 87 } (va_Pc [.ref (ad 0), .int a1, .int a2, .int a3, .int a4, .int a5] (PreW D cy (wC cy ad I A T L K F) sz)) (va_Qi P (fun u t => PostW D (va_A (wC cy ad I A T L K F) sz) ((fun (u : (Nat → Option Nat) × (List Nat) × (Nat → Nat) × (Nat → Nat → Int32)) => wC cy ad I A u.1 u.2.1 u.2.2.1 u.2.2.2) u) t) (va_A (wC cy ad I A T L K F) sz)) 1 4 (va_A (wC cy ad I A T L K F) sz) := by
  refine met_i (wf := fun (u : (Nat → Option Nat) × (List Nat) × (Nat → Nat) × (Nat → Nat → Int32)) => wC cy ad I A u.1 u.2.1 u.2.2.1 u.2.2.2) R_Pw .int db_Pw_lift (by decide) rfl rfl (Nat.le_of_ble_eq_true rfl) ?_
  intro p e s m below meth c Z Q ls C h hl hret
  have hl : lv_has ls 8 [(0, .ref (ad 0)), (1, .int a1), (2, .int a2), (3, .int a3), (4, .int a4), (5, .int a5)] := hl
  refine i_iload_n (n := 1) C 0 rfl rfl rfl hl 2 rfl ?_
  refine i_iconst (v := (0 : Int32)) (n := 2) C 1 rfl rfl rfl ?_
  refine i_sipush (v := (1000 : Int32)) (n := 5) C 2 rfl rfl rfl ?_
  refine i_callSp (rest := []) (n := 8) C 3 rfl rfl hl h (kS_Pw_69 ⟨by decide, by decide⟩) (m_Pw_isWithin hw) rfl rfl (Nat.le_of_ble_eq_true rfl) ⟨by decide, by decide⟩ (fun r1 hw => ?_)
  refine i_if_eq (tgt := 35) (n := 11) C 4 rfl rfl rfl (fun c2 => ?_) (fun c2 => ?_)
  · replace hw := hw.1 c2
    exact e_Pw_lift_35 C hret  T L K F ls _ _ hl h hw
  · replace hw := hw.2 c2
    refine i_iload_n (n := 12) C 5 rfl rfl rfl hl 3 rfl ?_
    refine i_iconst (v := (0 : Int32)) (n := 13) C 6 rfl rfl rfl ?_
    refine i_bipush (v := (6 : Int32)) (n := 15) C 7 rfl rfl rfl ?_
    refine i_callSp (rest := []) (n := 18) C 8 rfl rfl hl h (kS_Pw_69 ⟨by decide, by decide⟩) (m_Pw_isWithin hw) rfl rfl (Nat.le_of_ble_eq_true rfl) ⟨by decide, by decide⟩ (fun r12 hw => ?_)
    refine i_if_eq (tgt := 35) (n := 21) C 9 rfl rfl rfl (fun c13 => ?_) (fun c13 => ?_)
    · replace hw := hw.1 c13
      exact e_Pw_lift_35 C hret  T L K F ls _ _ hl h hw
    · replace hw := hw.2 c13
      refine i_iload (n := 23) C 10 rfl rfl hl 4 rfl ?_
      refine i_iload (n := 25) C 11 rfl rfl hl 5 rfl ?_
      refine i_callSp (rest := []) (n := 28) C 12 rfl rfl hl h (kS_Pw_128 ⟨by decide, by decide⟩) (m_Pw_areHours hw) rfl rfl (Nat.le_of_ble_eq_true rfl) ⟨by decide, by decide⟩ (fun r14 hw => ?_)
      refine i_if_eq (tgt := 35) (n := 31) C 13 rfl rfl rfl (fun c15 => ?_) (fun c15 => ?_)
      · replace hw := hw.1 c15
        exact e_Pw_lift_35 C hret  T L K F ls _ _ hl h hw
      · replace hw := hw.2 c15
        refine i_iconst (v := (1 : Int32)) (n := 32) C 14 rfl rfl rfl ?_
        refine i_goto (tgt := 36) C 15 rfl rfl ?_
        exact e_Pw_lift_36 C hret  T L K F (1 : Int32) ls _ _ hl h hw
end S33
section S34
variable {p : Program} {l : Launch} {e : Env} {R : Room} {s : State} {m : MethodId} {args : Array Value} {below : List Frame} {meth : Method} {c : Code} {H : Heap} {locs : List Loc} {cells slots : Nat} {Q : State → Prop}
variable {cc : ByteArray} {pc n nL : Nat} {ls : Array Slot} {rest : List Value} {D : va_G} {cy : Nat → ClassId} {Z : Nat → Prop} {ad : Nat → Nat} {tb : List (Nat × Instr × Nat)} {lv : List (Nat × Value)}
set_option maxHeartbeats 4000000 in
set_option maxRecDepth 100000 in
theorem m_Dr_init_Br {l : Launch} {D : va_G} {cy : Nat → ClassId} {ad : Nat → Nat} {I : Nat → Int32} {A : Nat → Nat → Int32} {T : Nat → Option Nat} {L : List Nat} {K : Nat → Nat} {F : Nat → Nat → Int32} {b : Nat} {a1 : Int32} {a2 : Int32} {a3 : Int32} {P : ((Nat → Nat → Int32)) → Prop} (hbq : b ∈ L) (hbk : K b = 0) (hw : g_Dr_init_Br F b a1 a2 a3 P) : ∀ sz, Met l y_Dr_init (WL y_Dr_init c_Dr_init 4 none) { frames := 2, cells := 0, slots := 0, locals := 40 } (va_Pc [.ref b, .int a1, .int a2, .int a3] (PreW D cy (wC cy ad I A T L K F) sz)) (va_Qv P (fun u t => PostW D (va_A (wC cy ad I A T L K F) sz) ((fun (u : (Nat → Nat → Int32)) => wC cy ad I A T L K u) u) t) (va_A (wC cy ad I A T L K F) sz)) 0 0 (va_A (wC cy ad I A T L K F) sz) := by
  refine met_v (wf := fun (u : (Nat → Nat → Int32)) => wC cy ad I A T L K u) R_Dr db_Dr_init (by decide) rfl (Nat.le_of_ble_eq_true rfl) ?_
  intro p e s m below meth c Z Q ls hin C h hl hret
  have hl : lv_has ls 4 [(0, .ref b), (1, .int a1), (2, .int a2), (3, .int a3)] := hl
  refine i_aload_n (n := 1) C 0 rfl rfl rfl hl 0 rfl ?_
  refine i_callINv (rest := []) (n := 4) C 1 rfl rfl hl h (kIN_Dr_3 ⟨by decide, by decide⟩) (m_Th_init hw) rfl rfl (Nat.le_of_ble_eq_true rfl) ⟨by decide, by decide⟩ (fun u1 H locs hw h => ?_)
  refine i_aload_n (n := 5) C 2 rfl rfl rfl hl 0 rfl ?_
  refine i_iload_n (n := 6) C 3 rfl rfl rfl hl 1 rfl ?_
  refine tp_Dr_9_Br (n := 9) C 4 rfl rfl h hbq hbk hin (fun H locs h => ?_)
  refine i_aload_n (n := 10) C 5 rfl rfl rfl hl 0 rfl ?_
  refine i_iload_n (n := 11) C 6 rfl rfl rfl hl 2 rfl ?_
  refine tp_Dr_15_Br (n := 14) C 7 rfl rfl h hbq hbk hin (fun H locs h => ?_)
  refine i_aload_n (n := 15) C 8 rfl rfl rfl hl 0 rfl ?_
  refine i_iload_n (n := 16) C 9 rfl rfl rfl hl 3 rfl ?_
  refine tp_Dr_18_Br (n := 19) C 10 rfl rfl h hbq hbk hin (fun H locs h => ?_)
  exact hret (sF (sF (sF F b 0 a1) b 1 a2) b 2 a3) _ _ _ _ hw h (C.dg (k := 11) rfl)
end S34
theorem kI_Br_3 {R : Room} {s : State} {args : Array Value} (hR : 2 + 1 ≤ R.frames ∧ 8 + (4 + 11) + 40 ≤ R.locals) (ht : ∀ w ∈ GW, w.before args s = true) : CallB R s args R_Br 3 y_Dr_init c_Dr_init 4 none (WL y_Dr_init c_Dr_init 4 none) { frames := 2, cells := 0, slots := 0, locals := 40 } 0 0 3 ∧ y_Dr_init.name = "<init>" ∧ (Cond.instanceMethod y_Dr_init).before args s = true := cwI 3 ht (GW_in (GW_wl w_2_125)) rfl rfl rfl (ht _ w_1_9) (ht _ w_2_174) (ht _ w_2_124) rfl (by decide +kernel) hR
section S35
variable {p : Program} {l : Launch} {e : Env} {R : Room} {s : State} {m : MethodId} {args : Array Value} {below : List Frame} {meth : Method} {c : Code} {H : Heap} {locs : List Loc} {cells slots : Nat} {Q : State → Prop}
variable {cc : ByteArray} {pc n nL : Nat} {ls : Array Slot} {rest : List Value} {D : va_G} {cy : Nat → ClassId} {Z : Nat → Prop} {ad : Nat → Nat} {tb : List (Nat × Instr × Nat)} {lv : List (Nat × Value)}
set_option maxHeartbeats 4000000 in
set_option maxRecDepth 100000 in
theorem m_Br_init_Br {l : Launch} {D : va_G} {cy : Nat → ClassId} {ad : Nat → Nat} {I : Nat → Int32} {A : Nat → Nat → Int32} {T : Nat → Option Nat} {L : List Nat} {K : Nat → Nat} {F : Nat → Nat → Int32} {b : Nat} {a1 : Int32} {a2 : Int32} {a3 : Int32} {a4 : Int32} {P : ((Nat → Nat → Int32)) → Prop} (hbq : b ∈ L) (hbk : K b = 0) (hw : g_Br_init_Br F b a1 a2 a3 a4 P) : ∀ sz, Met l y_Br_init (WL y_Br_init c_Br_init 5 none) { frames := 3, cells := 0, slots := 0, locals := 63 } (va_Pc [.ref b, .int a1, .int a2, .int a3, .int a4] (PreW D cy (wC cy ad I A T L K F) sz)) (va_Qv P (fun u t => PostW D (va_A (wC cy ad I A T L K F) sz) ((fun (u : (Nat → Nat → Int32)) => wC cy ad I A T L K u) u) t) (va_A (wC cy ad I A T L K F) sz)) 0 0 (va_A (wC cy ad I A T L K F) sz) := by
  refine met_v (wf := fun (u : (Nat → Nat → Int32)) => wC cy ad I A T L K u) R_Br db_Br_init (by decide) rfl (Nat.le_of_ble_eq_true rfl) ?_
  intro p e s m below meth c Z Q ls hin C h hl hret
  have hl : lv_has ls 5 [(0, .ref b), (1, .int a1), (2, .int a2), (3, .int a3), (4, .int a4)] := hl
  refine i_aload_n (n := 1) C 0 rfl rfl rfl hl 0 rfl ?_
  refine i_iload_n (n := 2) C 1 rfl rfl rfl hl 1 rfl ?_
  refine i_iconst (v := (0 : Int32)) (n := 3) C 2 rfl rfl rfl ?_
  refine i_sipush (v := (1440 : Int32)) (n := 6) C 3 rfl rfl rfl ?_
  refine i_callIv (rest := []) (n := 9) C 4 rfl rfl hl h (kI_Br_3 ⟨by decide, by decide⟩) (m_Dr_init_Br hbq hbk hw) rfl rfl (Nat.le_of_ble_eq_true rfl) ⟨by decide, by decide⟩ (fun u1 H locs hw h => ?_)
  refine i_aload_n (n := 10) C 5 rfl rfl rfl hl 0 rfl ?_
  refine i_iload_n (n := 11) C 6 rfl rfl rfl hl 2 rfl ?_
  refine tp_Br_9_Br (n := 14) C 7 rfl rfl h hbq hbk hin (fun H locs h => ?_)
  refine i_aload_n (n := 15) C 8 rfl rfl rfl hl 0 rfl ?_
  refine i_iload_n (n := 16) C 9 rfl rfl rfl hl 3 rfl ?_
  refine tp_Br_15_Br (n := 19) C 10 rfl rfl h hbq hbk hin (fun H locs h => ?_)
  refine i_aload_n (n := 20) C 11 rfl rfl rfl hl 0 rfl ?_
  refine i_iload (n := 22) C 12 rfl rfl hl 4 rfl ?_
  refine tp_Br_18_Br (n := 25) C 13 rfl rfl h hbq hbk hin (fun H locs h => ?_)
  exact hret (sF (sF (sF u1 b 3 a2) b 4 a3) b 5 a4) _ _ _ _ hw h (C.dg (k := 14) rfl)
end S35
theorem kI_Pw_152 {R : Room} {s : State} {args : Array Value} (hR : 3 + 1 ≤ R.frames ∧ 8 + (5 + 11) + 63 ≤ R.locals) (ht : ∀ w ∈ GW, w.before args s = true) : CallB R s args R_Pw 152 y_Br_init c_Br_init 5 none (WL y_Br_init c_Br_init 5 none) { frames := 3, cells := 0, slots := 0, locals := 63 } 0 0 4 ∧ y_Br_init.name = "<init>" ∧ (Cond.instanceMethod y_Br_init).before args s = true := cwI 4 ht (GW_in (GW_wl w_2_173)) rfl rfl rfl (ht _ w_1_11) (ht _ w_2_171) (ht _ w_2_172) rfl (by decide +kernel) hR
section S36
variable {p : Program} {l : Launch} {e : Env} {R : Room} {s : State} {m : MethodId} {args : Array Value} {below : List Frame} {meth : Method} {c : Code} {H : Heap} {locs : List Loc} {cells slots : Nat} {Q : State → Prop}
variable {cc : ByteArray} {pc n nL : Nat} {ls : Array Slot} {rest : List Value} {D : va_G} {cy : Nat → ClassId} {Z : Nat → Prop} {ad : Nat → Nat} {tb : List (Nat × Instr × Nat)} {lv : List (Nat × Value)}
set_option maxHeartbeats 4000000 in
set_option maxRecDepth 100000 in
theorem e_Pw_bridge_51 {I : Nat → Int32} {A : Nat → Nat → Int32} {a1 : Int32} {a2 : Int32} {a3 : Int32} {a4 : Int32} {a5 : Int32} {P : Int32 → ((Nat → Option Nat) × (List Nat) × (Nat → Nat) × (Nat → Nat → Int32)) → Prop}  (C : CX D cy R_Pw c_Pw_bridge tb_Pw_bridge 8 p s m args c Z) (hret : RetI p l e { frames := 4, cells := 1, slots := 6, locals := 87 } s m args below meth c c_Pw_bridge .int D Z Q (fun (u : (Nat → Option Nat) × (List Nat) × (Nat → Nat) × (Nat → Nat → Int32)) => wC cy ad I A u.1 u.2.1 u.2.2.1 u.2.2.2) P 1 6) :
    ∀ (T : Nat → Option Nat) (L : List Nat) (K : Nat → Nat) (F : Nat → Nat → Int32) (s0 : Int32) (ls : Array Slot) (H : Heap) (locs : List Loc), lv_has ls 8 [(0, .ref (ad 0)), (1, .int a1), (2, .int a2), (3, .int a3), (4, .int a4), (5, .int a5)] → HXw D Z s.heap H locs (wC cy ad I A T L K F) → g_Pw_bridge_51 I a1 a2 a3 a4 a5 P  T L K F s0 → W p l e { frames := 4, cells := 1, slots := 6, locals := 87 } s m args below meth c H locs 0 0 Q (F0 m 51 ls [.int s0]) := by
  intro T L K F s0 ls H locs hl h hw
  refine i_istore (lv' := [(6, .int s0), (0, .ref (ad 0)), (1, .int a1), (2, .int a2), (3, .int a3), (4, .int a4), (5, .int a5)]) (n := 53) C 23 rfl rfl hl (by decide) rfl (fun ls hl => ?_)
  refine i_aload_n (n := 54) C 24 rfl rfl rfl hl 1 rfl ?_
  refine i_iload_n (n := 55) C 25 rfl rfl rfl hl 2 rfl ?_
  refine i_iload (n := 57) C 26 rfl rfl hl 0 rfl ?_
  refine i_callVp (rest := []) (ci := 10) (qc := (R_Pw, T_Pw, 16)) (n := 60) C 27 rfl rfl hl h rfl (wC_get (h := 0) (by decide)) (kV_Pw_132 ⟨by decide, by decide⟩) (m_Pw_refusalToHang hw) rfl rfl (Nat.le_of_ble_eq_true rfl) ⟨by decide, by decide⟩ (fun r3 hw => ?_)
  refine i_istore (lv' := [(7, .int r3), (6, .int s0), (0, .ref (ad 0)), (1, .int a1), (2, .int a2), (3, .int a3), (4, .int a4), (5, .int a5)]) (n := 62) C 28 rfl rfl hl (by decide) rfl (fun ls hl => ?_)
  refine i_iload (n := 64) C 29 rfl rfl hl 0 rfl ?_
  refine i_if_ge (tgt := 72) (n := 67) C 30 rfl rfl rfl (fun c4 => ?_) (fun c4 => ?_)
  · replace hw := hw.1 c4
    refine i_aload_n (n := 73) C 33 rfl rfl rfl hl 2 rfl ?_
    refine fgC_Pw_10 (n := 76) C 34 rfl rfl h ?_
    refine i_iload_n (n := 77) C 35 rfl rfl rfl hl 3 rfl ?_
    refine nw_Pw_150 (n := 80) C 36 rfl rfl h (by decide) (by decide) (fun q5 hfr8 H h => ?_)
    replace hw := hw q5 hfr8
    have hq6 : q5 ∈ L ++ [q5] := List.mem_append_right _ List.mem_cons_self
    have hk7 : (va_up K q5 0) q5 = 0 := if_pos rfl
    refine i_dup (n := 81) C 37 rfl rfl rfl ?_
    refine i_iload_n (n := 82) C 38 rfl rfl rfl hl 4 rfl ?_
    refine i_iload_n (n := 83) C 39 rfl rfl rfl hl 5 rfl ?_
    refine i_iload (n := 85) C 40 rfl rfl hl 6 rfl ?_
    refine i_iload (n := 87) C 41 rfl rfl hl 7 rfl ?_
    refine i_callIv (rest := [.ref q5, .int a1, .ref (ad 1)]) (n := 90) C 42 rfl rfl hl h (kI_Pw_152 ⟨by decide, by decide⟩) (m_Br_init_Br hq6 hk7 hw) rfl rfl (Nat.le_of_ble_eq_true rfl) ⟨by decide, by decide⟩ (fun u9 H locs hw h => ?_)
    refine i_callVi (rest := []) (ci := 5) (qc := (R_Ne, T_Ne, 17)) (n := 93) C 43 rfl rfl hl h rfl (wC_get (h := 1) (by decide)) (kV_Pw_141 ⟨by decide, by decide⟩) (m_Ne_hang hw) rfl rfl (Nat.le_of_ble_eq_true rfl) ⟨by decide, by decide⟩ (fun r10 u11 H locs hw h => ?_)
    exact hret _ (u11, L ++ [q5], va_up K q5 0, u9) _ _ _ _ rfl hw h (C.dg (k := 44) rfl)
  · replace hw := hw.2 c4
    refine i_iload (n := 69) C 31 rfl rfl hl 0 rfl ?_
    refine i_goto (tgt := 93) C 32 rfl rfl ?_
    refine W.widen (k := 1) (n := 6) (by decide) (by decide) ?_
    exact hret _ (T, L, K, F) _ _ _ _ rfl hw h (C.dg (k := 44) rfl)
set_option maxHeartbeats 4000000 in
set_option maxRecDepth 100000 in
theorem e_Pw_bridge_50 {I : Nat → Int32} {A : Nat → Nat → Int32} {a1 : Int32} {a2 : Int32} {a3 : Int32} {a4 : Int32} {a5 : Int32} {P : Int32 → ((Nat → Option Nat) × (List Nat) × (Nat → Nat) × (Nat → Nat → Int32)) → Prop}  (C : CX D cy R_Pw c_Pw_bridge tb_Pw_bridge 8 p s m args c Z) (hret : RetI p l e { frames := 4, cells := 1, slots := 6, locals := 87 } s m args below meth c c_Pw_bridge .int D Z Q (fun (u : (Nat → Option Nat) × (List Nat) × (Nat → Nat) × (Nat → Nat → Int32)) => wC cy ad I A u.1 u.2.1 u.2.2.1 u.2.2.2) P 1 6) :
    ∀ (T : Nat → Option Nat) (L : List Nat) (K : Nat → Nat) (F : Nat → Nat → Int32) (ls : Array Slot) (H : Heap) (locs : List Loc), lv_has ls 8 [(0, .ref (ad 0)), (1, .int a1), (2, .int a2), (3, .int a3), (4, .int a4), (5, .int a5)] → HXw D Z s.heap H locs (wC cy ad I A T L K F) → g_Pw_bridge_50 I a1 a2 a3 a4 a5 P  T L K F → W p l e { frames := 4, cells := 1, slots := 6, locals := 87 } s m args below meth c H locs 0 0 Q (F0 m 50 ls []) := by
  intro T L K F ls H locs hl h hw
  refine i_iconst (v := (0 : Int32)) (n := 51) C 22 rfl rfl rfl ?_
  exact e_Pw_bridge_51 C hret  T L K F (0 : Int32) ls _ _ hl h hw
set_option maxHeartbeats 4000000 in
set_option maxRecDepth 100000 in
theorem m_Pw_bridge {l : Launch} {D : va_G} {cy : Nat → ClassId} {ad : Nat → Nat} {I : Nat → Int32} {A : Nat → Nat → Int32} {T : Nat → Option Nat} {L : List Nat} {K : Nat → Nat} {F : Nat → Nat → Int32} {a1 : Int32} {a2 : Int32} {a3 : Int32} {a4 : Int32} {a5 : Int32} {P : Int32 → ((Nat → Option Nat) × (List Nat) × (Nat → Nat) × (Nat → Nat → Int32)) → Prop} (hw : g_Pw_bridge I T L K F a1 a2 a3 a4 a5 P) : ∀ sz, Met l y_Pw_bridge (WL y_Pw_bridge c_Pw_bridge 8 (some .int)) { frames := 4, cells := 1, slots := 6, locals := 87 } (va_Pc [.ref (ad 0), .int a1, .int a2, .int a3, .int a4, .int a5] (PreW D cy (wC cy ad I A T L K F) sz)) (va_Qi P (fun u t => PostW D (va_A (wC cy ad I A T L K F) sz) ((fun (u : (Nat → Option Nat) × (List Nat) × (Nat → Nat) × (Nat → Nat → Int32)) => wC cy ad I A u.1 u.2.1 u.2.2.1 u.2.2.2) u) t) (va_A (wC cy ad I A T L K F) sz)) 1 6 (va_A (wC cy ad I A T L K F) sz) := by
  refine met_i (wf := fun (u : (Nat → Option Nat) × (List Nat) × (Nat → Nat) × (Nat → Nat → Int32)) => wC cy ad I A u.1 u.2.1 u.2.2.1 u.2.2.2) R_Pw .int db_Pw_bridge (by decide) rfl rfl (Nat.le_of_ble_eq_true rfl) ?_
  intro p e s m below meth c Z Q ls C h hl hret
  have hl : lv_has ls 8 [(0, .ref (ad 0)), (1, .int a1), (2, .int a2), (3, .int a3), (4, .int a4), (5, .int a5)] := hl
  refine i_iload_n (n := 1) C 0 rfl rfl rfl hl 2 rfl ?_
  refine i_iconst (v := (0 : Int32)) (n := 2) C 1 rfl rfl rfl ?_
  refine i_sipush (v := (1000 : Int32)) (n := 5) C 2 rfl rfl rfl ?_
  refine i_callSp (rest := []) (n := 8) C 3 rfl rfl hl h (kS_Pw_69 ⟨by decide, by decide⟩) (m_Pw_isWithin hw) rfl rfl (Nat.le_of_ble_eq_true rfl) ⟨by decide, by decide⟩ (fun r1 hw => ?_)
  refine i_if_eq (tgt := 50) (n := 11) C 4 rfl rfl rfl (fun c2 => ?_) (fun c2 => ?_)
  · replace hw := hw.1 c2
    exact e_Pw_bridge_50 C hret  T L K F ls _ _ hl h hw
  · replace hw := hw.2 c2
    refine i_iload_n (n := 12) C 5 rfl rfl rfl hl 3 rfl ?_
    refine i_iconst (v := (1 : Int32)) (n := 13) C 6 rfl rfl rfl ?_
    refine i_sipush (v := (720 : Int32)) (n := 16) C 7 rfl rfl rfl ?_
    refine i_callSp (rest := []) (n := 19) C 8 rfl rfl hl h (kS_Pw_69 ⟨by decide, by decide⟩) (m_Pw_isWithin hw) rfl rfl (Nat.le_of_ble_eq_true rfl) ⟨by decide, by decide⟩ (fun r12 hw => ?_)
    refine i_if_eq (tgt := 50) (n := 22) C 9 rfl rfl rfl (fun c13 => ?_) (fun c13 => ?_)
    · replace hw := hw.1 c13
      exact e_Pw_bridge_50 C hret  T L K F ls _ _ hl h hw
    · replace hw := hw.2 c13
      refine i_iload (n := 24) C 10 rfl rfl hl 4 rfl ?_
      refine i_iconst (v := (0 : Int32)) (n := 25) C 11 rfl rfl rfl ?_
      refine i_sipush (v := (720 : Int32)) (n := 28) C 12 rfl rfl rfl ?_
      refine i_callSp (rest := []) (n := 31) C 13 rfl rfl hl h (kS_Pw_69 ⟨by decide, by decide⟩) (m_Pw_isWithin hw) rfl rfl (Nat.le_of_ble_eq_true rfl) ⟨by decide, by decide⟩ (fun r14 hw => ?_)
      refine i_if_eq (tgt := 50) (n := 34) C 14 rfl rfl rfl (fun c15 => ?_) (fun c15 => ?_)
      · replace hw := hw.1 c15
        exact e_Pw_bridge_50 C hret  T L K F ls _ _ hl h hw
      · replace hw := hw.2 c15
        refine i_iload (n := 36) C 15 rfl rfl hl 5 rfl ?_
        refine i_iconst (v := (0 : Int32)) (n := 37) C 16 rfl rfl rfl ?_
        refine i_sipush (v := (720 : Int32)) (n := 40) C 17 rfl rfl rfl ?_
        refine i_callSp (rest := []) (n := 43) C 18 rfl rfl hl h (kS_Pw_69 ⟨by decide, by decide⟩) (m_Pw_isWithin hw) rfl rfl (Nat.le_of_ble_eq_true rfl) ⟨by decide, by decide⟩ (fun r16 hw => ?_)
        refine i_if_eq (tgt := 50) (n := 46) C 19 rfl rfl rfl (fun c17 => ?_) (fun c17 => ?_)
        · replace hw := hw.1 c17
          exact e_Pw_bridge_50 C hret  T L K F ls _ _ hl h hw
        · replace hw := hw.2 c17
          refine i_iconst (v := (1 : Int32)) (n := 47) C 20 rfl rfl rfl ?_
          refine i_goto (tgt := 51) C 21 rfl rfl ?_
          exact e_Pw_bridge_51 C hret  T L K F (1 : Int32) ls _ _ hl h hw
end S36
theorem kIN_To_1 {R : Room} {s : State} {args : Array Value} (hR : 1 + 1 ≤ R.frames ∧ 8 + (1 + 11) + 20 ≤ R.locals) (ht : ∀ w ∈ GW, w.before args s = true) (hN : NX s) : va_CN R s args R_To 1 y_Th_init R_Pw c_Th_init 1 none (WL y_Th_init c_Th_init 1 none) { frames := 1, cells := 0, slots := 0, locals := 20 } 0 0 0 ∧ y_Th_init.name = "<init>" ∧ (Cond.instanceMethod y_Th_init).before args s = true := ⟨va_cnB 0 ht (GW_in (GW_wl w_2_128)) rfl rfl rfl (hN.1 _ (by simp [nxW])) (ht _ w_1_8) (by decide +kernel) hR, rfl, ht _ w_2_127⟩
section S37
variable {p : Program} {l : Launch} {e : Env} {R : Room} {s : State} {m : MethodId} {args : Array Value} {below : List Frame} {meth : Method} {c : Code} {H : Heap} {locs : List Loc} {cells slots : Nat} {Q : State → Prop}
variable {cc : ByteArray} {pc n nL : Nat} {ls : Array Slot} {rest : List Value} {D : va_G} {cy : Nat → ClassId} {Z : Nat → Prop} {ad : Nat → Nat} {tb : List (Nat × Instr × Nat)} {lv : List (Nat × Value)}
set_option maxHeartbeats 4000000 in
set_option maxRecDepth 100000 in
theorem m_To_init_To {l : Launch} {D : va_G} {cy : Nat → ClassId} {ad : Nat → Nat} {I : Nat → Int32} {A : Nat → Nat → Int32} {T : Nat → Option Nat} {L : List Nat} {K : Nat → Nat} {F : Nat → Nat → Int32} {b : Nat} {a1 : Int32} {a2 : Int32} {a3 : Int32} {P : ((Nat → Nat → Int32)) → Prop} (hbq : b ∈ L) (hbk : K b = 9) (hw : g_To_init_To F b a1 a2 a3 P) : ∀ sz, Met l y_To_init (WL y_To_init c_To_init 4 none) { frames := 2, cells := 0, slots := 0, locals := 40 } (va_Pc [.ref b, .int a1, .int a2, .int a3] (PreW D cy (wC cy ad I A T L K F) sz)) (va_Qv P (fun u t => PostW D (va_A (wC cy ad I A T L K F) sz) ((fun (u : (Nat → Nat → Int32)) => wC cy ad I A T L K u) u) t) (va_A (wC cy ad I A T L K F) sz)) 0 0 (va_A (wC cy ad I A T L K F) sz) := by
  refine met_v (wf := fun (u : (Nat → Nat → Int32)) => wC cy ad I A T L K u) R_To db_To_init (by decide) rfl (Nat.le_of_ble_eq_true rfl) ?_
  intro p e s m below meth c Z Q ls hin C h hl hret
  have hl : lv_has ls 4 [(0, .ref b), (1, .int a1), (2, .int a2), (3, .int a3)] := hl
  refine i_aload_n (n := 1) C 0 rfl rfl rfl hl 0 rfl ?_
  refine i_callINv (rest := []) (n := 4) C 1 rfl rfl hl h (kIN_To_1 ⟨by decide, by decide⟩) (m_Th_init hw) rfl rfl (Nat.le_of_ble_eq_true rfl) ⟨by decide, by decide⟩ (fun u1 H locs hw h => ?_)
  refine i_aload_n (n := 5) C 2 rfl rfl rfl hl 0 rfl ?_
  refine i_iload_n (n := 6) C 3 rfl rfl rfl hl 1 rfl ?_
  refine tp_To_7_To (n := 9) C 4 rfl rfl h hbq hbk hin (fun H locs h => ?_)
  refine i_aload_n (n := 10) C 5 rfl rfl rfl hl 0 rfl ?_
  refine i_iload_n (n := 11) C 6 rfl rfl rfl hl 2 rfl ?_
  refine tp_To_13_To (n := 14) C 7 rfl rfl h hbq hbk hin (fun H locs h => ?_)
  refine i_aload_n (n := 15) C 8 rfl rfl rfl hl 0 rfl ?_
  refine i_iload_n (n := 16) C 9 rfl rfl rfl hl 3 rfl ?_
  refine tp_To_16_To (n := 19) C 10 rfl rfl h hbq hbk (fun H locs h => ?_)
  exact hret (sF (sF (sF F b 0 a1) b 1 a2) b 2 a3) _ _ _ _ hw h (C.dg (k := 11) rfl)
end S37
theorem kI_Pw_156 {R : Room} {s : State} {args : Array Value} (hR : 2 + 1 ≤ R.frames ∧ 8 + (4 + 11) + 40 ≤ R.locals) (ht : ∀ w ∈ GW, w.before args s = true) : CallB R s args R_Pw 156 y_To_init c_To_init 4 none (WL y_To_init c_To_init 4 none) { frames := 2, cells := 0, slots := 0, locals := 40 } 0 0 3 ∧ y_To_init.name = "<init>" ∧ (Cond.instanceMethod y_To_init).before args s = true := cwI 3 ht (GW_in (GW_wl w_2_197)) rfl rfl rfl (ht _ w_1_12) (ht _ w_2_195) (ht _ w_2_196) rfl (by decide +kernel) hR
section S38
variable {p : Program} {l : Launch} {e : Env} {R : Room} {s : State} {m : MethodId} {args : Array Value} {below : List Frame} {meth : Method} {c : Code} {H : Heap} {locs : List Loc} {cells slots : Nat} {Q : State → Prop}
variable {cc : ByteArray} {pc n nL : Nat} {ls : Array Slot} {rest : List Value} {D : va_G} {cy : Nat → ClassId} {Z : Nat → Prop} {ad : Nat → Nat} {tb : List (Nat × Instr × Nat)} {lv : List (Nat × Value)}
set_option maxHeartbeats 4000000 in
set_option maxRecDepth 100000 in
theorem e_Pw_tower_36 {I : Nat → Int32} {A : Nat → Nat → Int32} {a1 : Int32} {a2 : Int32} {a3 : Int32} {a4 : Int32} {P : Int32 → ((Nat → Option Nat) × (List Nat) × (Nat → Nat) × (Nat → Nat → Int32)) → Prop}  (C : CX D cy R_Pw c_Pw_tower tb_Pw_tower 7 p s m args c Z) (hret : RetI p l e { frames := 3, cells := 1, slots := 3, locals := 63 } s m args below meth c c_Pw_tower .int D Z Q (fun (u : (Nat → Option Nat) × (List Nat) × (Nat → Nat) × (Nat → Nat → Int32)) => wC cy ad I A u.1 u.2.1 u.2.2.1 u.2.2.2) P 1 3) :
    ∀ (T : Nat → Option Nat) (L : List Nat) (K : Nat → Nat) (F : Nat → Nat → Int32) (s0 : Int32) (ls : Array Slot) (H : Heap) (locs : List Loc), lv_has ls 7 [(0, .ref (ad 0)), (1, .int a1), (2, .int a2), (3, .int a3), (4, .int a4)] → HXw D Z s.heap H locs (wC cy ad I A T L K F) → g_Pw_tower_36 I a1 a2 a3 a4 P  T L K F s0 → W p l e { frames := 3, cells := 1, slots := 3, locals := 63 } s m args below meth c H locs 0 0 Q (F0 m 36 ls [.int s0]) := by
  intro T L K F s0 ls H locs hl h hw
  refine i_istore (lv' := [(5, .int s0), (0, .ref (ad 0)), (1, .int a1), (2, .int a2), (3, .int a3), (4, .int a4)]) (n := 38) C 18 rfl rfl hl (by decide) rfl (fun ls hl => ?_)
  refine i_aload_n (n := 39) C 19 rfl rfl rfl hl 1 rfl ?_
  refine i_iload_n (n := 40) C 20 rfl rfl rfl hl 2 rfl ?_
  refine i_iload (n := 42) C 21 rfl rfl hl 0 rfl ?_
  refine i_callVp (rest := []) (ci := 10) (qc := (R_Pw, T_Pw, 16)) (n := 45) C 22 rfl rfl hl h rfl (wC_get (h := 0) (by decide)) (kV_Pw_132 ⟨by decide, by decide⟩) (m_Pw_refusalToHang hw) rfl rfl (Nat.le_of_ble_eq_true rfl) ⟨by decide, by decide⟩ (fun r3 hw => ?_)
  refine i_istore (lv' := [(6, .int r3), (5, .int s0), (0, .ref (ad 0)), (1, .int a1), (2, .int a2), (3, .int a3), (4, .int a4)]) (n := 47) C 23 rfl rfl hl (by decide) rfl (fun ls hl => ?_)
  refine i_iload (n := 49) C 24 rfl rfl hl 0 rfl ?_
  refine i_if_ge (tgt := 57) (n := 52) C 25 rfl rfl rfl (fun c4 => ?_) (fun c4 => ?_)
  · replace hw := hw.1 c4
    refine i_aload_n (n := 58) C 28 rfl rfl rfl hl 2 rfl ?_
    refine fgC_Pw_10 (n := 61) C 29 rfl rfl h ?_
    refine i_iload_n (n := 62) C 30 rfl rfl rfl hl 3 rfl ?_
    refine nw_Pw_154 (n := 65) C 31 rfl rfl h (by decide) (by decide) (fun q5 hfr8 H h => ?_)
    replace hw := hw q5 hfr8
    have hq6 : q5 ∈ L ++ [q5] := List.mem_append_right _ List.mem_cons_self
    have hk7 : (va_up K q5 9) q5 = 9 := if_pos rfl
    refine i_dup (n := 66) C 32 rfl rfl rfl ?_
    refine i_iload_n (n := 67) C 33 rfl rfl rfl hl 4 rfl ?_
    refine i_iload_n (n := 68) C 34 rfl rfl rfl hl 5 rfl ?_
    refine i_iload (n := 70) C 35 rfl rfl hl 6 rfl ?_
    refine i_callIv (rest := [.ref q5, .int a1, .ref (ad 1)]) (n := 73) C 36 rfl rfl hl h (kI_Pw_156 ⟨by decide, by decide⟩) (m_To_init_To hq6 hk7 hw) rfl rfl (Nat.le_of_ble_eq_true rfl) ⟨by decide, by decide⟩ (fun u9 H locs hw h => ?_)
    refine i_callVi (rest := []) (ci := 5) (qc := (R_Ne, T_Ne, 17)) (n := 76) C 37 rfl rfl hl h rfl (wC_get (h := 1) (by decide)) (kV_Pw_141 ⟨by decide, by decide⟩) (m_Ne_hang hw) rfl rfl (Nat.le_of_ble_eq_true rfl) ⟨by decide, by decide⟩ (fun r10 u11 H locs hw h => ?_)
    exact hret _ (u11, L ++ [q5], va_up K q5 9, u9) _ _ _ _ rfl hw h (C.dg (k := 38) rfl)
  · replace hw := hw.2 c4
    refine i_iload (n := 54) C 26 rfl rfl hl 0 rfl ?_
    refine i_goto (tgt := 76) C 27 rfl rfl ?_
    refine W.widen (k := 1) (n := 3) (by decide) (by decide) ?_
    exact hret _ (T, L, K, F) _ _ _ _ rfl hw h (C.dg (k := 38) rfl)
set_option maxHeartbeats 4000000 in
set_option maxRecDepth 100000 in
theorem e_Pw_tower_35 {I : Nat → Int32} {A : Nat → Nat → Int32} {a1 : Int32} {a2 : Int32} {a3 : Int32} {a4 : Int32} {P : Int32 → ((Nat → Option Nat) × (List Nat) × (Nat → Nat) × (Nat → Nat → Int32)) → Prop}  (C : CX D cy R_Pw c_Pw_tower tb_Pw_tower 7 p s m args c Z) (hret : RetI p l e { frames := 3, cells := 1, slots := 3, locals := 63 } s m args below meth c c_Pw_tower .int D Z Q (fun (u : (Nat → Option Nat) × (List Nat) × (Nat → Nat) × (Nat → Nat → Int32)) => wC cy ad I A u.1 u.2.1 u.2.2.1 u.2.2.2) P 1 3) :
    ∀ (T : Nat → Option Nat) (L : List Nat) (K : Nat → Nat) (F : Nat → Nat → Int32) (ls : Array Slot) (H : Heap) (locs : List Loc), lv_has ls 7 [(0, .ref (ad 0)), (1, .int a1), (2, .int a2), (3, .int a3), (4, .int a4)] → HXw D Z s.heap H locs (wC cy ad I A T L K F) → g_Pw_tower_35 I a1 a2 a3 a4 P  T L K F → W p l e { frames := 3, cells := 1, slots := 3, locals := 63 } s m args below meth c H locs 0 0 Q (F0 m 35 ls []) := by
  intro T L K F ls H locs hl h hw
  refine i_iconst (v := (0 : Int32)) (n := 36) C 17 rfl rfl rfl ?_
  exact e_Pw_tower_36 C hret  T L K F (0 : Int32) ls _ _ hl h hw
set_option maxHeartbeats 4000000 in
set_option maxRecDepth 100000 in
theorem m_Pw_tower {l : Launch} {D : va_G} {cy : Nat → ClassId} {ad : Nat → Nat} {I : Nat → Int32} {A : Nat → Nat → Int32} {T : Nat → Option Nat} {L : List Nat} {K : Nat → Nat} {F : Nat → Nat → Int32} {a1 : Int32} {a2 : Int32} {a3 : Int32} {a4 : Int32} {P : Int32 → ((Nat → Option Nat) × (List Nat) × (Nat → Nat) × (Nat → Nat → Int32)) → Prop} (hw : g_Pw_tower I T L K F a1 a2 a3 a4 P) : ∀ sz, Met l y_Pw_tower (WL y_Pw_tower c_Pw_tower 7 (some .int)) { frames := 3, cells := 1, slots := 3, locals := 63 } (va_Pc [.ref (ad 0), .int a1, .int a2, .int a3, .int a4] (PreW D cy (wC cy ad I A T L K F) sz)) (va_Qi P (fun u t => PostW D (va_A (wC cy ad I A T L K F) sz) ((fun (u : (Nat → Option Nat) × (List Nat) × (Nat → Nat) × (Nat → Nat → Int32)) => wC cy ad I A u.1 u.2.1 u.2.2.1 u.2.2.2) u) t) (va_A (wC cy ad I A T L K F) sz)) 1 3 (va_A (wC cy ad I A T L K F) sz) := by
  refine met_i (wf := fun (u : (Nat → Option Nat) × (List Nat) × (Nat → Nat) × (Nat → Nat → Int32)) => wC cy ad I A u.1 u.2.1 u.2.2.1 u.2.2.2) R_Pw .int db_Pw_tower (by decide) rfl rfl (Nat.le_of_ble_eq_true rfl) ?_
  intro p e s m below meth c Z Q ls C h hl hret
  have hl : lv_has ls 7 [(0, .ref (ad 0)), (1, .int a1), (2, .int a2), (3, .int a3), (4, .int a4)] := hl
  refine i_iload_n (n := 1) C 0 rfl rfl rfl hl 2 rfl ?_
  refine i_iconst (v := (0 : Int32)) (n := 2) C 1 rfl rfl rfl ?_
  refine i_sipush (v := (5000 : Int32)) (n := 5) C 2 rfl rfl rfl ?_
  refine i_callSp (rest := []) (n := 8) C 3 rfl rfl hl h (kS_Pw_69 ⟨by decide, by decide⟩) (m_Pw_isWithin hw) rfl rfl (Nat.le_of_ble_eq_true rfl) ⟨by decide, by decide⟩ (fun r1 hw => ?_)
  refine i_if_eq (tgt := 35) (n := 11) C 4 rfl rfl rfl (fun c2 => ?_) (fun c2 => ?_)
  · replace hw := hw.1 c2
    exact e_Pw_tower_35 C hret  T L K F ls _ _ hl h hw
  · replace hw := hw.2 c2
    refine i_iload_n (n := 12) C 5 rfl rfl rfl hl 3 rfl ?_
    refine i_iconst (v := (1 : Int32)) (n := 13) C 6 rfl rfl rfl ?_
    refine i_ldc (n := 15) C 7 rfl rfl w_2_192 ?_
    refine i_callSp (rest := []) (n := 18) C 8 rfl rfl hl h (kS_Pw_69 ⟨by decide, by decide⟩) (m_Pw_isWithin hw) rfl rfl (Nat.le_of_ble_eq_true rfl) ⟨by decide, by decide⟩ (fun r12 hw => ?_)
    refine i_if_eq (tgt := 35) (n := 21) C 9 rfl rfl rfl (fun c13 => ?_) (fun c13 => ?_)
    · replace hw := hw.1 c13
      exact e_Pw_tower_35 C hret  T L K F ls _ _ hl h hw
    · replace hw := hw.2 c13
      refine i_iload (n := 23) C 10 rfl rfl hl 4 rfl ?_
      refine i_iconst (v := (0 : Int32)) (n := 24) C 11 rfl rfl rfl ?_
      refine i_iload_n (n := 25) C 12 rfl rfl rfl hl 3 rfl ?_
      refine i_callSp (rest := []) (n := 28) C 13 rfl rfl hl h (kS_Pw_69 ⟨by decide, by decide⟩) (m_Pw_isWithin hw) rfl rfl (Nat.le_of_ble_eq_true rfl) ⟨by decide, by decide⟩ (fun r14 hw => ?_)
      refine i_if_eq (tgt := 35) (n := 31) C 14 rfl rfl rfl (fun c15 => ?_) (fun c15 => ?_)
      · replace hw := hw.1 c15
        exact e_Pw_tower_35 C hret  T L K F ls _ _ hl h hw
      · replace hw := hw.2 c15
        refine i_iconst (v := (1 : Int32)) (n := 32) C 15 rfl rfl rfl ?_
        refine i_goto (tgt := 36) C 16 rfl rfl ?_
        exact e_Pw_tower_36 C hret  T L K F (1 : Int32) ls _ _ hl h hw
end S38
section S39
variable {p : Program} {l : Launch} {e : Env} {R : Room} {s : State} {m : MethodId} {args : Array Value} {below : List Frame} {meth : Method} {c : Code} {H : Heap} {locs : List Loc} {cells slots : Nat} {Q : State → Prop}
variable {cc : ByteArray} {pc n nL : Nat} {ls : Array Slot} {rest : List Value} {D : va_G} {cy : Nat → ClassId} {Z : Nat → Prop} {ad : Nat → Nat} {tb : List (Nat × Instr × Nat)} {lv : List (Nat × Value)}
set_option maxHeartbeats 4000000 in
set_option maxRecDepth 100000 in
theorem m_To_init_Ho {l : Launch} {D : va_G} {cy : Nat → ClassId} {ad : Nat → Nat} {I : Nat → Int32} {A : Nat → Nat → Int32} {T : Nat → Option Nat} {L : List Nat} {K : Nat → Nat} {F : Nat → Nat → Int32} {b : Nat} {a1 : Int32} {a2 : Int32} {a3 : Int32} {P : ((Nat → Nat → Int32)) → Prop} (hbq : b ∈ L) (hbk : K b = 2) (hw : g_To_init_Ho F b a1 a2 a3 P) : ∀ sz, Met l y_To_init (WL y_To_init c_To_init 4 none) { frames := 2, cells := 0, slots := 0, locals := 40 } (va_Pc [.ref b, .int a1, .int a2, .int a3] (PreW D cy (wC cy ad I A T L K F) sz)) (va_Qv P (fun u t => PostW D (va_A (wC cy ad I A T L K F) sz) ((fun (u : (Nat → Nat → Int32)) => wC cy ad I A T L K u) u) t) (va_A (wC cy ad I A T L K F) sz)) 0 0 (va_A (wC cy ad I A T L K F) sz) := by
  refine met_v (wf := fun (u : (Nat → Nat → Int32)) => wC cy ad I A T L K u) R_To db_To_init (by decide) rfl (Nat.le_of_ble_eq_true rfl) ?_
  intro p e s m below meth c Z Q ls hin C h hl hret
  have hl : lv_has ls 4 [(0, .ref b), (1, .int a1), (2, .int a2), (3, .int a3)] := hl
  refine i_aload_n (n := 1) C 0 rfl rfl rfl hl 0 rfl ?_
  refine i_callINv (rest := []) (n := 4) C 1 rfl rfl hl h (kIN_To_1 ⟨by decide, by decide⟩) (m_Th_init hw) rfl rfl (Nat.le_of_ble_eq_true rfl) ⟨by decide, by decide⟩ (fun u1 H locs hw h => ?_)
  refine i_aload_n (n := 5) C 2 rfl rfl rfl hl 0 rfl ?_
  refine i_iload_n (n := 6) C 3 rfl rfl rfl hl 1 rfl ?_
  refine tp_To_7_Ho (n := 9) C 4 rfl rfl h hbq hbk hin (fun H locs h => ?_)
  refine i_aload_n (n := 10) C 5 rfl rfl rfl hl 0 rfl ?_
  refine i_iload_n (n := 11) C 6 rfl rfl rfl hl 2 rfl ?_
  refine tp_To_13_Ho (n := 14) C 7 rfl rfl h hbq hbk hin (fun H locs h => ?_)
  refine i_aload_n (n := 15) C 8 rfl rfl rfl hl 0 rfl ?_
  refine i_iload_n (n := 16) C 9 rfl rfl rfl hl 3 rfl ?_
  refine tp_To_16_Ho (n := 19) C 10 rfl rfl h hbq hbk (fun H locs h => ?_)
  exact hret (sF (sF (sF F b 0 a1) b 1 a2) b 2 a3) _ _ _ _ hw h (C.dg (k := 11) rfl)
end S39
theorem kI_Ho_3 {R : Room} {s : State} {args : Array Value} (hR : 2 + 1 ≤ R.frames ∧ 8 + (4 + 11) + 40 ≤ R.locals) (ht : ∀ w ∈ GW, w.before args s = true) : CallB R s args R_Ho 3 y_To_init c_To_init 4 none (WL y_To_init c_To_init 4 none) { frames := 2, cells := 0, slots := 0, locals := 40 } 0 0 3 ∧ y_To_init.name = "<init>" ∧ (Cond.instanceMethod y_To_init).before args s = true := cwI 3 ht (GW_in (GW_wl w_2_197)) rfl rfl rfl (ht _ w_1_12) (ht _ w_2_218) (ht _ w_2_196) rfl (by decide +kernel) hR
section S40
variable {p : Program} {l : Launch} {e : Env} {R : Room} {s : State} {m : MethodId} {args : Array Value} {below : List Frame} {meth : Method} {c : Code} {H : Heap} {locs : List Loc} {cells slots : Nat} {Q : State → Prop}
variable {cc : ByteArray} {pc n nL : Nat} {ls : Array Slot} {rest : List Value} {D : va_G} {cy : Nat → ClassId} {Z : Nat → Prop} {ad : Nat → Nat} {tb : List (Nat × Instr × Nat)} {lv : List (Nat × Value)}
set_option maxHeartbeats 4000000 in
set_option maxRecDepth 100000 in
theorem m_Ho_init_Ho {l : Launch} {D : va_G} {cy : Nat → ClassId} {ad : Nat → Nat} {I : Nat → Int32} {A : Nat → Nat → Int32} {T : Nat → Option Nat} {L : List Nat} {K : Nat → Nat} {F : Nat → Nat → Int32} {b : Nat} {a1 : Int32} {a2 : Int32} {a3 : Int32} {P : ((Nat → Nat → Int32)) → Prop} (hbq : b ∈ L) (hbk : K b = 2) (hw : g_Ho_init_Ho F b a1 a2 a3 P) : ∀ sz, Met l y_Ho_init (WL y_Ho_init c_Ho_init 4 none) { frames := 3, cells := 0, slots := 0, locals := 63 } (va_Pc [.ref b, .int a1, .int a2, .int a3] (PreW D cy (wC cy ad I A T L K F) sz)) (va_Qv P (fun u t => PostW D (va_A (wC cy ad I A T L K F) sz) ((fun (u : (Nat → Nat → Int32)) => wC cy ad I A T L K u) u) t) (va_A (wC cy ad I A T L K F) sz)) 0 0 (va_A (wC cy ad I A T L K F) sz) := by
  refine met_v (wf := fun (u : (Nat → Nat → Int32)) => wC cy ad I A T L K u) R_Ho db_Ho_init (by decide) rfl (Nat.le_of_ble_eq_true rfl) ?_
  intro p e s m below meth c Z Q ls hin C h hl hret
  have hl : lv_has ls 4 [(0, .ref b), (1, .int a1), (2, .int a2), (3, .int a3)] := hl
  refine i_aload_n (n := 1) C 0 rfl rfl rfl hl 0 rfl ?_
  refine i_iload_n (n := 2) C 1 rfl rfl rfl hl 1 rfl ?_
  refine i_iconst (v := (0 : Int32)) (n := 3) C 2 rfl rfl rfl ?_
  refine i_iconst (v := (0 : Int32)) (n := 4) C 3 rfl rfl rfl ?_
  refine i_callIv (rest := []) (n := 7) C 4 rfl rfl hl h (kI_Ho_3 ⟨by decide, by decide⟩) (m_To_init_Ho hbq hbk hw) rfl rfl (Nat.le_of_ble_eq_true rfl) ⟨by decide, by decide⟩ (fun u1 H locs hw h => ?_)
  refine i_aload_n (n := 8) C 5 rfl rfl rfl hl 0 rfl ?_
  refine i_iload_n (n := 9) C 6 rfl rfl rfl hl 2 rfl ?_
  refine tp_Ho_9_Ho (n := 12) C 7 rfl rfl h hbq hbk hin (fun H locs h => ?_)
  refine i_aload_n (n := 13) C 8 rfl rfl rfl hl 0 rfl ?_
  refine i_iload_n (n := 14) C 9 rfl rfl rfl hl 3 rfl ?_
  refine tp_Ho_15_Ho (n := 17) C 10 rfl rfl h hbq hbk hin (fun H locs h => ?_)
  exact hret (sF (sF u1 b 3 a2) b 4 a3) _ _ _ _ hw h (C.dg (k := 11) rfl)
end S40
theorem kI_Pw_159 {R : Room} {s : State} {args : Array Value} (hR : 3 + 1 ≤ R.frames ∧ 8 + (4 + 11) + 63 ≤ R.locals) (ht : ∀ w ∈ GW, w.before args s = true) : CallB R s args R_Pw 159 y_Ho_init c_Ho_init 4 none (WL y_Ho_init c_Ho_init 4 none) { frames := 3, cells := 0, slots := 0, locals := 63 } 0 0 3 ∧ y_Ho_init.name = "<init>" ∧ (Cond.instanceMethod y_Ho_init).before args s = true := cwI 3 ht (GW_in (GW_wl w_2_217)) rfl rfl rfl (ht _ w_1_13) (ht _ w_2_215) (ht _ w_2_216) rfl (by decide +kernel) hR
section S41
variable {p : Program} {l : Launch} {e : Env} {R : Room} {s : State} {m : MethodId} {args : Array Value} {below : List Frame} {meth : Method} {c : Code} {H : Heap} {locs : List Loc} {cells slots : Nat} {Q : State → Prop}
variable {cc : ByteArray} {pc n nL : Nat} {ls : Array Slot} {rest : List Value} {D : va_G} {cy : Nat → ClassId} {Z : Nat → Prop} {ad : Nat → Nat} {tb : List (Nat × Instr × Nat)} {lv : List (Nat × Value)}
set_option maxHeartbeats 4000000 in
set_option maxRecDepth 100000 in
theorem e_Pw_house_37 {I : Nat → Int32} {A : Nat → Nat → Int32} {a1 : Int32} {a2 : Int32} {a3 : Int32} {a4 : Int32} {P : Int32 → ((Nat → Option Nat) × (List Nat) × (Nat → Nat) × (Nat → Nat → Int32)) → Prop}  (C : CX D cy R_Pw c_Pw_house tb_Pw_house 7 p s m args c Z) (hret : RetI p l e { frames := 4, cells := 1, slots := 7, locals := 86 } s m args below meth c c_Pw_house .int D Z Q (fun (u : (Nat → Option Nat) × (List Nat) × (Nat → Nat) × (Nat → Nat → Int32)) => wC cy ad I A u.1 u.2.1 u.2.2.1 u.2.2.2) P 1 7) :
    ∀ (T : Nat → Option Nat) (L : List Nat) (K : Nat → Nat) (F : Nat → Nat → Int32) (s0 : Int32) (ls : Array Slot) (H : Heap) (locs : List Loc), lv_has ls 7 [(0, .ref (ad 0)), (1, .int a1), (2, .int a2), (3, .int a3), (4, .int a4)] → HXw D Z s.heap H locs (wC cy ad I A T L K F) → g_Pw_house_37 I a1 a2 a3 a4 P  T L K F s0 → W p l e { frames := 4, cells := 1, slots := 7, locals := 86 } s m args below meth c H locs 0 0 Q (F0 m 37 ls [.int s0]) := by
  intro T L K F s0 ls H locs hl h hw
  refine i_istore (lv' := [(5, .int s0), (0, .ref (ad 0)), (1, .int a1), (2, .int a2), (3, .int a3), (4, .int a4)]) (n := 39) C 18 rfl rfl hl (by decide) rfl (fun ls hl => ?_)
  refine i_aload_n (n := 40) C 19 rfl rfl rfl hl 1 rfl ?_
  refine i_iload_n (n := 41) C 20 rfl rfl rfl hl 2 rfl ?_
  refine i_iload (n := 43) C 21 rfl rfl hl 0 rfl ?_
  refine i_callVp (rest := []) (ci := 10) (qc := (R_Pw, T_Pw, 16)) (n := 46) C 22 rfl rfl hl h rfl (wC_get (h := 0) (by decide)) (kV_Pw_132 ⟨by decide, by decide⟩) (m_Pw_refusalToHang hw) rfl rfl (Nat.le_of_ble_eq_true rfl) ⟨by decide, by decide⟩ (fun r3 hw => ?_)
  refine i_istore (lv' := [(6, .int r3), (5, .int s0), (0, .ref (ad 0)), (1, .int a1), (2, .int a2), (3, .int a3), (4, .int a4)]) (n := 48) C 23 rfl rfl hl (by decide) rfl (fun ls hl => ?_)
  refine i_iload (n := 50) C 24 rfl rfl hl 0 rfl ?_
  refine i_if_ge (tgt := 58) (n := 53) C 25 rfl rfl rfl (fun c4 => ?_) (fun c4 => ?_)
  · replace hw := hw.1 c4
    refine i_aload_n (n := 59) C 28 rfl rfl rfl hl 2 rfl ?_
    refine fgC_Pw_10 (n := 62) C 29 rfl rfl h ?_
    refine i_iload_n (n := 63) C 30 rfl rfl rfl hl 3 rfl ?_
    refine nw_Pw_157 (n := 66) C 31 rfl rfl h (by decide) (by decide) (fun q5 hfr8 H h => ?_)
    replace hw := hw q5 hfr8
    have hq6 : q5 ∈ L ++ [q5] := List.mem_append_right _ List.mem_cons_self
    have hk7 : (va_up K q5 2) q5 = 2 := if_pos rfl
    refine i_dup (n := 67) C 32 rfl rfl rfl ?_
    refine i_iload_n (n := 68) C 33 rfl rfl rfl hl 4 rfl ?_
    refine i_iload_n (n := 69) C 34 rfl rfl rfl hl 5 rfl ?_
    refine i_iload (n := 71) C 35 rfl rfl hl 6 rfl ?_
    refine i_callIv (rest := [.ref q5, .int a1, .ref (ad 1)]) (n := 74) C 36 rfl rfl hl h (kI_Pw_159 ⟨by decide, by decide⟩) (m_Ho_init_Ho hq6 hk7 hw) rfl rfl (Nat.le_of_ble_eq_true rfl) ⟨by decide, by decide⟩ (fun u9 H locs hw h => ?_)
    refine i_callVi (rest := []) (ci := 5) (qc := (R_Ne, T_Ne, 17)) (n := 77) C 37 rfl rfl hl h rfl (wC_get (h := 1) (by decide)) (kV_Pw_141 ⟨by decide, by decide⟩) (m_Ne_hang hw) rfl rfl (Nat.le_of_ble_eq_true rfl) ⟨by decide, by decide⟩ (fun r10 u11 H locs hw h => ?_)
    exact hret _ (u11, L ++ [q5], va_up K q5 2, u9) _ _ _ _ rfl hw h (C.dg (k := 38) rfl)
  · replace hw := hw.2 c4
    refine i_iload (n := 55) C 26 rfl rfl hl 0 rfl ?_
    refine i_goto (tgt := 77) C 27 rfl rfl ?_
    refine W.widen (k := 1) (n := 7) (by decide) (by decide) ?_
    exact hret _ (T, L, K, F) _ _ _ _ rfl hw h (C.dg (k := 38) rfl)
set_option maxHeartbeats 4000000 in
set_option maxRecDepth 100000 in
theorem e_Pw_house_36 {I : Nat → Int32} {A : Nat → Nat → Int32} {a1 : Int32} {a2 : Int32} {a3 : Int32} {a4 : Int32} {P : Int32 → ((Nat → Option Nat) × (List Nat) × (Nat → Nat) × (Nat → Nat → Int32)) → Prop}  (C : CX D cy R_Pw c_Pw_house tb_Pw_house 7 p s m args c Z) (hret : RetI p l e { frames := 4, cells := 1, slots := 7, locals := 86 } s m args below meth c c_Pw_house .int D Z Q (fun (u : (Nat → Option Nat) × (List Nat) × (Nat → Nat) × (Nat → Nat → Int32)) => wC cy ad I A u.1 u.2.1 u.2.2.1 u.2.2.2) P 1 7) :
    ∀ (T : Nat → Option Nat) (L : List Nat) (K : Nat → Nat) (F : Nat → Nat → Int32) (ls : Array Slot) (H : Heap) (locs : List Loc), lv_has ls 7 [(0, .ref (ad 0)), (1, .int a1), (2, .int a2), (3, .int a3), (4, .int a4)] → HXw D Z s.heap H locs (wC cy ad I A T L K F) → g_Pw_house_36 I a1 a2 a3 a4 P  T L K F → W p l e { frames := 4, cells := 1, slots := 7, locals := 86 } s m args below meth c H locs 0 0 Q (F0 m 36 ls []) := by
  intro T L K F ls H locs hl h hw
  refine i_iconst (v := (0 : Int32)) (n := 37) C 17 rfl rfl rfl ?_
  exact e_Pw_house_37 C hret  T L K F (0 : Int32) ls _ _ hl h hw
set_option maxHeartbeats 4000000 in
set_option maxRecDepth 100000 in
theorem m_Pw_house {l : Launch} {D : va_G} {cy : Nat → ClassId} {ad : Nat → Nat} {I : Nat → Int32} {A : Nat → Nat → Int32} {T : Nat → Option Nat} {L : List Nat} {K : Nat → Nat} {F : Nat → Nat → Int32} {a1 : Int32} {a2 : Int32} {a3 : Int32} {a4 : Int32} {P : Int32 → ((Nat → Option Nat) × (List Nat) × (Nat → Nat) × (Nat → Nat → Int32)) → Prop} (hw : g_Pw_house I T L K F a1 a2 a3 a4 P) : ∀ sz, Met l y_Pw_house (WL y_Pw_house c_Pw_house 7 (some .int)) { frames := 4, cells := 1, slots := 7, locals := 86 } (va_Pc [.ref (ad 0), .int a1, .int a2, .int a3, .int a4] (PreW D cy (wC cy ad I A T L K F) sz)) (va_Qi P (fun u t => PostW D (va_A (wC cy ad I A T L K F) sz) ((fun (u : (Nat → Option Nat) × (List Nat) × (Nat → Nat) × (Nat → Nat → Int32)) => wC cy ad I A u.1 u.2.1 u.2.2.1 u.2.2.2) u) t) (va_A (wC cy ad I A T L K F) sz)) 1 7 (va_A (wC cy ad I A T L K F) sz) := by
  refine met_i (wf := fun (u : (Nat → Option Nat) × (List Nat) × (Nat → Nat) × (Nat → Nat → Int32)) => wC cy ad I A u.1 u.2.1 u.2.2.1 u.2.2.2) R_Pw .int db_Pw_house (by decide) rfl rfl (Nat.le_of_ble_eq_true rfl) ?_
  intro p e s m below meth c Z Q ls C h hl hret
  have hl : lv_has ls 7 [(0, .ref (ad 0)), (1, .int a1), (2, .int a2), (3, .int a3), (4, .int a4)] := hl
  refine i_iload_n (n := 1) C 0 rfl rfl rfl hl 2 rfl ?_
  refine i_iconst (v := (0 : Int32)) (n := 2) C 1 rfl rfl rfl ?_
  refine i_sipush (v := (5000 : Int32)) (n := 5) C 2 rfl rfl rfl ?_
  refine i_callSp (rest := []) (n := 8) C 3 rfl rfl hl h (kS_Pw_69 ⟨by decide, by decide⟩) (m_Pw_isWithin hw) rfl rfl (Nat.le_of_ble_eq_true rfl) ⟨by decide, by decide⟩ (fun r1 hw => ?_)
  refine i_if_eq (tgt := 36) (n := 11) C 4 rfl rfl rfl (fun c2 => ?_) (fun c2 => ?_)
  · replace hw := hw.1 c2
    exact e_Pw_house_36 C hret  T L K F ls _ _ hl h hw
  · replace hw := hw.2 c2
    refine i_iload_n (n := 12) C 5 rfl rfl rfl hl 3 rfl ?_
    refine i_iconst (v := (0 : Int32)) (n := 13) C 6 rfl rfl rfl ?_
    refine i_bipush (v := (120 : Int32)) (n := 15) C 7 rfl rfl rfl ?_
    refine i_callSp (rest := []) (n := 18) C 8 rfl rfl hl h (kS_Pw_69 ⟨by decide, by decide⟩) (m_Pw_isWithin hw) rfl rfl (Nat.le_of_ble_eq_true rfl) ⟨by decide, by decide⟩ (fun r12 hw => ?_)
    refine i_if_eq (tgt := 36) (n := 21) C 9 rfl rfl rfl (fun c13 => ?_) (fun c13 => ?_)
    · replace hw := hw.1 c13
      exact e_Pw_house_36 C hret  T L K F ls _ _ hl h hw
    · replace hw := hw.2 c13
      refine i_iload (n := 23) C 10 rfl rfl hl 4 rfl ?_
      refine i_iconst (v := (0 : Int32)) (n := 24) C 11 rfl rfl rfl ?_
      refine i_bipush (v := (100 : Int32)) (n := 26) C 12 rfl rfl rfl ?_
      refine i_callSp (rest := []) (n := 29) C 13 rfl rfl hl h (kS_Pw_69 ⟨by decide, by decide⟩) (m_Pw_isWithin hw) rfl rfl (Nat.le_of_ble_eq_true rfl) ⟨by decide, by decide⟩ (fun r14 hw => ?_)
      refine i_if_eq (tgt := 36) (n := 32) C 14 rfl rfl rfl (fun c15 => ?_) (fun c15 => ?_)
      · replace hw := hw.1 c15
        exact e_Pw_house_36 C hret  T L K F ls _ _ hl h hw
      · replace hw := hw.2 c15
        refine i_iconst (v := (1 : Int32)) (n := 33) C 15 rfl rfl rfl ?_
        refine i_goto (tgt := 37) C 16 rfl rfl ?_
        exact e_Pw_house_37 C hret  T L K F (1 : Int32) ls _ _ hl h hw
end S41
theorem kIN_Le_1 {R : Room} {s : State} {args : Array Value} (hR : 1 + 1 ≤ R.frames ∧ 8 + (1 + 11) + 20 ≤ R.locals) (ht : ∀ w ∈ GW, w.before args s = true) (hN : NX s) : va_CN R s args R_Le 1 y_Th_init R_Pw c_Th_init 1 none (WL y_Th_init c_Th_init 1 none) { frames := 1, cells := 0, slots := 0, locals := 20 } 0 0 0 ∧ y_Th_init.name = "<init>" ∧ (Cond.instanceMethod y_Th_init).before args s = true := ⟨va_cnB 0 ht (GW_in (GW_wl w_2_128)) rfl rfl rfl (hN.1 _ (by simp [nxW])) (ht _ w_1_8) (by decide +kernel) hR, rfl, ht _ w_2_127⟩
section S42
variable {p : Program} {l : Launch} {e : Env} {R : Room} {s : State} {m : MethodId} {args : Array Value} {below : List Frame} {meth : Method} {c : Code} {H : Heap} {locs : List Loc} {cells slots : Nat} {Q : State → Prop}
variable {cc : ByteArray} {pc n nL : Nat} {ls : Array Slot} {rest : List Value} {D : va_G} {cy : Nat → ClassId} {Z : Nat → Prop} {ad : Nat → Nat} {tb : List (Nat × Instr × Nat)} {lv : List (Nat × Value)}
set_option maxHeartbeats 4000000 in
set_option maxRecDepth 100000 in
theorem m_Le_init_Le {l : Launch} {D : va_G} {cy : Nat → ClassId} {ad : Nat → Nat} {I : Nat → Int32} {A : Nat → Nat → Int32} {T : Nat → Option Nat} {L : List Nat} {K : Nat → Nat} {F : Nat → Nat → Int32} {b : Nat} {a1 : Int32} {a2 : Int32} {P : ((Nat → Nat → Int32)) → Prop} (hbq : b ∈ L) (hbk : K b = 3) (hw : g_Le_init_Le F b a1 a2 P) : ∀ sz, Met l y_Le_init (WL y_Le_init c_Le_init 3 none) { frames := 2, cells := 0, slots := 0, locals := 40 } (va_Pc [.ref b, .int a1, .int a2] (PreW D cy (wC cy ad I A T L K F) sz)) (va_Qv P (fun u t => PostW D (va_A (wC cy ad I A T L K F) sz) ((fun (u : (Nat → Nat → Int32)) => wC cy ad I A T L K u) u) t) (va_A (wC cy ad I A T L K F) sz)) 0 0 (va_A (wC cy ad I A T L K F) sz) := by
  refine met_v (wf := fun (u : (Nat → Nat → Int32)) => wC cy ad I A T L K u) R_Le db_Le_init (by decide) rfl (Nat.le_of_ble_eq_true rfl) ?_
  intro p e s m below meth c Z Q ls hin C h hl hret
  have hl : lv_has ls 3 [(0, .ref b), (1, .int a1), (2, .int a2)] := hl
  refine i_aload_n (n := 1) C 0 rfl rfl rfl hl 0 rfl ?_
  refine i_callINv (rest := []) (n := 4) C 1 rfl rfl hl h (kIN_Le_1 ⟨by decide, by decide⟩) (m_Th_init hw) rfl rfl (Nat.le_of_ble_eq_true rfl) ⟨by decide, by decide⟩ (fun u1 H locs hw h => ?_)
  refine i_aload_n (n := 5) C 2 rfl rfl rfl hl 0 rfl ?_
  refine i_iload_n (n := 6) C 3 rfl rfl rfl hl 1 rfl ?_
  refine tp_Le_7_Le (n := 9) C 4 rfl rfl h hbq hbk hin (fun H locs h => ?_)
  refine i_aload_n (n := 10) C 5 rfl rfl rfl hl 0 rfl ?_
  refine i_iload_n (n := 11) C 6 rfl rfl rfl hl 2 rfl ?_
  obtain ⟨hB, hw⟩ := hw
  refine tp_Le_13_Le (n := 14) C 7 rfl rfl h hbq hbk hin hB (fun H locs h => ?_)
  exact hret (sF (sF F b 0 a1) b 1 a2) _ _ _ _ hw h (C.dg (k := 8) rfl)
end S42
theorem kI_Pw_162 {R : Room} {s : State} {args : Array Value} (hR : 2 + 1 ≤ R.frames ∧ 8 + (3 + 11) + 40 ≤ R.locals) (ht : ∀ w ∈ GW, w.before args s = true) : CallB R s args R_Pw 162 y_Le_init c_Le_init 3 none (WL y_Le_init c_Le_init 3 none) { frames := 2, cells := 0, slots := 0, locals := 40 } 0 0 2 ∧ y_Le_init.name = "<init>" ∧ (Cond.instanceMethod y_Le_init).before args s = true := cwI 2 ht (GW_in (GW_wl w_3_3)) rfl rfl rfl (ht _ w_1_14) (ht _ w_3_1) (ht _ w_3_2) rfl (by decide +kernel) hR
section S43
variable {p : Program} {l : Launch} {e : Env} {R : Room} {s : State} {m : MethodId} {args : Array Value} {below : List Frame} {meth : Method} {c : Code} {H : Heap} {locs : List Loc} {cells slots : Nat} {Q : State → Prop}
variable {cc : ByteArray} {pc n nL : Nat} {ls : Array Slot} {rest : List Value} {D : va_G} {cy : Nat → ClassId} {Z : Nat → Prop} {ad : Nat → Nat} {tb : List (Nat × Instr × Nat)} {lv : List (Nat × Value)}
set_option maxHeartbeats 4000000 in
set_option maxRecDepth 100000 in
theorem m_Pw_leak {l : Launch} {D : va_G} {cy : Nat → ClassId} {ad : Nat → Nat} {I : Nat → Int32} {A : Nat → Nat → Int32} {T : Nat → Option Nat} {L : List Nat} {K : Nat → Nat} {F : Nat → Nat → Int32} {a1 : Int32} {a2 : Int32} {a3 : Int32} {P : Int32 → ((Nat → Option Nat) × (List Nat) × (Nat → Nat) × (Nat → Nat → Int32)) → Prop} (hw : g_Pw_leak I T L K F a1 a2 a3 P) : ∀ sz, Met l y_Pw_leak (WL y_Pw_leak c_Pw_leak 5 (some .int)) { frames := 3, cells := 1, slots := 3, locals := 62 } (va_Pc [.ref (ad 0), .int a1, .int a2, .int a3] (PreW D cy (wC cy ad I A T L K F) sz)) (va_Qi P (fun u t => PostW D (va_A (wC cy ad I A T L K F) sz) ((fun (u : (Nat → Option Nat) × (List Nat) × (Nat → Nat) × (Nat → Nat → Int32)) => wC cy ad I A u.1 u.2.1 u.2.2.1 u.2.2.2) u) t) (va_A (wC cy ad I A T L K F) sz)) 1 3 (va_A (wC cy ad I A T L K F) sz) := by
  refine met_i (wf := fun (u : (Nat → Option Nat) × (List Nat) × (Nat → Nat) × (Nat → Nat → Int32)) => wC cy ad I A u.1 u.2.1 u.2.2.1 u.2.2.2) R_Pw .int db_Pw_leak (by decide) rfl rfl (Nat.le_of_ble_eq_true rfl) ?_
  intro p e s m below meth c Z Q ls C h hl hret
  have hl : lv_has ls 5 [(0, .ref (ad 0)), (1, .int a1), (2, .int a2), (3, .int a3)] := hl
  refine i_aload_n (n := 1) C 0 rfl rfl rfl hl 0 rfl ?_
  refine i_iload_n (n := 2) C 1 rfl rfl rfl hl 1 rfl ?_
  refine i_iload_n (n := 3) C 2 rfl rfl rfl hl 2 rfl ?_
  refine i_iconst (v := (1 : Int32)) (n := 4) C 3 rfl rfl rfl ?_
  refine i_sipush (v := (1000 : Int32)) (n := 7) C 4 rfl rfl rfl ?_
  refine i_callSp (rest := [.int a1, .ref (ad 0)]) (n := 10) C 5 rfl rfl hl h (kS_Pw_69 ⟨by decide, by decide⟩) (m_Pw_isWithin hw) rfl rfl (Nat.le_of_ble_eq_true rfl) ⟨by decide, by decide⟩ (fun r1 hw => ?_)
  refine i_callVp (rest := []) (ci := 10) (qc := (R_Pw, T_Pw, 16)) (n := 13) C 6 rfl rfl hl h rfl (wC_get (h := 0) (by decide)) (kV_Pw_132 ⟨by decide, by decide⟩) (m_Pw_refusalToHang hw) rfl rfl (Nat.le_of_ble_eq_true rfl) ⟨by decide, by decide⟩ (fun r2 hw => ?_)
  refine i_istore (lv' := [(4, .int r2), (0, .ref (ad 0)), (1, .int a1), (2, .int a2), (3, .int a3)]) (n := 15) C 7 rfl rfl hl (by decide) rfl (fun ls hl => ?_)
  refine i_iload (n := 17) C 8 rfl rfl hl 0 rfl ?_
  refine i_if_ge (tgt := 25) (n := 20) C 9 rfl rfl rfl (fun c3 => ?_) (fun c3 => ?_)
  · replace hw := hw.1 c3
    refine i_aload_n (n := 26) C 12 rfl rfl rfl hl 1 rfl ?_
    refine fgC_Pw_10 (n := 29) C 13 rfl rfl h ?_
    refine i_iload_n (n := 30) C 14 rfl rfl rfl hl 2 rfl ?_
    refine nw_Pw_160 (n := 33) C 15 rfl rfl h (by decide) (by decide) (fun q4 hfr7 H h => ?_)
    replace hw := hw q4 hfr7
    have hq5 : q4 ∈ L ++ [q4] := List.mem_append_right _ List.mem_cons_self
    have hk6 : (va_up K q4 3) q4 = 3 := if_pos rfl
    refine i_dup (n := 34) C 16 rfl rfl rfl ?_
    refine i_iload_n (n := 35) C 17 rfl rfl rfl hl 3 rfl ?_
    refine i_iload_n (n := 36) C 18 rfl rfl rfl hl 4 rfl ?_
    refine i_callIv (rest := [.ref q4, .int a1, .ref (ad 1)]) (n := 39) C 19 rfl rfl hl h (kI_Pw_162 ⟨by decide, by decide⟩) (m_Le_init_Le hq5 hk6 hw) rfl rfl (Nat.le_of_ble_eq_true rfl) ⟨by decide, by decide⟩ (fun u8 H locs hw h => ?_)
    refine i_callVi (rest := []) (ci := 5) (qc := (R_Ne, T_Ne, 17)) (n := 42) C 20 rfl rfl hl h rfl (wC_get (h := 1) (by decide)) (kV_Pw_141 ⟨by decide, by decide⟩) (m_Ne_hang hw) rfl rfl (Nat.le_of_ble_eq_true rfl) ⟨by decide, by decide⟩ (fun r9 u10 H locs hw h => ?_)
    exact hret _ (u10, L ++ [q4], va_up K q4 3, u8) _ _ _ _ rfl hw h (C.dg (k := 21) rfl)
  · replace hw := hw.2 c3
    refine i_iload (n := 22) C 10 rfl rfl hl 0 rfl ?_
    refine i_goto (tgt := 42) C 11 rfl rfl ?_
    refine W.widen (k := 1) (n := 3) (by decide) (by decide) ?_
    exact hret _ (T, L, K, F) _ _ _ _ rfl hw h (C.dg (k := 21) rfl)
end S43
section S44
variable {p : Program} {l : Launch} {e : Env} {R : Room} {s : State} {m : MethodId} {args : Array Value} {below : List Frame} {meth : Method} {c : Code} {H : Heap} {locs : List Loc} {cells slots : Nat} {Q : State → Prop}
variable {cc : ByteArray} {pc n nL : Nat} {ls : Array Slot} {rest : List Value} {D : va_G} {cy : Nat → ClassId} {Z : Nat → Prop} {ad : Nat → Nat} {tb : List (Nat × Instr × Nat)} {lv : List (Nat × Value)}
set_option maxHeartbeats 4000000 in
set_option maxRecDepth 100000 in
theorem m_Br_kind {l : Launch} {D : va_G} {cy : Nat → ClassId}    {b : Nat} {w : va_W} {P : Int32 → Prop} (hw : g_Br_kind  P) : ∀ sz, Met l y_Br_kind (WL y_Br_kind c_Br_kind 1 (some .int)) { frames := 0, cells := 0, slots := 0, locals := 0 } (va_Pc [.ref b] (PreW D cy (w) sz)) (vp_Si P) 0 0 (fun _ => False) := by
  refine met_p R_Br .int db_Br_kind (by decide) rfl rfl (Nat.le_of_ble_eq_true rfl) ?_
  intro p e s m below meth c Z Q ls C h hl hret
  have hl : lv_has ls 1 [(0, .ref b)] := hl
  refine i_iconst (v := (3 : Int32)) (n := 1) C 0 rfl rfl rfl ?_
  exact hret _ _ _ rfl hw (C.dg (k := 1) rfl)
end S44
section S45
variable {p : Program} {l : Launch} {e : Env} {R : Room} {s : State} {m : MethodId} {args : Array Value} {below : List Frame} {meth : Method} {c : Code} {H : Heap} {locs : List Loc} {cells slots : Nat} {Q : State → Prop}
variable {cc : ByteArray} {pc n nL : Nat} {ls : Array Slot} {rest : List Value} {D : va_G} {cy : Nat → ClassId} {Z : Nat → Prop} {ad : Nat → Nat} {tb : List (Nat × Instr × Nat)} {lv : List (Nat × Value)}
set_option maxHeartbeats 4000000 in
set_option maxRecDepth 100000 in
theorem m_Dr_kind {l : Launch} {D : va_G} {cy : Nat → ClassId}    {b : Nat} {w : va_W} {P : Int32 → Prop} (hw : g_Dr_kind  P) : ∀ sz, Met l y_Dr_kind (WL y_Dr_kind c_Dr_kind 1 (some .int)) { frames := 0, cells := 0, slots := 0, locals := 0 } (va_Pc [.ref b] (PreW D cy (w) sz)) (vp_Si P) 0 0 (fun _ => False) := by
  refine met_p R_Dr .int db_Dr_kind (by decide) rfl rfl (Nat.le_of_ble_eq_true rfl) ?_
  intro p e s m below meth c Z Q ls C h hl hret
  have hl : lv_has ls 1 [(0, .ref b)] := hl
  refine i_iconst (v := (1 : Int32)) (n := 1) C 0 rfl rfl rfl ?_
  exact hret _ _ _ rfl hw (C.dg (k := 1) rfl)
end S45
