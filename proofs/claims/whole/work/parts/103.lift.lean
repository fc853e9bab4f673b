section S39
variable {p : Program} {l : Launch} {e : Env} {R : Room} {s : State} {m : MethodId} {args : Array Value} {below : List Frame} {meth : Method} {c : Code} {H : Heap} {locs : List Loc} {cells slots : Nat} {Q : State → Prop}
variable {cc : ByteArray} {pc n nL : Nat} {ls : Array Slot} {rest : List Value} {D : va_G} {cy : Nat → ClassId} {Z : Nat → Prop} {ad : Nat → Nat} {tb : List (Nat × Instr × Nat)} {lv : List (Nat × Value)}
def g_To_init_Ho (F : Nat → Nat → Int32) (b : Nat) (a1 : Int32) (a2 : Int32) (a3 : Int32) (P : ((Nat → Nat → Int32)) → Prop) : Prop := g_Th_init  (fun u1 => (P (sF (sF (sF F b 0 a1) b 1 a2) b 2 a3)))
set_option maxHeartbeats 4000000 in
set_option maxRecDepth 100000 in
theorem m_To_init_Ho {l : Launch} {D : va_G} {cy : Nat → ClassId} {ad : Nat → Nat} {I : Nat → Int32} {A : Nat → Nat → Int32} {T : Nat → Option Nat} {L : List Nat} {K : Nat → Nat} {F : Nat → Nat → Int32} {b : Nat} {a1 : Int32} {a2 : Int32} {a3 : Int32} {P : ((Nat → Nat → Int32)) → Prop} (hbq : b ∈ L) (hbk : K b = 2) (hw : g_To_init_Ho F b a1 a2 a3 P) : ∀ sz, Met l y_To_init (WL y_To_init c_To_init 4 none) { frames := 2, cells := 0, slots := 0, locals := 40 } (va_Pc [.ref b, .int a1, .int a2, .int a3] (PreW D cy (wC cy ad I A T L K F) sz)) (va_Qv P (fun u t => PostW D (va_A (wC cy ad I A T L K F) sz) ((fun (u : (Nat → Nat → Int32)) => wC cy ad I A T L K u) u) t) (va_A (wC cy ad I A T L K F) sz)) 0 0 (va_A (wC cy ad I A T L K F) sz) := by
  refine met_v (wf := fun (u : (Nat → Nat → Int32)) => wC cy ad I A T L K u) R_To db_To_init (by decide) rfl (Nat.le_of_ble_eq_true rfl) ?_
  intro p e s m below meth c Z Q ls hin C h hl hret
  have hl : lv_has ls 4 [(0, .ref b), (1, .int a1), (2, .int a2), (3, .int a3)] := hl
  refine i_aload_n (n := 1) C 0 rfl rfl rfl hl 0 rfl ?_
  refine i_callINv (rest := []) (n := 4) C 1 rfl rfl hl h (kIN_To_1 ⟨by decide, by decide⟩) (m_Th_init hw) rfl rfl (Nat.le_of_ble_eq_true rfl) ⟨by decide, by decide⟩ (fun u1 H locs hw h => ?_)
  refine i_aload_n (n := 5) C 2 rfl rfl rfl hl 0 rfl ?_
  refine i_iload_n (n := 6) C 3 rfl rfl rfl hl 1 rfl ?_
  refine tp_To_7_Ho (n := 9) C 4 rfl rfl h hbq hbk hin (fun H locs h => ?_)
  refine i_aload_n (n := 10) C 5 rfl rfl rfl hl 0 rfl ?_
  refine i_iload_n (n := 11) C 6 rfl rfl rfl hl 2 rfl ?_
  refine tp_To_13_Ho (n := 14) C 7 rfl rfl h hbq hbk hin (fun H locs h => ?_)
  refine i_aload_n (n := 15) C 8 rfl rfl rfl hl 0 rfl ?_
  refine i_iload_n (n := 16) C 9 rfl rfl rfl hl 3 rfl ?_
  refine tp_To_16_Ho (n := 19) C 10 rfl rfl h hbq hbk (fun H locs h => ?_)
  exact hret (sF (sF (sF F b 0 a1) b 1 a2) b 2 a3) _ _ _ _ hw h (C.dg (k := 11) rfl)
end S39
theorem kI_Ho_3 {R : Room} {s : State} {args : Array Value} (hR : 2 + 1 ≤ R.frames ∧ 8 + (4 + 11) + 40 ≤ R.locals) (ht : ∀ w ∈ GW, w.before args s = true) : CallB R s args R_Ho 3 y_To_init c_To_init 4 none (WL y_To_init c_To_init 4 none) { frames := 2, cells := 0, slots := 0, locals := 40 } 0 0 3 ∧ y_To_init.name = "<init>" ∧ (Cond.instanceMethod y_To_init).before args s = true := cwI 3 ht (GW_in (GW_wl w_2_197)) rfl rfl rfl (ht _ w_1_12) (ht _ w_2_218) (ht _ w_2_196) rfl (by decide +kernel) hR
section S40
variable {p : Program} {l : Launch} {e : Env} {R : Room} {s : State} {m : MethodId} {args : Array Value} {below : List Frame} {meth : Method} {c : Code} {H : Heap} {locs : List Loc} {cells slots : Nat} {Q : State → Prop}
variable {cc : ByteArray} {pc n nL : Nat} {ls : Array Slot} {rest : List Value} {D : va_G} {cy : Nat → ClassId} {Z : Nat → Prop} {ad : Nat → Nat} {tb : List (Nat × Instr × Nat)} {lv : List (Nat × Value)}
def g_Ho_init_Ho (F : Nat → Nat → Int32) (b : Nat) (a1 : Int32) (a2 : Int32) (a3 : Int32) (P : ((Nat → Nat → Int32)) → Prop) : Prop := g_To_init_Ho F b a1 (0 : Int32) (0 : Int32) (fun u1 => (P (sF (sF u1 b 3 a2) b 4 a3)))
set_option maxHeartbeats 4000000 in
set_option maxRecDepth 100000 in
theorem m_Ho_init_Ho {l : Launch} {D : va_G} {cy : Nat → ClassId} {ad : Nat → Nat} {I : Nat → Int32} {A : Nat → Nat → Int32} {T : Nat → Option Nat} {L : List Nat} {K : Nat → Nat} {F : Nat → Nat → Int32} {b : Nat} {a1 : Int32} {a2 : Int32} {a3 : Int32} {P : ((Nat → Nat → Int32)) → Prop} (hbq : b ∈ L) (hbk : K b = 2) (hw : g_Ho_init_Ho F b a1 a2 a3 P) : ∀ sz, Met l y_Ho_init (WL y_Ho_init c_Ho_init 4 none) { frames := 3, cells := 0, slots := 0, locals := 63 } (va_Pc [.ref b, .int a1, .int a2, .int a3] (PreW D cy (wC cy ad I A T L K F) sz)) (va_Qv P (fun u t => PostW D (va_A (wC cy ad I A T L K F) sz) ((fun (u : (Nat → Nat → Int32)) => wC cy ad I A T L K u) u) t) (va_A (wC cy ad I A T L K F) sz)) 0 0 (va_A (wC cy ad I A T L K F) sz) := by
  refine met_v (wf := fun (u : (Nat → Nat → Int32)) => wC cy ad I A T L K u) R_Ho db_Ho_init (by decide) rfl (Nat.le_of_ble_eq_true rfl) ?_
  intro p e s m below meth c Z Q ls hin C h hl hret
  have hl : lv_has ls 4 [(0, .ref b), (1, .int a1), (2, .int a2), (3, .int a3)] := hl
  refine i_aload_n (n := 1) C 0 rfl rfl rfl hl 0 rfl ?_
  refine i_iload_n (n := 2) C 1 rfl rfl rfl hl 1 rfl ?_
  refine i_iconst (v := (0 : Int32)) (n := 3) C 2 rfl rfl rfl ?_
  refine i_iconst (v := (0 : Int32)) (n := 4) C 3 rfl rfl rfl ?_
  refine i_callIv (rest := []) (n := 7) C 4 rfl rfl hl h (kI_Ho_3 ⟨by decide, by decide⟩) (m_To_init_Ho hbq hbk hw) rfl rfl (Nat.le_of_ble_eq_true rfl) ⟨by decide, by decide⟩ (fun u1 H locs hw h => ?_)
  refine i_aload_n (n := 8) C 5 rfl rfl rfl hl 0 rfl ?_
  refine i_iload_n (n := 9) C 6 rfl rfl rfl hl 2 rfl ?_
  refine tp_Ho_9_Ho (n := 12) C 7 rfl rfl h hbq hbk hin (fun H locs h => ?_)
  refine i_aload_n (n := 13) C 8 rfl rfl rfl hl 0 rfl ?_
  refine i_iload_n (n := 14) C 9 rfl rfl rfl hl 3 rfl ?_
  refine tp_Ho_15_Ho (n := 17) C 10 rfl rfl h hbq hbk hin (fun H locs h => ?_)
  exact hret (sF (sF u1 b 3 a2) b 4 a3) _ _ _ _ hw h (C.dg (k := 11) rfl)
end S40
theorem kI_Pw_159 {R : Room} {s : State} {args : Array Value} (hR : 3 + 1 ≤ R.frames ∧ 8 + (4 + 11) + 63 ≤ R.locals) (ht : ∀ w ∈ GW, w.before args s = true) : CallB R s args R_Pw 159 y_Ho_init c_Ho_init 4 none (WL y_Ho_init c_Ho_init 4 none) { frames := 3, cells := 0, slots := 0, locals := 63 } 0 0 3 ∧ y_Ho_init.name = "<init>" ∧ (Cond.instanceMethod y_Ho_init).before args s = true := cwI 3 ht (GW_in (GW_wl w_2_217)) rfl rfl rfl (ht _ w_1_13) (ht _ w_2_215) (ht _ w_2_216) rfl (by decide +kernel) hR
section S41
variable {p : Program} {l : Launch} {e : Env} {R : Room} {s : State} {m : MethodId} {args : Array Value} {below : List Frame} {meth : Method} {c : Code} {H : Heap} {locs : List Loc} {cells slots : Nat} {Q : State → Prop}
variable {cc : ByteArray} {pc n nL : Nat} {ls : Array Slot} {rest : List Value} {D : va_G} {cy : Nat → ClassId} {Z : Nat → Prop} {ad : Nat → Nat} {tb : List (Nat × Instr × Nat)} {lv : List (Nat × Value)}
def g_Pw_house_37 (I : Nat → Int32) (a1 : Int32) (a2 : Int32) (a3 : Int32) (a4 : Int32) (P : Int32 → ((Nat → Option Nat) × (List Nat) × (Nat → Nat) × (Nat → Nat → Int32)) → Prop)  (T : Nat → Option Nat) (L : List Nat) (K : Nat → Nat) (F : Nat → Nat → Int32) (s0 : Int32) : Prop := g_Pw_refusalToHang I T a1 s0 (fun r3 => ((0 ≤ r3 → (∀ q5 : Nat, (g_Ho_init_Ho (va_up F q5 (fun _ => 0)) q5 a2 a3 a4 (fun u8 => (g_Ne_hang T (L ++ [q5]) (va_up K q5 2) a1 q5 (fun r9 u10 => (P r9 (u10, L ++ [q5], va_up K q5 2, u8)))))))) ∧ (¬ 0 ≤ r3 → (P r3 (T, L, K, F)))))
set_option maxHeartbeats 4000000 in
set_option maxRecDepth 100000 in
theorem e_Pw_house_37 {I : Nat → Int32} {A : Nat → Nat → Int32} {a1 : Int32} {a2 : Int32} {a3 : Int32} {a4 : Int32} {P : Int32 → ((Nat → Option Nat) × (List Nat) × (Nat → Nat) × (Nat → Nat → Int32)) → Prop}  (C : CX D cy R_Pw c_Pw_house tb_Pw_house 7 p s m args c Z) (hret : RetI p l e { frames := 4, cells := 1, slots := 7, locals := 86 } s m args below meth c c_Pw_house .int D Z Q (fun (u : (Nat → Option Nat) × (List Nat) × (Nat → Nat) × (Nat → Nat → Int32)) => wC cy ad I A u.1 u.2.1 u.2.2.1 u.2.2.2) P 1 7) :
    ∀ (T : Nat → Option Nat) (L : List Nat) (K : Nat → Nat) (F : Nat → Nat → Int32) (s0 : Int32) (ls : Array Slot) (H : Heap) (locs : List Loc), lv_has ls 7 [(0, .ref (ad 0)), (1, .int a1), (2, .int a2), (3, .int a3), (4, .int a4)] → HXw D Z s.heap H locs (wC cy ad I A T L K F) → g_Pw_house_37 I a1 a2 a3 a4 P  T L K F s0 → W p l e { frames := 4, cells := 1, slots := 7, locals := 86 } s m args below meth c H locs 0 0 Q (F0 m 37 ls [.int s0]) := by
  intro T L K F s0 ls H locs hl h hw
  refine i_istore (lv' := [(5, .int s0), (0, .ref (ad 0)), (1, .int a1), (2, .int a2), (3, .int a3), (4, .int a4)]) (n := 39) C 18 rfl rfl hl (by decide) rfl (fun ls hl => ?_)
  refine i_aload_n (n := 40) C 19 rfl rfl rfl hl 1 rfl ?_
  refine i_iload_n (n := 41) C 20 rfl rfl rfl hl 2 rfl ?_
  refine i_iload (n := 43) C 21 rfl rfl hl 0 rfl ?_
  refine i_callVp (rest := []) (ci := 10) (qc := (R_Pw, T_Pw, 16)) (n := 46) C 22 rfl rfl hl h rfl (wC_get (h := 0) (by decide)) (kV_Pw_132 ⟨by decide, by decide⟩) (m_Pw_refusalToHang hw) rfl rfl (Nat.le_of_ble_eq_true rfl) ⟨by decide, by decide⟩ (fun r3 hw => ?_)
  refine i_istore (lv' := [(6, .int r3), (5, .int s0), (0, .ref (ad 0)), (1, .int a1), (2, .int a2), (3, .int a3), (4, .int a4)]) (n := 48) C 23 rfl rfl hl (by decide) rfl (fun ls hl => ?_)
  refine i_iload (n := 50) C 24 rfl rfl hl 0 rfl ?_
  refine i_if_ge (tgt := 58) (n := 53) C 25 rfl rfl rfl (fun c4 => ?_) (fun c4 => ?_)
  · replace hw := hw.1 c4
    refine i_aload_n (n := 59) C 28 rfl rfl rfl hl 2 rfl ?_
    refine fgC_Pw_10 (n := 62) C 29 rfl rfl h ?_
    refine i_iload_n (n := 63) C 30 rfl rfl rfl hl 3 rfl ?_
    refine nw_Pw_157 (n := 66) C 31 rfl rfl h (by decide) (by decide) (fun q5 H h => ?_)
    replace hw := hw q5
    have hq6 : q5 ∈ L ++ [q5] := List.mem_append_right _ List.mem_cons_self
    have hk7 : (va_up K q5 2) q5 = 2 := if_pos rfl
    refine i_dup (n := 67) C 32 rfl rfl rfl ?_
    refine i_iload_n (n := 68) C 33 rfl rfl rfl hl 4 rfl ?_
    refine i_iload_n (n := 69) C 34 rfl rfl rfl hl 5 rfl ?_
    refine i_iload (n := 71) C 35 rfl rfl hl 6 rfl ?_
    refine i_callIv (rest := [.ref q5, .int a1, .ref (ad 1)]) (n := 74) C 36 rfl rfl hl h (kI_Pw_159 ⟨by decide, by decide⟩) (m_Ho_init_Ho hq6 hk7 hw) rfl rfl (Nat.le_of_ble_eq_true rfl) ⟨by decide, by decide⟩ (fun u8 H locs hw h => ?_)
    refine i_callVi (rest := []) (ci := 5) (qc := (R_Ne, T_Ne, 17)) (n := 77) C 37 rfl rfl hl h rfl (wC_get (h := 1) (by decide)) (kV_Pw_141 ⟨by decide, by decide⟩) (m_Ne_hang hw) rfl rfl (Nat.le_of_ble_eq_true rfl) ⟨by decide, by decide⟩ (fun r9 u10 H locs hw h => ?_)
    exact hret _ (u10, L ++ [q5], va_up K q5 2, u8) _ _ _ _ rfl hw h (C.dg (k := 38) rfl)
  · replace hw := hw.2 c4
    refine i_iload (n := 55) C 26 rfl rfl hl 0 rfl ?_
    refine i_goto (tgt := 77) C 27 rfl rfl ?_
    refine W.widen (k := 1) (n := 7) (by decide) (by decide) ?_
    exact hret _ (T, L, K, F) _ _ _ _ rfl hw h (C.dg (k := 38) rfl)
def g_Pw_house_36 (I : Nat → Int32) (a1 : Int32) (a2 : Int32) (a3 : Int32) (a4 : Int32) (P : Int32 → ((Nat → Option Nat) × (List Nat) × (Nat → Nat) × (Nat → Nat → Int32)) → Prop)  (T : Nat → Option Nat) (L : List Nat) (K : Nat → Nat) (F : Nat → Nat → Int32) : Prop := g_Pw_house_37 I a1 a2 a3 a4 P  T L K F (0 : Int32)
set_option maxHeartbeats 4000000 in
set_option maxRecDepth 100000 in
theorem e_Pw_house_36 {I : Nat → Int32} {A : Nat → Nat → Int32} {a1 : Int32} {a2 : Int32} {a3 : Int32} {a4 : Int32} {P : Int32 → ((Nat → Option Nat) × (List Nat) × (Nat → Nat) × (Nat → Nat → Int32)) → Prop}  (C : CX D cy R_Pw c_Pw_house tb_Pw_house 7 p s m args c Z) (hret : RetI p l e { frames := 4, cells := 1, slots := 7, locals := 86 } s m args below meth c c_Pw_house .int D Z Q (fun (u : (Nat → Option Nat) × (List Nat) × (Nat → Nat) × (Nat → Nat → Int32)) => wC cy ad I A u.1 u.2.1 u.2.2.1 u.2.2.2) P 1 7) :
    ∀ (T : Nat → Option Nat) (L : List Nat) (K : Nat → Nat) (F : Nat → Nat → Int32) (ls : Array Slot) (H : Heap) (locs : List Loc), lv_has ls 7 [(0, .ref (ad 0)), (1, .int a1), (2, .int a2), (3, .int a3), (4, .int a4)] → HXw D Z s.heap H locs (wC cy ad I A T L K F) → g_Pw_house_36 I a1 a2 a3 a4 P  T L K F → W p l e { frames := 4, cells := 1, slots := 7, locals := 86 } s m args below meth c H locs 0 0 Q (F0 m 36 ls []) := by
  intro T L K F ls H locs hl h hw
  refine i_iconst (v := (0 : Int32)) (n := 37) C 17 rfl rfl rfl ?_
  exact e_Pw_house_37 C hret  T L K F (0 : Int32) ls _ _ hl h hw
def g_Pw_house (I : Nat → Int32) (T : Nat → Option Nat) (L : List Nat) (K : Nat → Nat) (F : Nat → Nat → Int32) (a1 : Int32) (a2 : Int32) (a3 : Int32) (a4 : Int32) (P : Int32 → ((Nat → Option Nat) × (List Nat) × (Nat → Nat) × (Nat → Nat → Int32)) → Prop) : Prop := g_Pw_isWithin a2 (0 : Int32) (5000 : Int32) (fun r1 => ((r1 = 0 → (g_Pw_house_36 I a1 a2 a3 a4 P  T L K F)) ∧ (¬ r1 = 0 → (g_Pw_isWithin a3 (0 : Int32) (120 : Int32) (fun r11 => ((r11 = 0 → (g_Pw_house_36 I a1 a2 a3 a4 P  T L K F)) ∧ (¬ r11 = 0 → (g_Pw_isWithin a4 (0 : Int32) (100 : Int32) (fun r13 => ((r13 = 0 → (g_Pw_house_36 I a1 a2 a3 a4 P  T L K F)) ∧ (¬ r13 = 0 → (g_Pw_house_37 I a1 a2 a3 a4 P  T L K F (1 : Int32)))))))))))))
set_option maxHeartbeats 4000000 in
set_option maxRecDepth 100000 in
theorem m_Pw_house {l : Launch} {D : va_G} {cy : Nat → ClassId} {ad : Nat → Nat} {I : Nat → Int32} {A : Nat → Nat → Int32} {T : Nat → Option Nat} {L : List Nat} {K : Nat → Nat} {F : Nat → Nat → Int32} {a1 : Int32} {a2 : Int32} {a3 : Int32} {a4 : Int32} {P : Int32 → ((Nat → Option Nat) × (List Nat) × (Nat → Nat) × (Nat → Nat → Int32)) → Prop} (hw : g_Pw_house I T L K F a1 a2 a3 a4 P) : ∀ sz, Met l y_Pw_house (WL y_Pw_house c_Pw_house 7 (some .int)) { frames := 4, cells := 1, slots := 7, locals := 86 } (va_Pc [.ref (ad 0), .int a1, .int a2, .int a3, .int a4] (PreW D cy (wC cy ad I A T L K F) sz)) (va_Qi P (fun u t => PostW D (va_A (wC cy ad I A T L K F) sz) ((fun (u : (Nat → Option Nat) × (List Nat) × (Nat → Nat) × (Nat → Nat → Int32)) => wC cy ad I A u.1 u.2.1 u.2.2.1 u.2.2.2) u) t) (va_A (wC cy ad I A T L K F) sz)) 1 7 (va_A (wC cy ad I A T L K F) sz) := by
  refine met_i (wf := fun (u : (Nat → Option Nat) × (List Nat) × (Nat → Nat) × (Nat → Nat → Int32)) => wC cy ad I A u.1 u.2.1 u.2.2.1 u.2.2.2) R_Pw .int db_Pw_house (by decide) rfl rfl (Nat.le_of_ble_eq_true rfl) ?_
  intro p e s m below meth c Z Q ls C h hl hret
  have hl : lv_has ls 7 [(0, .ref (ad 0)), (1, .int a1), (2, .int a2), (3, .int a3), (4, .int a4)] := hl
  refine i_iload_n (n := 1) C 0 rfl rfl rfl hl 2 rfl ?_
  refine i_iconst (v := (0 : Int32)) (n := 2) C 1 rfl rfl rfl ?_
  refine i_sipush (v := (5000 : Int32)) (n := 5) C 2 rfl rfl rfl ?_
  refine i_callSp (rest := []) (n := 8) C 3 rfl rfl hl h (kS_Pw_69 ⟨by decide, by decide⟩) (m_Pw_isWithin hw) rfl rfl (Nat.le_of_ble_eq_true rfl) ⟨by decide, by decide⟩ (fun r1 hw => ?_)
  refine i_if_eq (tgt := 36) (n := 11) C 4 rfl rfl rfl (fun c2 => ?_) (fun c2 => ?_)
  · replace hw := hw.1 c2
    exact e_Pw_house_36 C hret  T L K F ls _ _ hl h hw
  · replace hw := hw.2 c2
    refine i_iload_n (n := 12) C 5 rfl rfl rfl hl 3 rfl ?_
    refine i_iconst (v := (0 : Int32)) (n := 13) C 6 rfl rfl rfl ?_
    refine i_bipush (v := (120 : Int32)) (n := 15) C 7 rfl rfl rfl ?_
    refine i_callSp (rest := []) (n := 18) C 8 rfl rfl hl h (kS_Pw_69 ⟨by decide, by decide⟩) (m_Pw_isWithin hw) rfl rfl (Nat.le_of_ble_eq_true rfl) ⟨by decide, by decide⟩ (fun r11 hw => ?_)
    refine i_if_eq (tgt := 36) (n := 21) C 9 rfl rfl rfl (fun c12 => ?_) (fun c12 => ?_)
    · replace hw := hw.1 c12
      exact e_Pw_house_36 C hret  T L K F ls _ _ hl h hw
    · replace hw := hw.2 c12
      refine i_iload (n := 23) C 10 rfl rfl hl 4 rfl ?_
      refine i_iconst (v := (0 : Int32)) (n := 24) C 11 rfl rfl rfl ?_
      refine i_bipush (v := (100 : Int32)) (n := 26) C 12 rfl rfl rfl ?_
      refine i_callSp (rest := []) (n := 29) C 13 rfl rfl hl h (kS_Pw_69 ⟨by decide, by decide⟩) (m_Pw_isWithin hw) rfl rfl (Nat.le_of_ble_eq_true rfl) ⟨by decide, by decide⟩ (fun r13 hw => ?_)
      refine i_if_eq (tgt := 36) (n := 32) C 14 rfl rfl rfl (fun c14 => ?_) (fun c14 => ?_)
      · replace hw := hw.1 c14
        exact e_Pw_house_36 C hret  T L K F ls _ _ hl h hw
      · replace hw := hw.2 c14
        refine i_iconst (v := (1 : Int32)) (n := 33) C 15 rfl rfl rfl ?_
        refine i_goto (tgt := 37) C 16 rfl rfl ?_
        exact e_Pw_house_37 C hret  T L K F (1 : Int32) ls _ _ hl h hw
end S41
theorem kIN_Le_1 {R : Room} {s : State} {args : Array Value} (hR : 1 + 1 ≤ R.frames ∧ 8 + (1 + 11) + 20 ≤ R.locals) (ht : ∀ w ∈ GW, w.before args s = true) (hN : NX s) : va_CN R s args R_Le 1 y_Th_init R_Pw c_Th_init 1 none (WL y_Th_init c_Th_init 1 none) { frames := 1, cells := 0, slots := 0, locals := 20 } 0 0 0 ∧ y_Th_init.name = "<init>" ∧ (Cond.instanceMethod y_Th_init).before args s = true := ⟨va_cnB 0 ht (GW_in (GW_wl w_2_128)) rfl rfl rfl (hN.1 _ (by simp [nxW])) (ht _ w_1_8) (by decide +kernel) hR, rfl, ht _ w_2_127⟩
section S42
variable {p : Program} {l : Launch} {e : Env} {R : Room} {s : State} {m : MethodId} {args : Array Value} {below : List Frame} {meth : Method} {c : Code} {H : Heap} {locs : List Loc} {cells slots : Nat} {Q : State → Prop}
variable {cc : ByteArray} {pc n nL : Nat} {ls : Array Slot} {rest : List Value} {D : va_G} {cy : Nat → ClassId} {Z : Nat → Prop} {ad : Nat → Nat} {tb : List (Nat × Instr × Nat)} {lv : List (Nat × Value)}
def g_Le_init_Le (F : Nat → Nat → Int32) (b : Nat) (a1 : Int32) (a2 : Int32) (P : ((Nat → Nat → Int32)) → Prop) : Prop := g_Th_init  (fun u1 => (isB a2 ∧ (P (sF (sF F b 0 a1) b 1 a2))))
set_option maxHeartbeats 4000000 in
set_option maxRecDepth 100000 in
theorem m_Le_init_Le {l : Launch} {D : va_G} {cy : Nat → ClassId} {ad : Nat → Nat} {I : Nat → Int32} {A : Nat → Nat → Int32} {T : Nat → Option Nat} {L : List Nat} {K : Nat → Nat} {F : Nat → Nat → Int32} {b : Nat} {a1 : Int32} {a2 : Int32} {P : ((Nat → Nat → Int32)) → Prop} (hbq : b ∈ L) (hbk : K b = 3) (hw : g_Le_init_Le F b a1 a2 P) : ∀ sz, Met l y_Le_init (WL y_Le_init c_Le_init 3 none) { frames := 2, cells := 0, slots := 0, locals := 40 } (va_Pc [.ref b, .int a1, .int a2] (PreW D cy (wC cy ad I A T L K F) sz)) (va_Qv P (fun u t => PostW D (va_A (wC cy ad I A T L K F) sz) ((fun (u : (Nat → Nat → Int32)) => wC cy ad I A T L K u) u) t) (va_A (wC cy ad I A T L K F) sz)) 0 0 (va_A (wC cy ad I A T L K F) sz) := by
  refine met_v (wf := fun (u : (Nat → Nat → Int32)) => wC cy ad I A T L K u) R_Le db_Le_init (by decide) rfl (Nat.le_of_ble_eq_true rfl) ?_
  intro p e s m below meth c Z Q ls hin C h hl hret
  have hl : lv_has ls 3 [(0, .ref b), (1, .int a1), (2, .int a2)] := hl
  refine i_aload_n (n := 1) C 0 rfl rfl rfl hl 0 rfl ?_
  refine i_callINv (rest := []) (n := 4) C 1 rfl rfl hl h (kIN_Le_1 ⟨by decide, by decide⟩) (m_Th_init hw) rfl rfl (Nat.le_of_ble_eq_true rfl) ⟨by decide, by decide⟩ (fun u1 H locs hw h => ?_)
  refine i_aload_n (n := 5) C 2 rfl rfl rfl hl 0 rfl ?_
  refine i_iload_n (n := 6) C 3 rfl rfl rfl hl 1 rfl ?_
  refine tp_Le_7_Le (n := 9) C 4 rfl rfl h hbq hbk hin (fun H locs h => ?_)
  refine i_aload_n (n := 10) C 5 rfl rfl rfl hl 0 rfl ?_
  refine i_iload_n (n := 11) C 6 rfl rfl rfl hl 2 rfl ?_
  obtain ⟨hB, hw⟩ := hw
  refine tp_Le_13_Le (n := 14) C 7 rfl rfl h hbq hbk hin hB (fun H locs h => ?_)
  exact hret (sF (sF F b 0 a1) b 1 a2) _ _ _ _ hw h (C.dg (k := 8) rfl)
end S42
theorem kI_Pw_162 {R : Room} {s : State} {args : Array Value} (hR : 2 + 1 ≤ R.frames ∧ 8 + (3 + 11) + 40 ≤ R.locals) (ht : ∀ w ∈ GW, w.before args s = true) : CallB R s args R_Pw 162 y_Le_init c_Le_init 3 none (WL y_Le_init c_Le_init 3 none) { frames := 2, cells := 0, slots := 0, locals := 40 } 0 0 2 ∧ y_Le_init.name = "<init>" ∧ (Cond.instanceMethod y_Le_init).before args s = true := cwI 2 ht (GW_in (GW_wl w_3_3)) rfl rfl rfl (ht _ w_1_14) (ht _ w_3_1) (ht _ w_3_2) rfl (by decide +kernel) hR
section S43
variable {p : Program} {l : Launch} {e : Env} {R : Room} {s : State} {m : MethodId} {args : Array Value} {below : List Frame} {meth : Method} {c : Code} {H : Heap} {locs : List Loc} {cells slots : Nat} {Q : State → Prop}
variable {cc : ByteArray} {pc n nL : Nat} {ls : Array Slot} {rest : List Value} {D : va_G} {cy : Nat → ClassId} {Z : Nat → Prop} {ad : Nat → Nat} {tb : List (Nat × Instr × Nat)} {lv : List (Nat × Value)}
def g_Pw_leak (I : Nat → Int32) (T : Nat → Option Nat) (L : List Nat) (K : Nat → Nat) (F : Nat → Nat → Int32) (a1 : Int32) (a2 : Int32) (a3 : Int32) (P : Int32 → ((Nat → Option Nat) × (List Nat) × (Nat → Nat) × (Nat → Nat → Int32)) → Prop) : Prop := g_Pw_isWithin a2 (1 : Int32) (1000 : Int32) (fun r1 => (g_Pw_refusalToHang I T a1 r1 (fun r2 => ((0 ≤ r2 → (∀ q4 : Nat, (g_Le_init_Le (va_up F q4 (fun _ => 0)) q4 a2 a3 (fun u7 => (g_Ne_hang T (L ++ [q4]) (va_up K q4 3) a1 q4 (fun r8 u9 => (P r8 (u9, L ++ [q4], va_up K q4 3, u7)))))))) ∧ (¬ 0 ≤ r2 → (P r2 (T, L, K, F)))))))
set_option maxHeartbeats 4000000 in
set_option maxRecDepth 100000 in
theorem m_Pw_leak {l : Launch} {D : va_G} {cy : Nat → ClassId} {ad : Nat → Nat} {I : Nat → Int32} {A : Nat → Nat → Int32} {T : Nat → Option Nat} {L : List Nat} {K : Nat → Nat} {F : Nat → Nat → Int32} {a1 : Int32} {a2 : Int32} {a3 : Int32} {P : Int32 → ((Nat → Option Nat) × (List Nat) × (Nat → Nat) × (Nat → Nat → Int32)) → Prop} (hw : g_Pw_leak I T L K F a1 a2 a3 P) : ∀ sz, Met l y_Pw_leak (WL y_Pw_leak c_Pw_leak 5 (some .int)) { frames := 3, cells := 1, slots := 3, locals := 62 } (va_Pc [.ref (ad 0), .int a1, .int a2, .int a3] (PreW D cy (wC cy ad I A T L K F) sz)) (va_Qi P (fun u t => PostW D (va_A (wC cy ad I A T L K F) sz) ((fun (u : (Nat → Option Nat) × (List Nat) × (Nat → Nat) × (Nat → Nat → Int32)) => wC cy ad I A u.1 u.2.1 u.2.2.1 u.2.2.2) u) t) (va_A (wC cy ad I A T L K F) sz)) 1 3 (va_A (wC cy ad I A T L K F) sz) := by
  refine met_i (wf := fun (u : (Nat → Option Nat) × (List Nat) × (Nat → Nat) × (Nat → Nat → Int32)) => wC cy ad I A u.1 u.2.1 u.2.2.1 u.2.2.2) R_Pw .int db_Pw_leak (by decide) rfl rfl (Nat.le_of_ble_eq_true rfl) ?_
  intro p e s m below meth c Z Q ls C h hl hret
  have hl : lv_has ls 5 [(0, .ref (ad 0)), (1, .int a1), (2, .int a2), (3, .int a3)] := hl
  refine i_aload_n (n := 1) C 0 rfl rfl rfl hl 0 rfl ?_
  refine i_iload_n (n := 2) C 1 rfl rfl rfl hl 1 rfl ?_
  refine i_iload_n (n := 3) C 2 rfl rfl rfl hl 2 rfl ?_
  refine i_iconst (v := (1 : Int32)) (n := 4) C 3 rfl rfl rfl ?_
  refine i_sipush (v := (1000 : Int32)) (n := 7) C 4 rfl rfl rfl ?_
  refine i_callSp (rest := [.int a1, .ref (ad 0)]) (n := 10) C 5 rfl rfl hl h (kS_Pw_69 ⟨by decide, by decide⟩) (m_Pw_isWithin hw) rfl rfl (Nat.le_of_ble_eq_true rfl) ⟨by decide, by decide⟩ (fun r1 hw => ?_)
  refine i_callVp (rest := []) (ci := 10) (qc := (R_Pw, T_Pw, 16)) (n := 13) C 6 rfl rfl hl h rfl (wC_get (h := 0) (by decide)) (kV_Pw_132 ⟨by decide, by decide⟩) (m_Pw_refusalToHang hw) rfl rfl (Nat.le_of_ble_eq_true rfl) ⟨by decide, by decide⟩ (fun r2 hw => ?_)
  refine i_istore (lv' := [(4, .int r2), (0, .ref (ad 0)), (1, .int a1), (2, .int a2), (3, .int a3)]) (n := 15) C 7 rfl rfl hl (by decide) rfl (fun ls hl => ?_)
  refine i_iload (n := 17) C 8 rfl rfl hl 0 rfl ?_
  refine i_if_ge (tgt := 25) (n := 20) C 9 rfl rfl rfl (fun c3 => ?_) (fun c3 => ?_)
  · replace hw := hw.1 c3
    refine i_aload_n (n := 26) C 12 rfl rfl rfl hl 1 rfl ?_
    refine fgC_Pw_10 (n := 29) C 13 rfl rfl h ?_
    refine i_iload_n (n := 30) C 14 rfl rfl rfl hl 2 rfl ?_
    refine nw_Pw_160 (n := 33) C 15 rfl rfl h (by decide) (by decide) (fun q4 H h => ?_)
    replace hw := hw q4
    have hq5 : q4 ∈ L ++ [q4] := List.mem_append_right _ List.mem_cons_self
    have hk6 : (va_up K q4 3) q4 = 3 := if_pos rfl
    refine i_dup (n := 34) C 16 rfl rfl rfl ?_
    refine i_iload_n (n := 35) C 17 rfl rfl rfl hl 3 rfl ?_
    refine i_iload_n (n := 36) C 18 rfl rfl rfl hl 4 rfl ?_
    refine i_callIv (rest := [.ref q4, .int a1, .ref (ad 1)]) (n := 39) C 19 rfl rfl hl h (kI_Pw_162 ⟨by decide, by decide⟩) (m_Le_init_Le hq5 hk6 hw) rfl rfl (Nat.le_of_ble_eq_true rfl) ⟨by decide, by decide⟩ (fun u7 H locs hw h => ?_)
    refine i_callVi (rest := []) (ci := 5) (qc := (R_Ne, T_Ne, 17)) (n := 42) C 20 rfl rfl hl h rfl (wC_get (h := 1) (by decide)) (kV_Pw_141 ⟨by decide, by decide⟩) (m_Ne_hang hw) rfl rfl (Nat.le_of_ble_eq_true rfl) ⟨by decide, by decide⟩ (fun r8 u9 H locs hw h => ?_)
    exact hret _ (u9, L ++ [q4], va_up K q4 3, u7) _ _ _ _ rfl hw h (C.dg (k := 21) rfl)
  · replace hw := hw.2 c3
    refine i_iload (n := 22) C 10 rfl rfl hl 0 rfl ?_
    refine i_goto (tgt := 42) C 11 rfl rfl ?_
    refine W.widen (k := 1) (n := 3) (by decide) (by decide) ?_
    exact hret _ (T, L, K, F) _ _ _ _ rfl hw h (C.dg (k := 21) rfl)
end S43
section S44
variable {p : Program} {l : Launch} {e : Env} {R : Room} {s : State} {m : MethodId} {args : Array Value} {below : List Frame} {meth : Method} {c : Code} {H : Heap} {locs : List Loc} {cells slots : Nat} {Q : State → Prop}
variable {cc : ByteArray} {pc n nL : Nat} {ls : Array Slot} {rest : List Value} {D : va_G} {cy : Nat → ClassId} {Z : Nat → Prop} {ad : Nat → Nat} {tb : List (Nat × Instr × Nat)} {lv : List (Nat × Value)}
def g_Br_kind  (P : Int32 → Prop) : Prop := P (3 : Int32)
set_option maxHeartbeats 4000000 in
set_option maxRecDepth 100000 in
theorem m_Br_kind {l : Launch} {D : va_G} {cy : Nat → ClassId}    {b : Nat} {w : va_W} {P : Int32 → Prop} (hw : g_Br_kind  P) : ∀ sz, Met l y_Br_kind (WL y_Br_kind c_Br_kind 1 (some .int)) { frames := 0, cells := 0, slots := 0, locals := 0 } (va_Pc [.ref b] (PreW D cy (w) sz)) (vp_Si P) 0 0 (fun _ => False) := by
  refine met_p R_Br .int db_Br_kind (by decide) rfl rfl (Nat.le_of_ble_eq_true rfl) ?_
  intro p e s m below meth c Z Q ls C h hl hret
  have hl : lv_has ls 1 [(0, .ref b)] := hl
  refine i_iconst (v := (3 : Int32)) (n := 1) C 0 rfl rfl rfl ?_
  exact hret _ _ _ rfl hw (C.dg (k := 1) rfl)
end S44
section S45
variable {p : Program} {l : Launch} {e : Env} {R : Room} {s : State} {m : MethodId} {args : Array Value} {below : List Frame} {meth : Method} {c : Code} {H : Heap} {locs : List Loc} {cells slots : Nat} {Q : State → Prop}
variable {cc : ByteArray} {pc n nL : Nat} {ls : Array Slot} {rest : List Value} {D : va_G} {cy : Nat → ClassId} {Z : Nat → Prop} {ad : Nat → Nat} {tb : List (Nat × Instr × Nat)} {lv : List (Nat × Value)}
def g_Dr_kind  (P : Int32 → Prop) : Prop := P (1 : Int32)
set_option maxHeartbeats 4000000 in
set_option maxRecDepth 100000 in
theorem m_Dr_kind {l : Launch} {D : va_G} {cy : Nat → ClassId}    {b : Nat} {w : va_W} {P : Int32 → Prop} (hw : g_Dr_kind  P) : ∀ sz, Met l y_Dr_kind (WL y_Dr_kind c_Dr_kind 1 (some .int)) { frames := 0, cells := 0, slots := 0, locals := 0 } (va_Pc [.ref b] (PreW D cy (w) sz)) (vp_Si P) 0 0 (fun _ => False) := by
  refine met_p R_Dr .int db_Dr_kind (by decide) rfl rfl (Nat.le_of_ble_eq_true rfl) ?_
  intro p e s m below meth c Z Q ls C h hl hret
  have hl : lv_has ls 1 [(0, .ref b)] := hl
  refine i_iconst (v := (1 : Int32)) (n := 1) C 0 rfl rfl rfl ?_
  exact hret _ _ _ rfl hw (C.dg (k := 1) rfl)
end S45
section S46
variable {p : Program} {l : Launch} {e : Env} {R : Room} {s : State} {m : MethodId} {args : Array Value} {below : List Frame} {meth : Method} {c : Code} {H : Heap} {locs : List Loc} {cells slots : Nat} {Q : State → Prop}
variable {cc : ByteArray} {pc n nL : Nat} {ls : Array Slot} {rest : List Value} {D : va_G} {cy : Nat → ClassId} {Z : Nat → Prop} {ad : Nat → Nat} {tb : List (Nat × Instr × Nat)} {lv : List (Nat × Value)}
def g_Ho_kind  (P : Int32 → Prop) : Prop := P (5 : Int32)
set_option maxHeartbeats 4000000 in
set_option maxRecDepth 100000 in
theorem m_Ho_kind {l : Launch} {D : va_G} {cy : Nat → ClassId}    {b : Nat} {w : va_W} {P : Int32 → Prop} (hw : g_Ho_kind  P) : ∀ sz, Met l y_Ho_kind (WL y_Ho_kind c_Ho_kind 1 (some .int)) { frames := 0, cells := 0, slots := 0, locals := 0 } (va_Pc [.ref b] (PreW D cy (w) sz)) (vp_Si P) 0 0 (fun _ => False) := by
  refine met_p R_Ho .int db_Ho_kind (by decide) rfl rfl (Nat.le_of_ble_eq_true rfl) ?_
  intro p e s m below meth c Z Q ls C h hl hret
  have hl : lv_has ls 1 [(0, .ref b)] := hl
  refine i_iconst (v := (5 : Int32)) (n := 1) C 0 rfl rfl rfl ?_
  exact hret _ _ _ rfl hw (C.dg (k := 1) rfl)
end S46
section S47
variable {p : Program} {l : Launch} {e : Env} {R : Room} {s : State} {m : MethodId} {args : Array Value} {below : List Frame} {meth : Method} {c : Code} {H : Heap} {locs : List Loc} {cells slots : Nat} {Q : State → Prop}
variable {cc : ByteArray} {pc n nL : Nat} {ls : Array Slot} {rest : List Value} {D : va_G} {cy : Nat → ClassId} {Z : Nat → Prop} {ad : Nat → Nat} {tb : List (Nat × Instr × Nat)} {lv : List (Nat × Value)}
def g_Le_kind_Le (F : Nat → Nat → Int32) (b : Nat) (P : Int32 → Prop) : Prop := ((F b 1) = 0 → (P (6 : Int32))) ∧ (¬ (F b 1) = 0 → (P (7 : Int32)))
set_option maxHeartbeats 4000000 in
set_option maxRecDepth 100000 in
theorem m_Le_kind_Le {l : Launch} {D : va_G} {cy : Nat → ClassId} {ad : Nat → Nat} {I : Nat → Int32} {A : Nat → Nat → Int32} {T : Nat → Option Nat} {L : List Nat} {K : Nat → Nat} {F : Nat → Nat → Int32} {b : Nat} {P : Int32 → Prop} (hbq : b ∈ L) (hbk : K b = 3) (hw : g_Le_kind_Le F b P) : ∀ sz, Met l y_Le_kind (WL y_Le_kind c_Le_kind 1 (some .int)) { frames := 0, cells := 0, slots := 0, locals := 0 } (va_Pc [.ref b] (PreW D cy (wC cy ad I A T L K F) sz)) (vp_Si P) 0 0 (fun _ => False) := by
  refine met_p R_Le .int db_Le_kind (by decide) rfl rfl (Nat.le_of_ble_eq_true rfl) ?_
  intro p e s m below meth c Z Q ls C h hl hret
  have hl : lv_has ls 1 [(0, .ref b)] := hl
  refine i_aload_n (n := 1) C 0 rfl rfl rfl hl 0 rfl ?_
  refine tg_Le_13_Le (n := 4) C 1 rfl rfl h hbq hbk ?_
  refine i_if_eq (tgt := 12) (n := 7) C 2 rfl rfl rfl (fun c1 => ?_) (fun c1 => ?_)
  · replace hw := hw.1 c1
    refine i_bipush (v := (6 : Int32)) (n := 14) C 5 rfl rfl rfl ?_
    exact hret _ _ _ rfl hw (C.dg (k := 6) rfl)
  · replace hw := hw.2 c1
    refine i_bipush (v := (7 : Int32)) (n := 9) C 3 rfl rfl rfl ?_
    refine i_goto (tgt := 14) C 4 rfl rfl ?_
    exact hret _ _ _ rfl hw (C.dg (k := 6) rfl)
end S47
section S48
variable {p : Program} {l : Launch} {e : Env} {R : Room} {s : State} {m : MethodId} {args : Array Value} {below : List Frame} {meth : Method} {c : Code} {H : Heap} {locs : List Loc} {cells slots : Nat} {Q : State → Prop}
variable {cc : ByteArray} {pc n nL : Nat} {ls : Array Slot} {rest : List Value} {D : va_G} {cy : Nat → ClassId} {Z : Nat → Prop} {ad : Nat → Nat} {tb : List (Nat × Instr × Nat)} {lv : List (Nat × Value)}
def g_Li_kind  (P : Int32 → Prop) : Prop := P (2 : Int32)
set_option maxHeartbeats 4000000 in
set_option maxRecDepth 100000 in
theorem m_Li_kind {l : Launch} {D : va_G} {cy : Nat → ClassId}    {b : Nat} {w : va_W} {P : Int32 → Prop} (hw : g_Li_kind  P) : ∀ sz, Met l y_Li_kind (WL y_Li_kind c_Li_kind 1 (some .int)) { frames := 0, cells := 0, slots := 0, locals := 0 } (va_Pc [.ref b] (PreW D cy (w) sz)) (vp_Si P) 0 0 (fun _ => False) := by
  refine met_p R_Li .int db_Li_kind (by decide) rfl rfl (Nat.le_of_ble_eq_true rfl) ?_
  intro p e s m below meth c Z Q ls C h hl hret
  have hl : lv_has ls 1 [(0, .ref b)] := hl
  refine i_iconst (v := (2 : Int32)) (n := 1) C 0 rfl rfl rfl ?_
  exact hret _ _ _ rfl hw (C.dg (k := 1) rfl)
end S48
section S49
variable {p : Program} {l : Launch} {e : Env} {R : Room} {s : State} {m : MethodId} {args : Array Value} {below : List Frame} {meth : Method} {c : Code} {H : Heap} {locs : List Loc} {cells slots : Nat} {Q : State → Prop}
variable {cc : ByteArray} {pc n nL : Nat} {ls : Array Slot} {rest : List Value} {D : va_G} {cy : Nat → ClassId} {Z : Nat → Prop} {ad : Nat → Nat} {tb : List (Nat × Instr × Nat)} {lv : List (Nat × Value)}
def g_To_kind  (P : Int32 → Prop) : Prop := P (4 : Int32)
set_option maxHeartbeats 4000000 in
set_option maxRecDepth 100000 in
theorem m_To_kind {l : Launch} {D : va_G} {cy : Nat → ClassId}    {b : Nat} {w : va_W} {P : Int32 → Prop} (hw : g_To_kind  P) : ∀ sz, Met l y_To_kind (WL y_To_kind c_To_kind 1 (some .int)) { frames := 0, cells := 0, slots := 0, locals := 0 } (va_Pc [.ref b] (PreW D cy (w) sz)) (vp_Si P) 0 0 (fun _ => False) := by
  refine met_p R_To .int db_To_kind (by decide) rfl rfl (Nat.le_of_ble_eq_true rfl) ?_
  intro p e s m below meth c Z Q ls C h hl hret
  have hl : lv_has ls 1 [(0, .ref b)] := hl
  refine i_iconst (v := (4 : Int32)) (n := 1) C 0 rfl rfl rfl ?_
  exact hret _ _ _ rfl hw (C.dg (k := 1) rfl)
end S49
theorem kU_Ne_60_Br {R : Room} {s : State} {args : Array Value} (hR : 0 + 1 ≤ R.frames ∧ 8 + (1 + 11) + 0 ≤ R.locals) (ht : ∀ w ∈ GW, w.before args s = true) (hN : NX s) : va_CU R s args R_Ne R_Br "PipeWorks$Thing" 60 ⟨"PipeWorks$Thing", "kind", "()I"⟩ y_Br_kind c_Br_kind 1 (some .int) (WL y_Br_kind c_Br_kind 1 (some .int)) { frames := 0, cells := 0, slots := 0, locals := 0 } 0 0 0 := va_cwA (x := ⟨"PipeWorks$Thing", "kind", "()I"⟩) 0 ht (GW_u (x := ⟨"PipeWorks$Thing", "kind", "()I"⟩) w_3_25 w_3_27 w_3_28 w_3_29 w_1_11 (GW_wl w_3_30)) rfl rfl rfl (hN.1 _ (by simp [nxW])) (by decide +kernel) hR
theorem kU_Ne_60_Dr {R : Room} {s : State} {args : Array Value} (hR : 0 + 1 ≤ R.frames ∧ 8 + (1 + 11) + 0 ≤ R.locals) (ht : ∀ w ∈ GW, w.before args s = true) (hN : NX s) : va_CU R s args R_Ne R_Dr "PipeWorks$Thing" 60 ⟨"PipeWorks$Thing", "kind", "()I"⟩ y_Dr_kind c_Dr_kind 1 (some .int) (WL y_Dr_kind c_Dr_kind 1 (some .int)) { frames := 0, cells := 0, slots := 0, locals := 0 } 0 0 0 := va_cwA (x := ⟨"PipeWorks$Thing", "kind", "()I"⟩) 0 ht (GW_u (x := ⟨"PipeWorks$Thing", "kind", "()I"⟩) w_3_25 w_3_27 w_3_31 w_3_32 w_1_9 (GW_wl w_3_33)) rfl rfl rfl (hN.1 _ (by simp [nxW])) (by decide +kernel) hR
theorem kU_Ne_60_Ho {R : Room} {s : State} {args : Array Value} (hR : 0 + 1 ≤ R.frames ∧ 8 + (1 + 11) + 0 ≤ R.locals) (ht : ∀ w ∈ GW, w.before args s = true) (hN : NX s) : va_CU R s args R_Ne R_Ho "PipeWorks$Thing" 60 ⟨"PipeWorks$Thing", "kind", "()I"⟩ y_Ho_kind c_Ho_kind 1 (some .int) (WL y_Ho_kind c_Ho_kind 1 (some .int)) { frames := 0, cells := 0, slots := 0, locals := 0 } 0 0 0 := va_cwA (x := ⟨"PipeWorks$Thing", "kind", "()I"⟩) 0 ht (GW_u (x := ⟨"PipeWorks$Thing", "kind", "()I"⟩) w_3_25 w_3_27 w_3_34 w_3_35 w_1_13 (GW_wl w_3_36)) rfl rfl rfl (hN.1 _ (by simp [nxW])) (by decide +kernel) hR
theorem kU_Ne_60_Le {R : Room} {s : State} {args : Array Value} (hR : 0 + 1 ≤ R.frames ∧ 8 + (1 + 11) + 0 ≤ R.locals) (ht : ∀ w ∈ GW, w.before args s = true) (hN : NX s) : va_CU R s args R_Ne R_Le "PipeWorks$Thing" 60 ⟨"PipeWorks$Thing", "kind", "()I"⟩ y_Le_kind c_Le_kind 1 (some .int) (WL y_Le_kind c_Le_kind 1 (some .int)) { frames := 0, cells := 0, slots := 0, locals := 0 } 0 0 0 := va_cwA (x := ⟨"PipeWorks$Thing", "kind", "()I"⟩) 0 ht (GW_u (x := ⟨"PipeWorks$Thing", "kind", "()I"⟩) w_3_25 w_3_27 w_3_37 w_3_38 w_1_14 (GW_wl w_3_39)) rfl rfl rfl (hN.1 _ (by simp [nxW])) (by decide +kernel) hR
theorem kU_Ne_60_Li {R : Room} {s : State} {args : Array Value} (hR : 0 + 1 ≤ R.frames ∧ 8 + (1 + 11) + 0 ≤ R.locals) (ht : ∀ w ∈ GW, w.before args s = true) (hN : NX s) : va_CU R s args R_Ne R_Li "PipeWorks$Thing" 60 ⟨"PipeWorks$Thing", "kind", "()I"⟩ y_Li_kind c_Li_kind 1 (some .int) (WL y_Li_kind c_Li_kind 1 (some .int)) { frames := 0, cells := 0, slots := 0, locals := 0 } 0 0 0 := va_cwA (x := ⟨"PipeWorks$Thing", "kind", "()I"⟩) 0 ht (GW_u (x := ⟨"PipeWorks$Thing", "kind", "()I"⟩) w_3_25 w_3_27 w_3_40 w_3_41 w_1_10 (GW_wl w_3_42)) rfl rfl rfl (hN.1 _ (by simp [nxW])) (by decide +kernel) hR
theorem kU_Ne_60_To {R : Room} {s : State} {args : Array Value} (hR : 0 + 1 ≤ R.frames ∧ 8 + (1 + 11) + 0 ≤ R.locals) (ht : ∀ w ∈ GW, w.before args s = true) (hN : NX s) : va_CU R s args R_Ne R_To "PipeWorks$Thing" 60 ⟨"PipeWorks$Thing", "kind", "()I"⟩ y_To_kind c_To_kind 1 (some .int) (WL y_To_kind c_To_kind 1 (some .int)) { frames := 0, cells := 0, slots := 0, locals := 0 } 0 0 0 := va_cwA (x := ⟨"PipeWorks$Thing", "kind", "()I"⟩) 0 ht (GW_u (x := ⟨"PipeWorks$Thing", "kind", "()I"⟩) w_3_25 w_3_27 w_3_43 w_3_44 w_1_12 (GW_wl w_3_45)) rfl rfl rfl (hN.1 _ (by simp [nxW])) (by decide +kernel) hR
section S50
variable {p : Program} {l : Launch} {e : Env} {R : Room} {s : State} {m : MethodId} {args : Array Value} {below : List Frame} {meth : Method} {c : Code} {H : Heap} {locs : List Loc} {cells slots : Nat} {Q : State → Prop}
variable {cc : ByteArray} {pc n nL : Nat} {ls : Array Slot} {rest : List Value} {D : va_G} {cy : Nat → ClassId} {Z : Nat → Prop} {ad : Nat → Nat} {tb : List (Nat × Instr × Nat)} {lv : List (Nat × Value)}
section G50
variable {I : Nat → Int32} {A : Nat → Nat → Int32} {T : Nat → Option Nat} {L : List Nat} {K : Nat → Nat} {F : Nat → Nat → Int32}
def gd_kind (L : List Nat) (K : Nat → Nat) (F : Nat → Nat → Int32) (q : Nat)  (P : Int32 → Prop) : Prop := q ∈ L ∧ ((K q = 0 ∧ g_Br_kind  P) ∨ (K q = 1 ∧ g_Dr_kind  P) ∨ (K q = 2 ∧ g_Ho_kind  P) ∨ (K q = 3 ∧ g_Le_kind_Le F q P) ∨ (K q = 4 ∧ g_Li_kind  P) ∨ (K q = 9 ∧ g_To_kind  P))
set_option maxHeartbeats 4000000 in
set_option maxRecDepth 100000 in
theorem gdc_Ne_60 {q : Nat}  {P : Int32 → Prop} (C : CX D cy R_Ne cc tb nL p s m args c Z) (k : Nat) (hk : tb[k]? = some (pc, .invokevirtual 60, 3)) (hn : pc + 3 = n) (hl : lv_has ls nL lv) (h : HXw D Z s.heap H locs (wC cy ad I A T L K F)) (hw : gd_kind L K F q  P) (hfr : 1 ≤ R.frames) (hlo : 20 ≤ R.locals) (hs : (rest.map fun v => v.category).sum ≤ 8) (hc : cells ≤ R.cells ∧ slots ≤ R.slots) (kk : ∀ r : Int32, P r → W p l e R s m args below meth c H locs cells slots Q (F0 m n ls (.int r :: rest))) : W p l e R s m args below meth c H locs cells slots Q (F0 m pc ls (.ref q :: rest)) := by
  obtain ⟨hq, hw⟩ := hw
  rcases hw with ⟨hk0, hw⟩ | ⟨hk0, hw⟩ | ⟨hk0, hw⟩ | ⟨hk0, hw⟩ | ⟨hk0, hw⟩ | ⟨hk0, hw⟩
  · obtain ⟨q0, he, -⟩ := wC_th (cy := cy) (ad := ad) (I := I) (A := A) (T := T) (F := F) hq hk0
    exact i_callUp (rest := rest) (ci := 0) (qc := (R_Br, T_Br, 6)) C k hk hn hl h rfl he (kU_Ne_60_Br ⟨by omega, by omega⟩) (m_Br_kind hw) rfl rfl hs hc kk
  · obtain ⟨q0, he, -⟩ := wC_th (cy := cy) (ad := ad) (I := I) (A := A) (T := T) (F := F) hq hk0
    exact i_callUp (rest := rest) (ci := 1) (qc := (R_Dr, T_Dr, 3)) C k hk hn hl h rfl he (kU_Ne_60_Dr ⟨by omega, by omega⟩) (m_Dr_kind hw) rfl rfl hs hc kk
  · obtain ⟨q0, he, -⟩ := wC_th (cy := cy) (ad := ad) (I := I) (A := A) (T := T) (F := F) hq hk0
    exact i_callUp (rest := rest) (ci := 2) (qc := (R_Ho, T_Ho, 7)) C k hk hn hl h rfl he (kU_Ne_60_Ho ⟨by omega, by omega⟩) (m_Ho_kind hw) rfl rfl hs hc kk
  · obtain ⟨q0, he, -⟩ := wC_th (cy := cy) (ad := ad) (I := I) (A := A) (T := T) (F := F) hq hk0
    exact i_callUp (rest := rest) (ci := 3) (qc := (R_Le, T_Le, 3)) C k hk hn hl h rfl he (kU_Ne_60_Le ⟨by omega, by omega⟩) (m_Le_kind_Le hq hk0 hw) rfl rfl hs hc kk
  · obtain ⟨q0, he, -⟩ := wC_th (cy := cy) (ad := ad) (I := I) (A := A) (T := T) (F := F) hq hk0
    exact i_callUp (rest := rest) (ci := 4) (qc := (R_Li, T_Li, 4)) C k hk hn hl h rfl he (kU_Ne_60_Li ⟨by omega, by omega⟩) (m_Li_kind hw) rfl rfl hs hc kk
  · obtain ⟨q0, he, -⟩ := wC_th (cy := cy) (ad := ad) (I := I) (A := A) (T := T) (F := F) hq hk0
    exact i_callUp (rest := rest) (ci := 9) (qc := (R_To, T_To, 3)) C k hk hn hl h rfl he (kU_Ne_60_To ⟨by omega, by omega⟩) (m_To_kind hw) rfl rfl hs hc kk
end G50
def g_Ne_unhang (T : Nat → Option Nat) (L : List Nat) (K : Nat → Nat) (F : Nat → Nat → Int32) (a1 : Int32) (P : Int32 → ((Nat → Option Nat)) → Prop) : Prop := vp_in a1 12 ∧ ((T a1.toNatClampNeg = none → (P (-5 : Int32) T)) ∧ (∀ q1 : Nat, T a1.toNatClampNeg = some q1 → (vp_in a1 12 ∧ (gd_kind L K F q1 (fun r3 => (P r3 (va_up T a1.toNatClampNeg none)))))))
set_option maxHeartbeats 4000000 in
set_option maxRecDepth 100000 in
theorem m_Ne_unhang {l : Launch} {D : va_G} {cy : Nat → ClassId} {ad : Nat → Nat} {I : Nat → Int32} {A : Nat → Nat → Int32} {T : Nat → Option Nat} {L : List Nat} {K : Nat → Nat} {F : Nat → Nat → Int32} {a1 : Int32} {P : Int32 → ((Nat → Option Nat)) → Prop} (hw : g_Ne_unhang T L K F a1 P) : ∀ sz, Met l y_Ne_unhang (WL y_Ne_unhang c_Ne_unhang 3 (some .int)) { frames := 1, cells := 0, slots := 0, locals := 20 } (va_Pc [.ref (ad 1), .int a1] (PreW D cy (wC cy ad I A T L K F) sz)) (va_Qi P (fun u t => PostW D (va_A (wC cy ad I A T L K F) sz) ((fun (u : (Nat → Option Nat)) => wC cy ad I A u L K F) u) t) (va_A (wC cy ad I A T L K F) sz)) 0 0 (va_A (wC cy ad I A T L K F) sz) := by
  refine met_i (wf := fun (u : (Nat → Option Nat)) => wC cy ad I A u L K F) R_Ne .int db_Ne_unhang (by decide) rfl rfl (Nat.le_of_ble_eq_true rfl) ?_
  intro p e s m below meth c Z Q ls C h hl hret
  have hl : lv_has ls 3 [(0, .ref (ad 1)), (1, .int a1)] := hl
  refine i_aload_n (n := 1) C 0 rfl rfl rfl hl 0 rfl ?_
  refine fgC_Ne_30 (n := 4) C 1 rfl rfl h ?_
  refine i_iload_n (n := 5) C 2 rfl rfl rfl hl 1 rfl ?_
  obtain ⟨hb, hw⟩ := hw
  refine i_aldq (n := 6) C 3 rfl rfl h (wC_get (h := 5) (by decide)) hb (fun c2 => ?_) (fun q1 c2 => ?_)
  · replace hw := hw.1 c2
    refine i_astore_nN (lv' := [(2, .null), (0, .ref (ad 1)), (1, .int a1)]) (n := 7) C 4 rfl rfl rfl hl (by decide) rfl (fun ls hl => ?_)
    refine i_aload_nN (n := 8) C 5 rfl rfl rfl hl 0 rfl ?_
    refine i_ifnonnullN (n := 11) C 6 rfl rfl ?_
    refine i_bipush (v := (-5 : Int32)) (n := 13) C 7 rfl rfl rfl ?_
    exact hret _ T _ _ _ _ rfl hw h (C.dg (k := 8) rfl)
  · replace hw := hw.2 q1 c2
    refine i_astore_n (lv' := [(2, .ref q1), (0, .ref (ad 1)), (1, .int a1)]) (n := 7) C 4 rfl rfl rfl hl (by decide) rfl (fun ls hl => ?_)
    refine i_aload_n (n := 8) C 5 rfl rfl rfl hl 0 rfl ?_
    refine i_ifnonnull (tgt := 14) C 6 rfl rfl ?_
    refine i_aload_n (n := 15) C 9 rfl rfl rfl hl 1 rfl ?_
    refine fgC_Ne_30 (n := 18) C 10 rfl rfl h ?_
    refine i_iload_n (n := 19) C 11 rfl rfl rfl hl 2 rfl ?_
    refine i_null (n := 20) C 12 rfl rfl ?_
    obtain ⟨hb, hw⟩ := hw
    refine i_astN (n := 21) C 13 rfl rfl h hb (fun H locs h => ?_)
    refine i_aload_n (n := 22) C 14 rfl rfl rfl hl 0 rfl ?_
    refine gdc_Ne_60 (rest := []) (n := 25) C 15 rfl rfl hl h hw (by decide) (by decide) (Nat.le_of_ble_eq_true rfl) ⟨by decide, by decide⟩ (fun r3 hw => ?_)
    exact hret _ (va_up T a1.toNatClampNeg none) _ _ _ _ rfl hw h (C.dg (k := 16) rfl)
end S50
theorem kV_Pw_165 {R : Room} {s : State} {args : Array Value} (hR : 1 + 1 ≤ R.frames ∧ 8 + (3 + 11) + 20 ≤ R.locals) (ht : ∀ w ∈ GW, w.before args s = true) : CallW R s args R_Pw R_Ne 165 y_Ne_unhang c_Ne_unhang 3 (some .int) (WL y_Ne_unhang c_Ne_unhang 3 (some .int)) { frames := 1, cells := 0, slots := 0, locals := 20 } 0 0 1 := cwV 1 ht (GW_v w_3_21 w_3_22 w_3_23 w_1_2 (GW_wl w_3_24)) rfl rfl rfl (by decide +kernel) hR
section S51
variable {p : Program} {l : Launch} {e : Env} {R : Room} {s : State} {m : MethodId} {args : Array Value} {below : List Frame} {meth : Method} {c : Code} {H : Heap} {locs : List Loc} {cells slots : Nat} {Q : State → Prop}
variable {cc : ByteArray} {pc n nL : Nat} {ls : Array Slot} {rest : List Value} {D : va_G} {cy : Nat → ClassId} {Z : Nat → Prop} {ad : Nat → Nat} {tb : List (Nat × Instr × Nat)} {lv : List (Nat × Value)}
def g_Pw_clear (I : Nat → Int32) (T : Nat → Option Nat) (L : List Nat) (K : Nat → Nat) (F : Nat → Nat → Int32) (a1 : Int32) (P : Int32 → ((Nat → Option Nat)) → Prop) : Prop := g_Ne_has I a1 (fun r1 => ((r1 = 0 → (P (-1 : Int32) T)) ∧ (¬ r1 = 0 → (g_Ne_unhang T L K F a1 (fun r3 u4 => (P r3 u4))))))
set_option maxHeartbeats 4000000 in
set_option maxRecDepth 100000 in
theorem m_Pw_clear {l : Launch} {D : va_G} {cy : Nat → ClassId} {ad : Nat → Nat} {I : Nat → Int32} {A : Nat → Nat → Int32} {T : Nat → Option Nat} {L : List Nat} {K : Nat → Nat} {F : Nat → Nat → Int32} {a1 : Int32} {P : Int32 → ((Nat → Option Nat)) → Prop} (hw : g_Pw_clear I T L K F a1 P) : ∀ sz, Met l y_Pw_clear (WL y_Pw_clear c_Pw_clear 2 (some .int)) { frames := 2, cells := 0, slots := 0, locals := 42 } (va_Pc [.ref (ad 0), .int a1] (PreW D cy (wC cy ad I A T L K F) sz)) (va_Qi P (fun u t => PostW D (va_A (wC cy ad I A T L K F) sz) ((fun (u : (Nat → Option Nat)) => wC cy ad I A u L K F) u) t) (va_A (wC cy ad I A T L K F) sz)) 0 0 (va_A (wC cy ad I A T L K F) sz) := by
  refine met_i (wf := fun (u : (Nat → Option Nat)) => wC cy ad I A u L K F) R_Pw .int db_Pw_clear (by decide) rfl rfl (Nat.le_of_ble_eq_true rfl) ?_
  intro p e s m below meth c Z Q ls C h hl hret
  have hl : lv_has ls 2 [(0, .ref (ad 0)), (1, .int a1)] := hl
  refine i_aload_n (n := 1) C 0 rfl rfl rfl hl 0 rfl ?_
  refine fgC_Pw_10 (n := 4) C 1 rfl rfl h ?_
  refine i_iload_n (n := 5) C 2 rfl rfl rfl hl 1 rfl ?_
  refine i_callVp (rest := []) (ci := 5) (qc := (R_Ne, T_Ne, 17)) (n := 8) C 3 rfl rfl hl h rfl (wC_get (h := 1) (by decide)) (kV_Pw_77 ⟨by decide, by decide⟩) (m_Ne_has hw) rfl rfl (Nat.le_of_ble_eq_true rfl) ⟨by decide, by decide⟩ (fun r1 hw => ?_)
  refine i_if_eq (tgt := 22) (n := 11) C 4 rfl rfl rfl (fun c2 => ?_) (fun c2 => ?_)
  · replace hw := hw.1 c2
    refine i_iconst (v := (-1 : Int32)) (n := 23) C 10 rfl rfl rfl ?_
    exact hret _ T _ _ _ _ rfl hw h (C.dg (k := 11) rfl)
  · replace hw := hw.2 c2
    refine i_aload_n (n := 12) C 5 rfl rfl rfl hl 0 rfl ?_
    refine fgC_Pw_10 (n := 15) C 6 rfl rfl h ?_
    refine i_iload_n (n := 16) C 7 rfl rfl rfl hl 1 rfl ?_
    refine i_callVi (rest := []) (ci := 5) (qc := (R_Ne, T_Ne, 17)) (n := 19) C 8 rfl rfl hl h rfl (wC_get (h := 1) (by decide)) (kV_Pw_165 ⟨by decide, by decide⟩) (m_Ne_unhang hw) rfl rfl (Nat.le_of_ble_eq_true rfl) ⟨by decide, by decide⟩ (fun r3 u4 H locs hw h => ?_)
    refine i_goto (tgt := 23) C 9 rfl rfl ?_
    exact hret _ u4 _ _ _ _ rfl hw h (C.dg (k := 11) rfl)
end S51
section S52
variable {p : Program} {l : Launch} {e : Env} {R : Room} {s : State} {m : MethodId} {args : Array Value} {below : List Frame} {meth : Method} {c : Code} {H : Heap} {locs : List Loc} {cells slots : Nat} {Q : State → Prop}
variable {cc : ByteArray} {pc n nL : Nat} {ls : Array Slot} {rest : List Value} {D : va_G} {cy : Nat → ClassId} {Z : Nat → Prop} {ad : Nat → Nat} {tb : List (Nat × Instr × Nat)} {lv : List (Nat × Value)}
def g_Ne_pressAt (A : Nat → Nat → Int32) (a1 : Int32) (P : Int32 → Prop) : Prop := vp_in a1 12 ∧ (vp_in a1 12 ∧ (P ((A 9 a1.toNatClampNeg) - ((10 : Int32) * (A 7 a1.toNatClampNeg)))))
set_option maxHeartbeats 4000000 in
set_option maxRecDepth 100000 in
theorem m_Ne_pressAt {l : Launch} {D : va_G} {cy : Nat → ClassId} {ad : Nat → Nat} {I : Nat → Int32} {A : Nat → Nat → Int32} {T : Nat → Option Nat} {L : List Nat} {K : Nat → Nat} {F : Nat → Nat → Int32} {a1 : Int32} {P : Int32 → Prop} (hw : g_Ne_pressAt A a1 P) : ∀ sz, Met l y_Ne_pressAt (WL y_Ne_pressAt c_Ne_pressAt 2 (some .int)) { frames := 0, cells := 0, slots := 0, locals := 0 } (va_Pc [.ref (ad 1), .int a1] (PreW D cy (wC cy ad I A T L K F) sz)) (vp_Si P) 0 0 (fun _ => False) := by
  refine met_p R_Ne .int db_Ne_pressAt (by decide) rfl rfl (Nat.le_of_ble_eq_true rfl) ?_
  intro p e s m below meth c Z Q ls C h hl hret
  have hl : lv_has ls 2 [(0, .ref (ad 1)), (1, .int a1)] := hl
  refine i_aload_n (n := 1) C 0 rfl rfl rfl hl 0 rfl ?_
  refine fgC_Ne_25 (n := 4) C 1 rfl rfl h ?_
  refine i_iload_n (n := 5) C 2 rfl rfl rfl hl 1 rfl ?_
  obtain ⟨hb, hw⟩ := hw
  refine i_iald (n := 6) C 3 rfl rfl h (wC_arr 9 (by decide) rfl) hb ?_
  refine i_bipush (v := (10 : Int32)) (n := 8) C 4 rfl rfl rfl ?_
  refine i_aload_n (n := 9) C 5 rfl rfl rfl hl 0 rfl ?_
  refine fgC_Ne_18 (n := 12) C 6 rfl rfl h ?_
  refine i_iload_n (n := 13) C 7 rfl rfl rfl hl 1 rfl ?_
  obtain ⟨hb, hw⟩ := hw
  refine i_iald (n := 14) C 8 rfl rfl h (wC_arr 7 (by decide) rfl) hb ?_
  refine i_imul (n := 15) C 9 rfl rfl ?_
  refine i_isub (n := 16) C 10 rfl rfl ?_
  exact hret _ _ _ rfl hw (C.dg (k := 11) rfl)
end S52
section S53
variable {p : Program} {l : Launch} {e : Env} {R : Room} {s : State} {m : MethodId} {args : Array Value} {below : List Frame} {meth : Method} {c : Code} {H : Heap} {locs : List Loc} {cells slots : Nat} {Q : State → Prop}
variable {cc : ByteArray} {pc n nL : Nat} {ls : Array Slot} {rest : List Value} {D : va_G} {cy : Nat → ClassId} {Z : Nat → Prop} {ad : Nat → Nat} {tb : List (Nat × Instr × Nat)} {lv : List (Nat × Value)}
def g_Br_takesIn_Br (F : Nat → Nat → Int32) (b : Nat) (a1 : Int32) (P : Int32 → Prop) : Prop := ¬ (F b 3) = 0 ∧ (((F b 5) ≤ ((a1 + (F b 4)) - (a1 + (F b 4)) / (F b 3) * (F b 3)) → (P (0 : Int32))) ∧ (¬ (F b 5) ≤ ((a1 + (F b 4)) - (a1 + (F b 4)) / (F b 3) * (F b 3)) → (P (F b 0))))
set_option maxHeartbeats 4000000 in
set_option maxRecDepth 100000 in
theorem m_Br_takesIn_Br {l : Launch} {D : va_G} {cy : Nat → ClassId} {ad : Nat → Nat} {I : Nat → Int32} {A : Nat → Nat → Int32} {T : Nat → Option Nat} {L : List Nat} {K : Nat → Nat} {F : Nat → Nat → Int32} {b : Nat} {a1 : Int32} {P : Int32 → Prop} (hbq : b ∈ L) (hbk : K b = 0) (hw : g_Br_takesIn_Br F b a1 P) : ∀ sz, Met l y_Br_takesIn (WL y_Br_takesIn c_Br_takesIn 2 (some .int)) { frames := 0, cells := 0, slots := 0, locals := 0 } (va_Pc [.ref b, .int a1] (PreW D cy (wC cy ad I A T L K F) sz)) (vp_Si P) 0 0 (fun _ => False) := by
  refine met_p R_Br .int db_Br_takesIn (by decide) rfl rfl (Nat.le_of_ble_eq_true rfl) ?_
  intro p e s m below meth c Z Q ls C h hl hret
  have hl : lv_has ls 2 [(0, .ref b), (1, .int a1)] := hl
  refine i_iload_n (n := 1) C 0 rfl rfl rfl hl 1 rfl ?_
  refine i_aload_n (n := 2) C 1 rfl rfl rfl hl 0 rfl ?_
  refine tg_Br_15_Br (n := 5) C 2 rfl rfl h hbq hbk ?_
  refine i_iadd (n := 6) C 3 rfl rfl ?_
  refine i_aload_n (n := 7) C 4 rfl rfl rfl hl 0 rfl ?_
  refine tg_Br_9_Br (n := 10) C 5 rfl rfl h hbq hbk ?_
  obtain ⟨hd, hw⟩ := hw
  refine i_irem (n := 11) C 6 rfl rfl hd ?_
  refine i_aload_n (n := 12) C 7 rfl rfl rfl hl 0 rfl ?_
  refine tg_Br_18_Br (n := 15) C 8 rfl rfl h hbq hbk ?_
  refine i_icmp_ge (tgt := 25) (n := 18) C 9 rfl rfl rfl (fun c1 => ?_) (fun c1 => ?_)
  · replace hw := hw.1 c1
    refine i_iconst (v := (0 : Int32)) (n := 26) C 13 rfl rfl rfl ?_
    exact hret _ _ _ rfl hw (C.dg (k := 14) rfl)
  · replace hw := hw.2 c1
    refine i_aload_n (n := 19) C 10 rfl rfl rfl hl 0 rfl ?_
    refine tg_Br_21_Br (n := 22) C 11 rfl rfl h hbq hbk ?_
    refine i_goto (tgt := 26) C 12 rfl rfl ?_
    exact hret _ _ _ rfl hw (C.dg (k := 14) rfl)
end S53
theorem kU_Dr_21_Br {R : Room} {s : State} {args : Array Value} (hR : 0 + 1 ≤ R.frames ∧ 8 + (2 + 11) + 0 ≤ R.locals) (ht : ∀ w ∈ GW, w.before args s = true) (hN : NX s) : va_CU R s args R_Dr R_Br "PipeWorks$Draw" 21 ⟨"PipeWorks$Draw", "takesIn", "(I)I"⟩ y_Br_takesIn c_Br_takesIn 2 (some .int) (WL y_Br_takesIn c_Br_takesIn 2 (some .int)) { frames := 0, cells := 0, slots := 0, locals := 0 } 0 0 1 := va_cwO (x := ⟨"PipeWorks$Draw", "takesIn", "(I)I"⟩) 1 ht (GW_o (x := ⟨"PipeWorks$Draw", "takesIn", "(I)I"⟩) w_3_65 w_3_68 w_3_66 w_3_69 w_3_70 w_1_11 (GW_wl w_3_71)) rfl rfl rfl w_3_75 (by decide +kernel) hR
section S54
variable {p : Program} {l : Launch} {e : Env} {R : Room} {s : State} {m : MethodId} {args : Array Value} {below : List Frame} {meth : Method} {c : Code} {H : Heap} {locs : List Loc} {cells slots : Nat} {Q : State → Prop}
variable {cc : ByteArray} {pc n nL : Nat} {ls : Array Slot} {rest : List Value} {D : va_G} {cy : Nat → ClassId} {Z : Nat → Prop} {ad : Nat → Nat} {tb : List (Nat × Instr × Nat)} {lv : List (Nat × Value)}
def g_Dr_takes_Br (F : Nat → Nat → Int32) (b : Nat) (a1 : Int32) (a2 : Int32) (P : Int32 → Prop) : Prop := ∀ y1 : Int32, y1 = (a1 / (4 : Int32)) → (((y1 - y1 / (1440 : Int32) * (1440 : Int32)) < (F b 1) → (P (0 : Int32))) ∧ (¬ (y1 - y1 / (1440 : Int32) * (1440 : Int32)) < (F b 1) → (((F b 2) ≤ (y1 - y1 / (1440 : Int32) * (1440 : Int32)) → (P (0 : Int32))) ∧ (¬ (F b 2) ≤ (y1 - y1 / (1440 : Int32) * (1440 : Int32)) → (g_Br_takesIn_Br F b y1 (fun r6 => (P r6)))))))
set_option maxHeartbeats 4000000 in
set_option maxRecDepth 100000 in
theorem m_Dr_takes_Br {l : Launch} {D : va_G} {cy : Nat → ClassId} {ad : Nat → Nat} {I : Nat → Int32} {A : Nat → Nat → Int32} {T : Nat → Option Nat} {L : List Nat} {K : Nat → Nat} {F : Nat → Nat → Int32} {b : Nat} {a1 : Int32} {a2 : Int32} {P : Int32 → Prop} (hbq : b ∈ L) (hbk : K b = 0) (hw : g_Dr_takes_Br F b a1 a2 P) : ∀ sz, Met l y_Dr_takes (WL y_Dr_takes c_Dr_takes 4 (some .int)) { frames := 1, cells := 0, slots := 0, locals := 21 } (va_Pc [.ref b, .int a1, .int a2] (PreW D cy (wC cy ad I A T L K F) sz)) (vp_Si P) 0 0 (fun _ => False) := by
  refine met_p R_Dr .int db_Dr_takes (by decide) rfl rfl (Nat.le_of_ble_eq_true rfl) ?_
  intro p e s m below meth c Z Q ls C h hl hret
  have hl : lv_has ls 4 [(0, .ref b), (1, .int a1), (2, .int a2)] := hl
  refine i_iload_n (n := 1) C 0 rfl rfl rfl hl 1 rfl ?_
  refine i_iconst (v := (4 : Int32)) (n := 2) C 1 rfl rfl rfl ?_
  refine i_idiv (n := 3) C 2 rfl rfl (by decide) ?_
  refine lv_topi (fun y1 ey1 => ?_)
  replace hw := hw y1 ey1
  refine i_istore_n (lv' := [(3, .int y1), (0, .ref b), (1, .int a1), (2, .int a2)]) (n := 4) C 3 rfl rfl rfl hl (by decide) rfl (fun ls hl => ?_)
  refine i_iload_n (n := 5) C 4 rfl rfl rfl hl 0 rfl ?_
  refine i_sipush (v := (1440 : Int32)) (n := 8) C 5 rfl rfl rfl ?_
  refine i_irem (n := 9) C 6 rfl rfl (by decide) ?_
  refine i_aload_n (n := 10) C 7 rfl rfl rfl hl 1 rfl ?_
  refine tg_Dr_15_Br (n := 13) C 8 rfl rfl h hbq hbk ?_
  refine i_icmp_lt (tgt := 36) (n := 16) C 9 rfl rfl rfl (fun c2 => ?_) (fun c2 => ?_)
  · replace hw := hw.1 c2
    refine i_iconst (v := (0 : Int32)) (n := 37) C 20 rfl rfl rfl ?_
    exact hret _ _ _ rfl hw (C.dg (k := 21) rfl)
  · replace hw := hw.2 c2
    refine i_iload_n (n := 17) C 10 rfl rfl rfl hl 0 rfl ?_
    refine i_sipush (v := (1440 : Int32)) (n := 20) C 11 rfl rfl rfl ?_
    refine i_irem (n := 21) C 12 rfl rfl (by decide) ?_
    refine i_aload_n (n := 22) C 13 rfl rfl rfl hl 1 rfl ?_
    refine tg_Dr_18_Br (n := 25) C 14 rfl rfl h hbq hbk ?_
    refine i_icmp_ge (tgt := 36) (n := 28) C 15 rfl rfl rfl (fun c3 => ?_) (fun c3 => ?_)
    · replace hw := hw.1 c3
      refine i_iconst (v := (0 : Int32)) (n := 37) C 20 rfl rfl rfl ?_
      exact hret _ _ _ rfl hw (C.dg (k := 21) rfl)
    · replace hw := hw.2 c3
      refine i_aload_n (n := 29) C 16 rfl rfl rfl hl 1 rfl ?_
      refine i_iload_n (n := 30) C 17 rfl rfl rfl hl 0 rfl ?_
      obtain ⟨q04, he5, -⟩ := wC_th (cy := cy) (ad := ad) (I := I) (A := A) (T := T) (F := F) hbq hbk
      refine i_callUp (rest := []) (ci := 0) (qc := (R_Br, T_Br, 6)) (n := 33) C 18 rfl rfl hl h rfl he5 (kU_Dr_21_Br ⟨by decide, by decide⟩) (m_Br_takesIn_Br hbq hbk hw) rfl rfl (Nat.le_of_ble_eq_true rfl) ⟨by decide, by decide⟩ (fun r6 hw => ?_)
      refine i_goto (tgt := 37) C 19 rfl rfl ?_
      exact hret _ _ _ rfl hw (C.dg (k := 21) rfl)
end S54
section S55
variable {p : Program} {l : Launch} {e : Env} {R : Room} {s : State} {m : MethodId} {args : Array Value} {below : List Frame} {meth : Method} {c : Code} {H : Heap} {locs : List Loc} {cells slots : Nat} {Q : State → Prop}
variable {cc : ByteArray} {pc n nL : Nat} {ls : Array Slot} {rest : List Value} {D : va_G} {cy : Nat → ClassId} {Z : Nat → Prop} {ad : Nat → Nat} {tb : List (Nat × Instr × Nat)} {lv : List (Nat × Value)}
def g_Dr_takesIn_Dr (F : Nat → Nat → Int32) (b : Nat) (a1 : Int32) (P : Int32 → Prop) : Prop := P (F b 0)
set_option maxHeartbeats 4000000 in
set_option maxRecDepth 100000 in
theorem m_Dr_takesIn_Dr {l : Launch} {D : va_G} {cy : Nat → ClassId} {ad : Nat → Nat} {I : Nat → Int32} {A : Nat → Nat → Int32} {T : Nat → Option Nat} {L : List Nat} {K : Nat → Nat} {F : Nat → Nat → Int32} {b : Nat} {a1 : Int32} {P : Int32 → Prop} (hbq : b ∈ L) (hbk : K b = 1) (hw : g_Dr_takesIn_Dr F b a1 P) : ∀ sz, Met l y_Dr_takesIn (WL y_Dr_takesIn c_Dr_takesIn 2 (some .int)) { frames := 0, cells := 0, slots := 0, locals := 0 } (va_Pc [.ref b, .int a1] (PreW D cy (wC cy ad I A T L K F) sz)) (vp_Si P) 0 0 (fun _ => False) := by
  refine met_p R_Dr .int db_Dr_takesIn (by decide) rfl rfl (Nat.le_of_ble_eq_true rfl) ?_
  intro p e s m below meth c Z Q ls C h hl hret
  have hl : lv_has ls 2 [(0, .ref b), (1, .int a1)] := hl
  refine i_aload_n (n := 1) C 0 rfl rfl rfl hl 0 rfl ?_
  refine tg_Dr_9_Dr (n := 4) C 1 rfl rfl h hbq hbk ?_
  exact hret _ _ _ rfl hw (C.dg (k := 2) rfl)
end S55
theorem kV_Dr_21_Dr {R : Room} {s : State} {args : Array Value} (hR : 0 + 1 ≤ R.frames ∧ 8 + (2 + 11) + 0 ≤ R.locals) (ht : ∀ w ∈ GW, w.before args s = true) : CallW R s args R_Dr R_Dr 21 y_Dr_takesIn c_Dr_takesIn 2 (some .int) (WL y_Dr_takesIn c_Dr_takesIn 2 (some .int)) { frames := 0, cells := 0, slots := 0, locals := 0 } 0 0 1 := cwV 1 ht (GW_v w_3_65 w_3_66 w_3_67 w_1_9 (GW_wl w_3_75)) rfl rfl rfl (by decide +kernel) hR
section S56
variable {p : Program} {l : Launch} {e : Env} {R : Room} {s : State} {m : MethodId} {args : Array Value} {below : List Frame} {meth : Method} {c : Code} {H : Heap} {locs : List Loc} {cells slots : Nat} {Q : State → Prop}
variable {cc : ByteArray} {pc n nL : Nat} {ls : Array Slot} {rest : List Value} {D : va_G} {cy : Nat → ClassId} {Z : Nat → Prop} {ad : Nat → Nat} {tb : List (Nat × Instr × Nat)} {lv : List (Nat × Value)}
def g_Dr_takes_Dr (F : Nat → Nat → Int32) (b : Nat) (a1 : Int32) (a2 : Int32) (P : Int32 → Prop) : Prop := ∀ y1 : Int32, y1 = (a1 / (4 : Int32)) → (((y1 - y1 / (1440 : Int32) * (1440 : Int32)) < (F b 1) → (P (0 : Int32))) ∧ (¬ (y1 - y1 / (1440 : Int32) * (1440 : Int32)) < (F b 1) → (((F b 2) ≤ (y1 - y1 / (1440 : Int32) * (1440 : Int32)) → (P (0 : Int32))) ∧ (¬ (F b 2) ≤ (y1 - y1 / (1440 : Int32) * (1440 : Int32)) → (g_Dr_takesIn_Dr F b y1 (fun r6 => (P r6)))))))
set_option maxHeartbeats 4000000 in
set_option maxRecDepth 100000 in
theorem m_Dr_takes_Dr {l : Launch} {D : va_G} {cy : Nat → ClassId} {ad : Nat → Nat} {I : Nat → Int32} {A : Nat → Nat → Int32} {T : Nat → Option Nat} {L : List Nat} {K : Nat → Nat} {F : Nat → Nat → Int32} {b : Nat} {a1 : Int32} {a2 : Int32} {P : Int32 → Prop} (hbq : b ∈ L) (hbk : K b = 1) (hw : g_Dr_takes_Dr F b a1 a2 P) : ∀ sz, Met l y_Dr_takes (WL y_Dr_takes c_Dr_takes 4 (some .int)) { frames := 1, cells := 0, slots := 0, locals := 21 } (va_Pc [.ref b, .int a1, .int a2] (PreW D cy (wC cy ad I A T L K F) sz)) (vp_Si P) 0 0 (fun _ => False) := by
  refine met_p R_Dr .int db_Dr_takes (by decide) rfl rfl (Nat.le_of_ble_eq_true rfl) ?_
  intro p e s m below meth c Z Q ls C h hl hret
  have hl : lv_has ls 4 [(0, .ref b), (1, .int a1), (2, .int a2)] := hl
  refine i_iload_n (n := 1) C 0 rfl rfl rfl hl 1 rfl ?_
  refine i_iconst (v := (4 : Int32)) (n := 2) C 1 rfl rfl rfl ?_
  refine i_idiv (n := 3) C 2 rfl rfl (by decide) ?_
  refine lv_topi (fun y1 ey1 => ?_)
  replace hw := hw y1 ey1
  refine i_istore_n (lv' := [(3, .int y1), (0, .ref b), (1, .int a1), (2, .int a2)]) (n := 4) C 3 rfl rfl rfl hl (by decide) rfl (fun ls hl => ?_)
  refine i_iload_n (n := 5) C 4 rfl rfl rfl hl 0 rfl ?_
  refine i_sipush (v := (1440 : Int32)) (n := 8) C 5 rfl rfl rfl ?_
  refine i_irem (n := 9) C 6 rfl rfl (by decide) ?_
  refine i_aload_n (n := 10) C 7 rfl rfl rfl hl 1 rfl ?_
  refine tg_Dr_15_Dr (n := 13) C 8 rfl rfl h hbq hbk ?_
  refine i_icmp_lt (tgt := 36) (n := 16) C 9 rfl rfl rfl (fun c2 => ?_) (fun c2 => ?_)
  · replace hw := hw.1 c2
    refine i_iconst (v := (0 : Int32)) (n := 37) C 20 rfl rfl rfl ?_
    exact hret _ _ _ rfl hw (C.dg (k := 21) rfl)
  · replace hw := hw.2 c2
    refine i_iload_n (n := 17) C 10 rfl rfl rfl hl 0 rfl ?_
    refine i_sipush (v := (1440 : Int32)) (n := 20) C 11 rfl rfl rfl ?_
    refine i_irem (n := 21) C 12 rfl rfl (by decide) ?_
    refine i_aload_n (n := 22) C 13 rfl rfl rfl hl 1 rfl ?_
    refine tg_Dr_18_Dr (n := 25) C 14 rfl rfl h hbq hbk ?_
    refine i_icmp_ge (tgt := 36) (n := 28) C 15 rfl rfl rfl (fun c3 => ?_) (fun c3 => ?_)
    · replace hw := hw.1 c3
      refine i_iconst (v := (0 : Int32)) (n := 37) C 20 rfl rfl rfl ?_
      exact hret _ _ _ rfl hw (C.dg (k := 21) rfl)
    · replace hw := hw.2 c3
      refine i_aload_n (n := 29) C 16 rfl rfl rfl hl 1 rfl ?_
      refine i_iload_n (n := 30) C 17 rfl rfl rfl hl 0 rfl ?_
      obtain ⟨q04, he5, -⟩ := wC_th (cy := cy) (ad := ad) (I := I) (A := A) (T := T) (F := F) hbq hbk
      refine i_callVp (rest := []) (ci := 1) (qc := (R_Dr, T_Dr, 3)) (n := 33) C 18 rfl rfl hl h rfl he5 (kV_Dr_21_Dr ⟨by decide, by decide⟩) (m_Dr_takesIn_Dr hbq hbk hw) rfl rfl (Nat.le_of_ble_eq_true rfl) ⟨by decide, by decide⟩ (fun r6 hw => ?_)
      refine i_goto (tgt := 37) C 19 rfl rfl ?_
      exact hret _ _ _ rfl hw (C.dg (k := 21) rfl)
end S56
