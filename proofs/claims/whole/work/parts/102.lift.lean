theorem kV_Pw_132 {R : Room} {s : State} {args : Array Value} (hR : 1 + 1 ≤ R.frames ∧ 8 + (3 + 11) + 21 ≤ R.locals) (ht : ∀ w ∈ GW, w.before args s = true) : CallW R s args R_Pw R_Pw 132 y_Pw_refusalToHang c_Pw_refusalToHang 3 (some .int) (WL y_Pw_refusalToHang c_Pw_refusalToHang 3 (some .int)) { frames := 1, cells := 0, slots := 0, locals := 21 } 0 0 2 := cwV 2 ht (GW_v w_2_117 w_2_119 w_0_1 w_1_1 (GW_wl w_2_120)) rfl rfl rfl (by decide +kernel) hR
theorem kI_Pw_138 {R : Room} {s : State} {args : Array Value} (hR : 2 + 1 ≤ R.frames ∧ 8 + (4 + 11) + 40 ≤ R.locals) (ht : ∀ w ∈ GW, w.before args s = true) : CallB R s args R_Pw 138 y_Dr_init c_Dr_init 4 none (WL y_Dr_init c_Dr_init 4 none) { frames := 2, cells := 0, slots := 0, locals := 40 } 0 0 3 ∧ y_Dr_init.name = "<init>" ∧ (Cond.instanceMethod y_Dr_init).before args s = true := cwI 3 ht (GW_in (GW_wl w_2_125)) rfl rfl rfl (ht _ w_1_9) (ht _ w_2_123) (ht _ w_2_124) rfl (by decide +kernel) hR
theorem kV_Pw_141 {R : Room} {s : State} {args : Array Value} (hR : 0 + 1 ≤ R.frames ∧ 8 + (3 + 11) + 0 ≤ R.locals) (ht : ∀ w ∈ GW, w.before args s = true) : CallW R s args R_Pw R_Ne 141 y_Ne_hang c_Ne_hang 3 (some .int) (WL y_Ne_hang c_Ne_hang 3 (some .int)) { frames := 0, cells := 0, slots := 0, locals := 0 } 0 0 2 := cwV 2 ht (GW_v w_2_144 w_2_145 w_2_146 w_1_2 (GW_wl w_2_147)) rfl rfl rfl (by decide +kernel) hR
theorem kS_Pw_128 {R : Room} {s : State} {args : Array Value} (hR : 1 + 1 ≤ R.frames ∧ 8 + (2 + 11) + 22 ≤ R.locals) (ht : ∀ w ∈ GW, w.before args s = true) : CallB R s args R_Pw 128 y_Pw_areHours c_Pw_areHours 2 (some .boolean) (WL y_Pw_areHours c_Pw_areHours 2 (some .boolean)) { frames := 1, cells := 0, slots := 0, locals := 22 } 0 0 2 ∧ (Cond.static y_Pw_areHours).before args s = true := cwS 2 ht (GW_s w_2_114 w_2_115 w_1_1 (GW_wl w_2_116)) rfl rfl rfl (by decide +kernel) hR
section S30
variable {p : Program} {l : Launch} {e : Env} {R : Room} {s : State} {m : MethodId} {args : Array Value} {below : List Frame} {meth : Method} {c : Code} {H : Heap} {locs : List Loc} {cells slots : Nat} {Q : State → Prop}
variable {cc : ByteArray} {pc n nL : Nat} {ls : Array Slot} {rest : List Value} {D : va_G} {cy : Nat → ClassId} {Z : Nat → Prop} {ad : Nat → Nat} {tb : List (Nat × Instr × Nat)} {lv : List (Nat × Value)}
def g_Pw_draw_25 (I : Nat → Int32) (a1 : Int32) (a2 : Int32) (a3 : Int32) (a4 : Int32) (P : Int32 → ((Nat → Option Nat) × (List Nat) × (Nat → Nat) × (Nat → Nat → Int32)) → Prop)  (T : Nat → Option Nat) (L : List Nat) (K : Nat → Nat) (F : Nat → Nat → Int32) (s0 : Int32) : Prop := g_Pw_refusalToHang I T a1 s0 (fun r3 => ((0 ≤ r3 → (∀ q5 : Nat, (g_Dr_init_Dr (va_up F q5 (fun _ => 0)) q5 a2 a3 a4 (fun u8 => (g_Ne_hang T (L ++ [q5]) (va_up K q5 1) a1 q5 (fun r9 u10 => (P r9 (u10, L ++ [q5], va_up K q5 1, u8)))))))) ∧ (¬ 0 ≤ r3 → (P r3 (T, L, K, F)))))
set_option maxHeartbeats 4000000 in
set_option maxRecDepth 100000 in
theorem e_Pw_draw_25 {I : Nat → Int32} {A : Nat → Nat → Int32} {a1 : Int32} {a2 : Int32} {a3 : Int32} {a4 : Int32} {P : Int32 → ((Nat → Option Nat) × (List Nat) × (Nat → Nat) × (Nat → Nat → Int32)) → Prop}  (C : CX D cy R_Pw c_Pw_draw tb_Pw_draw 7 p s m args c Z) (hret : RetI p l e { frames := 3, cells := 1, slots := 3, locals := 63 } s m args below meth c c_Pw_draw .int D Z Q (fun (u : (Nat → Option Nat) × (List Nat) × (Nat → Nat) × (Nat → Nat → Int32)) => wC cy ad I A u.1 u.2.1 u.2.2.1 u.2.2.2) P 1 3) :
    ∀ (T : Nat → Option Nat) (L : List Nat) (K : Nat → Nat) (F : Nat → Nat → Int32) (s0 : Int32) (ls : Array Slot) (H : Heap) (locs : List Loc), lv_has ls 7 [(0, .ref (ad 0)), (1, .int a1), (2, .int a2), (3, .int a3), (4, .int a4)] → HXw D Z s.heap H locs (wC cy ad I A T L K F) → g_Pw_draw_25 I a1 a2 a3 a4 P  T L K F s0 → W p l e { frames := 3, cells := 1, slots := 3, locals := 63 } s m args below meth c H locs 0 0 Q (F0 m 25 ls [.int s0]) := by
  intro T L K F s0 ls H locs hl h hw
  refine i_istore (lv' := [(5, .int s0), (0, .ref (ad 0)), (1, .int a1), (2, .int a2), (3, .int a3), (4, .int a4)]) (n := 27) C 12 rfl rfl hl (by decide) rfl (fun ls hl => ?_)
  refine i_aload_n (n := 28) C 13 rfl rfl rfl hl 1 rfl ?_
  refine i_iload_n (n := 29) C 14 rfl rfl rfl hl 2 rfl ?_
  refine i_iload (n := 31) C 15 rfl rfl hl 0 rfl ?_
  refine i_callVp (rest := []) (ci := 10) (qc := (R_Pw, T_Pw, 16)) (n := 34) C 16 rfl rfl hl h rfl (wC_get (h := 0) (by decide)) (kV_Pw_132 ⟨by decide, by decide⟩) (m_Pw_refusalToHang hw) rfl rfl (Nat.le_of_ble_eq_true rfl) ⟨by decide, by decide⟩ (fun r3 hw => ?_)
  refine i_istore (lv' := [(6, .int r3), (5, .int s0), (0, .ref (ad 0)), (1, .int a1), (2, .int a2), (3, .int a3), (4, .int a4)]) (n := 36) C 17 rfl rfl hl (by decide) rfl (fun ls hl => ?_)
  refine i_iload (n := 38) C 18 rfl rfl hl 0 rfl ?_
  refine i_if_ge (tgt := 46) (n := 41) C 19 rfl rfl rfl (fun c4 => ?_) (fun c4 => ?_)
  · replace hw := hw.1 c4
    refine i_aload_n (n := 47) C 22 rfl rfl rfl hl 2 rfl ?_
    refine fgC_Pw_10 (n := 50) C 23 rfl rfl h ?_
    refine i_iload_n (n := 51) C 24 rfl rfl rfl hl 3 rfl ?_
    refine nw_Pw_136 (n := 54) C 25 rfl rfl h (by decide) (by decide) (fun q5 H h => ?_)
    replace hw := hw q5
    have hq6 : q5 ∈ L ++ [q5] := List.mem_append_right _ List.mem_cons_self
    have hk7 : (va_up K q5 1) q5 = 1 := if_pos rfl
    refine i_dup (n := 55) C 26 rfl rfl rfl ?_
    refine i_iload_n (n := 56) C 27 rfl rfl rfl hl 4 rfl ?_
    refine i_iload_n (n := 57) C 28 rfl rfl rfl hl 5 rfl ?_
    refine i_iload (n := 59) C 29 rfl rfl hl 6 rfl ?_
    refine i_callIv (rest := [.ref q5, .int a1, .ref (ad 1)]) (n := 62) C 30 rfl rfl hl h (kI_Pw_138 ⟨by decide, by decide⟩) (m_Dr_init_Dr hq6 hk7 hw) rfl rfl (Nat.le_of_ble_eq_true rfl) ⟨by decide, by decide⟩ (fun u8 H locs hw h => ?_)
    refine i_callVi (rest := []) (ci := 5) (qc := (R_Ne, T_Ne, 17)) (n := 65) C 31 rfl rfl hl h rfl (wC_get (h := 1) (by decide)) (kV_Pw_141 ⟨by decide, by decide⟩) (m_Ne_hang hw) rfl rfl (Nat.le_of_ble_eq_true rfl) ⟨by decide, by decide⟩ (fun r9 u10 H locs hw h => ?_)
    exact hret _ (u10, L ++ [q5], va_up K q5 1, u8) _ _ _ _ rfl hw h (C.dg (k := 32) rfl)
  · replace hw := hw.2 c4
    refine i_iload (n := 43) C 20 rfl rfl hl 0 rfl ?_
    refine i_goto (tgt := 65) C 21 rfl rfl ?_
    refine W.widen (k := 1) (n := 3) (by decide) (by decide) ?_
    exact hret _ (T, L, K, F) _ _ _ _ rfl hw h (C.dg (k := 32) rfl)
def g_Pw_draw_24 (I : Nat → Int32) (a1 : Int32) (a2 : Int32) (a3 : Int32) (a4 : Int32) (P : Int32 → ((Nat → Option Nat) × (List Nat) × (Nat → Nat) × (Nat → Nat → Int32)) → Prop)  (T : Nat → Option Nat) (L : List Nat) (K : Nat → Nat) (F : Nat → Nat → Int32) : Prop := g_Pw_draw_25 I a1 a2 a3 a4 P  T L K F (0 : Int32)
set_option maxHeartbeats 4000000 in
set_option maxRecDepth 100000 in
theorem e_Pw_draw_24 {I : Nat → Int32} {A : Nat → Nat → Int32} {a1 : Int32} {a2 : Int32} {a3 : Int32} {a4 : Int32} {P : Int32 → ((Nat → Option Nat) × (List Nat) × (Nat → Nat) × (Nat → Nat → Int32)) → Prop}  (C : CX D cy R_Pw c_Pw_draw tb_Pw_draw 7 p s m args c Z) (hret : RetI p l e { frames := 3, cells := 1, slots := 3, locals := 63 } s m args below meth c c_Pw_draw .int D Z Q (fun (u : (Nat → Option Nat) × (List Nat) × (Nat → Nat) × (Nat → Nat → Int32)) => wC cy ad I A u.1 u.2.1 u.2.2.1 u.2.2.2) P 1 3) :
    ∀ (T : Nat → Option Nat) (L : List Nat) (K : Nat → Nat) (F : Nat → Nat → Int32) (ls : Array Slot) (H : Heap) (locs : List Loc), lv_has ls 7 [(0, .ref (ad 0)), (1, .int a1), (2, .int a2), (3, .int a3), (4, .int a4)] → HXw D Z s.heap H locs (wC cy ad I A T L K F) → g_Pw_draw_24 I a1 a2 a3 a4 P  T L K F → W p l e { frames := 3, cells := 1, slots := 3, locals := 63 } s m args below meth c H locs 0 0 Q (F0 m 24 ls []) := by
  intro T L K F ls H locs hl h hw
  refine i_iconst (v := (0 : Int32)) (n := 25) C 11 rfl rfl rfl ?_
  exact e_Pw_draw_25 C hret  T L K F (0 : Int32) ls _ _ hl h hw
def g_Pw_draw (I : Nat → Int32) (T : Nat → Option Nat) (L : List Nat) (K : Nat → Nat) (F : Nat → Nat → Int32) (a1 : Int32) (a2 : Int32) (a3 : Int32) (a4 : Int32) (P : Int32 → ((Nat → Option Nat) × (List Nat) × (Nat → Nat) × (Nat → Nat → Int32)) → Prop) : Prop := g_Pw_isWithin a2 (0 : Int32) (1000 : Int32) (fun r1 => ((r1 = 0 → (g_Pw_draw_24 I a1 a2 a3 a4 P  T L K F)) ∧ (¬ r1 = 0 → (g_Pw_areHours a3 a4 (fun r11 => ((r11 = 0 → (g_Pw_draw_24 I a1 a2 a3 a4 P  T L K F)) ∧ (¬ r11 = 0 → (g_Pw_draw_25 I a1 a2 a3 a4 P  T L K F (1 : Int32)))))))))
set_option maxHeartbeats 4000000 in
set_option maxRecDepth 100000 in
theorem m_Pw_draw {l : Launch} {D : va_G} {cy : Nat → ClassId} {ad : Nat → Nat} {I : Nat → Int32} {A : Nat → Nat → Int32} {T : Nat → Option Nat} {L : List Nat} {K : Nat → Nat} {F : Nat → Nat → Int32} {a1 : Int32} {a2 : Int32} {a3 : Int32} {a4 : Int32} {P : Int32 → ((Nat → Option Nat) × (List Nat) × (Nat → Nat) × (Nat → Nat → Int32)) → Prop} (hw : g_Pw_draw I T L K F a1 a2 a3 a4 P) : ∀ sz, Met l y_Pw_draw (WL y_Pw_draw c_Pw_draw 7 (some .int)) { frames := 3, cells := 1, slots := 3, locals := 63 } (va_Pc [.ref (ad 0), .int a1, .int a2, .int a3, .int a4] (PreW D cy (wC cy ad I A T L K F) sz)) (va_Qi P (fun u t => PostW D (va_A (wC cy ad I A T L K F) sz) ((fun (u : (Nat → Option Nat) × (List Nat) × (Nat → Nat) × (Nat → Nat → Int32)) => wC cy ad I A u.1 u.2.1 u.2.2.1 u.2.2.2) u) t) (va_A (wC cy ad I A T L K F) sz)) 1 3 (va_A (wC cy ad I A T L K F) sz) := by
  refine met_i (wf := fun (u : (Nat → Option Nat) × (List Nat) × (Nat → Nat) × (Nat → Nat → Int32)) => wC cy ad I A u.1 u.2.1 u.2.2.1 u.2.2.2) R_Pw .int db_Pw_draw (by decide) rfl rfl (Nat.le_of_ble_eq_true rfl) ?_
  intro p e s m below meth c Z Q ls C h hl hret
  have hl : lv_has ls 7 [(0, .ref (ad 0)), (1, .int a1), (2, .int a2), (3, .int a3), (4, .int a4)] := hl
  refine i_iload_n (n := 1) C 0 rfl rfl rfl hl 2 rfl ?_
  refine i_iconst (v := (0 : Int32)) (n := 2) C 1 rfl rfl rfl ?_
  refine i_sipush (v := (1000 : Int32)) (n := 5) C 2 rfl rfl rfl ?_
  refine i_callSp (rest := []) (n := 8) C 3 rfl rfl hl h (kS_Pw_69 ⟨by decide, by decide⟩) (m_Pw_isWithin hw) rfl rfl (Nat.le_of_ble_eq_true rfl) ⟨by decide, by decide⟩ (fun r1 hw => ?_)
  refine i_if_eq (tgt := 24) (n := 11) C 4 rfl rfl rfl (fun c2 => ?_) (fun c2 => ?_)
  · replace hw := hw.1 c2
    exact e_Pw_draw_24 C hret  T L K F ls _ _ hl h hw
  · replace hw := hw.2 c2
    refine i_iload_n (n := 12) C 5 rfl rfl rfl hl 3 rfl ?_
    refine i_iload (n := 14) C 6 rfl rfl hl 4 rfl ?_
    refine i_callSp (rest := []) (n := 17) C 7 rfl rfl hl h (kS_Pw_128 ⟨by decide, by decide⟩) (m_Pw_areHours hw) rfl rfl (Nat.le_of_ble_eq_true rfl) ⟨by decide, by decide⟩ (fun r11 hw => ?_)
    refine i_if_eq (tgt := 24) (n := 20) C 8 rfl rfl rfl (fun c12 => ?_) (fun c12 => ?_)
    · replace hw := hw.1 c12
      exact e_Pw_draw_24 C hret  T L K F ls _ _ hl h hw
    · replace hw := hw.2 c12
      refine i_iconst (v := (1 : Int32)) (n := 21) C 9 rfl rfl rfl ?_
      refine i_goto (tgt := 25) C 10 rfl rfl ?_
      exact e_Pw_draw_25 C hret  T L K F (1 : Int32) ls _ _ hl h hw
end S30
section S31
variable {p : Program} {l : Launch} {e : Env} {R : Room} {s : State} {m : MethodId} {args : Array Value} {below : List Frame} {meth : Method} {c : Code} {H : Heap} {locs : List Loc} {cells slots : Nat} {Q : State → Prop}
variable {cc : ByteArray} {pc n nL : Nat} {ls : Array Slot} {rest : List Value} {D : va_G} {cy : Nat → ClassId} {Z : Nat → Prop} {ad : Nat → Nat} {tb : List (Nat × Instr × Nat)} {lv : List (Nat × Value)}
def g_Dr_init_Li (F : Nat → Nat → Int32) (b : Nat) (a1 : Int32) (a2 : Int32) (a3 : Int32) (P : ((Nat → Nat → Int32)) → Prop) : Prop := g_Th_init  (fun u1 => (P (sF (sF (sF F b 0 a1) b 1 a2) b 2 a3)))
set_option maxHeartbeats 4000000 in
set_option maxRecDepth 100000 in
theorem m_Dr_init_Li {l : Launch} {D : va_G} {cy : Nat → ClassId} {ad : Nat → Nat} {I : Nat → Int32} {A : Nat → Nat → Int32} {T : Nat → Option Nat} {L : List Nat} {K : Nat → Nat} {F : Nat → Nat → Int32} {b : Nat} {a1 : Int32} {a2 : Int32} {a3 : Int32} {P : ((Nat → Nat → Int32)) → Prop} (hbq : b ∈ L) (hbk : K b = 4) (hw : g_Dr_init_Li F b a1 a2 a3 P) : ∀ sz, Met l y_Dr_init (WL y_Dr_init c_Dr_init 4 none) { frames := 2, cells := 0, slots := 0, locals := 40 } (va_Pc [.ref b, .int a1, .int a2, .int a3] (PreW D cy (wC cy ad I A T L K F) sz)) (va_Qv P (fun u t => PostW D (va_A (wC cy ad I A T L K F) sz) ((fun (u : (Nat → Nat → Int32)) => wC cy ad I A T L K u) u) t) (va_A (wC cy ad I A T L K F) sz)) 0 0 (va_A (wC cy ad I A T L K F) sz) := by
  refine met_v (wf := fun (u : (Nat → Nat → Int32)) => wC cy ad I A T L K u) R_Dr db_Dr_init (by decide) rfl (Nat.le_of_ble_eq_true rfl) ?_
  intro p e s m below meth c Z Q ls hin C h hl hret
  have hl : lv_has ls 4 [(0, .ref b), (1, .int a1), (2, .int a2), (3, .int a3)] := hl
  refine i_aload_n (n := 1) C 0 rfl rfl rfl hl 0 rfl ?_
  refine i_callINv (rest := []) (n := 4) C 1 rfl rfl hl h (kIN_Dr_3 ⟨by decide, by decide⟩) (m_Th_init hw) rfl rfl (Nat.le_of_ble_eq_true rfl) ⟨by decide, by decide⟩ (fun u1 H locs hw h => ?_)
  refine i_aload_n (n := 5) C 2 rfl rfl rfl hl 0 rfl ?_
  refine i_iload_n (n := 6) C 3 rfl rfl rfl hl 1 rfl ?_
  refine tp_Dr_9_Li (n := 9) C 4 rfl rfl h hbq hbk hin (fun H locs h => ?_)
  refine i_aload_n (n := 10) C 5 rfl rfl rfl hl 0 rfl ?_
  refine i_iload_n (n := 11) C 6 rfl rfl rfl hl 2 rfl ?_
  refine tp_Dr_15_Li (n := 14) C 7 rfl rfl h hbq hbk hin (fun H locs h => ?_)
  refine i_aload_n (n := 15) C 8 rfl rfl rfl hl 0 rfl ?_
  refine i_iload_n (n := 16) C 9 rfl rfl rfl hl 3 rfl ?_
  refine tp_Dr_18_Li (n := 19) C 10 rfl rfl h hbq hbk hin (fun H locs h => ?_)
  exact hret (sF (sF (sF F b 0 a1) b 1 a2) b 2 a3) _ _ _ _ hw h (C.dg (k := 11) rfl)
end S31
theorem kI_Li_3 {R : Room} {s : State} {args : Array Value} (hR : 2 + 1 ≤ R.frames ∧ 8 + (4 + 11) + 40 ≤ R.locals) (ht : ∀ w ∈ GW, w.before args s = true) : CallB R s args R_Li 3 y_Dr_init c_Dr_init 4 none (WL y_Dr_init c_Dr_init 4 none) { frames := 2, cells := 0, slots := 0, locals := 40 } 0 0 3 ∧ y_Dr_init.name = "<init>" ∧ (Cond.instanceMethod y_Dr_init).before args s = true := cwI 3 ht (GW_in (GW_wl w_2_125)) rfl rfl rfl (ht _ w_1_9) (ht _ w_2_157) (ht _ w_2_124) rfl (by decide +kernel) hR
section S32
variable {p : Program} {l : Launch} {e : Env} {R : Room} {s : State} {m : MethodId} {args : Array Value} {below : List Frame} {meth : Method} {c : Code} {H : Heap} {locs : List Loc} {cells slots : Nat} {Q : State → Prop}
variable {cc : ByteArray} {pc n nL : Nat} {ls : Array Slot} {rest : List Value} {D : va_G} {cy : Nat → ClassId} {Z : Nat → Prop} {ad : Nat → Nat} {tb : List (Nat × Instr × Nat)} {lv : List (Nat × Value)}
def g_Li_init_Li (F : Nat → Nat → Int32) (b : Nat) (a1 : Int32) (a2 : Int32) (a3 : Int32) (a4 : Int32) (P : ((Nat → Nat → Int32)) → Prop) : Prop := g_Dr_init_Li F b a1 a3 a4 (fun u1 => (P (sF u1 b 3 a2)))
set_option maxHeartbeats 4000000 in
set_option maxRecDepth 100000 in
theorem m_Li_init_Li {l : Launch} {D : va_G} {cy : Nat → ClassId} {ad : Nat → Nat} {I : Nat → Int32} {A : Nat → Nat → Int32} {T : Nat → Option Nat} {L : List Nat} {K : Nat → Nat} {F : Nat → Nat → Int32} {b : Nat} {a1 : Int32} {a2 : Int32} {a3 : Int32} {a4 : Int32} {P : ((Nat → Nat → Int32)) → Prop} (hbq : b ∈ L) (hbk : K b = 4) (hw : g_Li_init_Li F b a1 a2 a3 a4 P) : ∀ sz, Met l y_Li_init (WL y_Li_init c_Li_init 5 none) { frames := 3, cells := 0, slots := 0, locals := 63 } (va_Pc [.ref b, .int a1, .int a2, .int a3, .int a4] (PreW D cy (wC cy ad I A T L K F) sz)) (va_Qv P (fun u t => PostW D (va_A (wC cy ad I A T L K F) sz) ((fun (u : (Nat → Nat → Int32)) => wC cy ad I A T L K u) u) t) (va_A (wC cy ad I A T L K F) sz)) 0 0 (va_A (wC cy ad I A T L K F) sz) := by
  refine met_v (wf := fun (u : (Nat → Nat → Int32)) => wC cy ad I A T L K u) R_Li db_Li_init (by decide) rfl (Nat.le_of_ble_eq_true rfl) ?_
  intro p e s m below meth c Z Q ls hin C h hl hret
  have hl : lv_has ls 5 [(0, .ref b), (1, .int a1), (2, .int a2), (3, .int a3), (4, .int a4)] := hl
  refine i_aload_n (n := 1) C 0 rfl rfl rfl hl 0 rfl ?_
  refine i_iload_n (n := 2) C 1 rfl rfl rfl hl 1 rfl ?_
  refine i_iload_n (n := 3) C 2 rfl rfl rfl hl 3 rfl ?_
  refine i_iload (n := 5) C 3 rfl rfl hl 4 rfl ?_
  refine i_callIv (rest := []) (n := 8) C 4 rfl rfl hl h (kI_Li_3 ⟨by decide, by decide⟩) (m_Dr_init_Li hbq hbk hw) rfl rfl (Nat.le_of_ble_eq_true rfl) ⟨by decide, by decide⟩ (fun u1 H locs hw h => ?_)
  refine i_aload_n (n := 9) C 5 rfl rfl rfl hl 0 rfl ?_
  refine i_iload_n (n := 10) C 6 rfl rfl rfl hl 2 rfl ?_
  refine tp_Li_9_Li (n := 13) C 7 rfl rfl h hbq hbk hin (fun H locs h => ?_)
  exact hret (sF u1 b 3 a2) _ _ _ _ hw h (C.dg (k := 8) rfl)
end S32
theorem kI_Pw_147 {R : Room} {s : State} {args : Array Value} (hR : 3 + 1 ≤ R.frames ∧ 8 + (5 + 11) + 63 ≤ R.locals) (ht : ∀ w ∈ GW, w.before args s = true) : CallB R s args R_Pw 147 y_Li_init c_Li_init 5 none (WL y_Li_init c_Li_init 5 none) { frames := 3, cells := 0, slots := 0, locals := 63 } 0 0 4 ∧ y_Li_init.name = "<init>" ∧ (Cond.instanceMethod y_Li_init).before args s = true := cwI 4 ht (GW_in (GW_wl w_2_156)) rfl rfl rfl (ht _ w_1_10) (ht _ w_2_154) (ht _ w_2_155) rfl (by decide +kernel) hR
section S33
variable {p : Program} {l : Launch} {e : Env} {R : Room} {s : State} {m : MethodId} {args : Array Value} {below : List Frame} {meth : Method} {c : Code} {H : Heap} {locs : List Loc} {cells slots : Nat} {Q : State → Prop}
variable {cc : ByteArray} {pc n nL : Nat} {ls : Array Slot} {rest : List Value} {D : va_G} {cy : Nat → ClassId} {Z : Nat → Prop} {ad : Nat → Nat} {tb : List (Nat × Instr × Nat)} {lv : List (Nat × Value)}
def g_Pw_lift_36 (I : Nat → Int32) (a1 : Int32) (a2 : Int32) (a3 : Int32) (a4 : Int32) (a5 : Int32) (P : Int32 → ((Nat → Option Nat) × (List Nat) × (Nat → Nat) × (Nat → Nat → Int32)) → Prop)  (T : Nat → Option Nat) (L : List Nat) (K : Nat → Nat) (F : Nat → Nat → Int32) (s0 : Int32) : Prop := g_Pw_refusalToHang I T a1 s0 (fun r3 => ((0 ≤ r3 → (∀ q5 : Nat, (g_Li_init_Li (va_up F q5 (fun _ => 0)) q5 a2 a3 a4 a5 (fun u8 => (g_Ne_hang T (L ++ [q5]) (va_up K q5 4) a1 q5 (fun r9 u10 => (P r9 (u10, L ++ [q5], va_up K q5 4, u8)))))))) ∧ (¬ 0 ≤ r3 → (P r3 (T, L, K, F)))))
set_option maxHeartbeats 4000000 in
set_option maxRecDepth 100000 in
theorem e_Pw_lift_36 {I : Nat → Int32} {A : Nat → Nat → Int32} {a1 : Int32} {a2 : Int32} {a3 : Int32} {a4 : Int32} {a5 : Int32} {P : Int32 → ((Nat → Option Nat) × (List Nat) × (Nat → Nat) × (Nat → Nat → Int32)) → Prop}  (C : CX D cy R_Pw c_Pw_lift tb_Pw_lift 8 p s m args c Z) (hret : RetI p l e { frames := 4, cells := 1, slots := 4, locals := 87 } s m args below meth c c_Pw_lift .int D Z Q (fun (u : (Nat → Option Nat) × (List Nat) × (Nat → Nat) × (Nat → Nat → Int32)) => wC cy ad I A u.1 u.2.1 u.2.2.1 u.2.2.2) P 1 4) :
    ∀ (T : Nat → Option Nat) (L : List Nat) (K : Nat → Nat) (F : Nat → Nat → Int32) (s0 : Int32) (ls : Array Slot) (H : Heap) (locs : List Loc), lv_has ls 8 [(0, .ref (ad 0)), (1, .int a1), (2, .int a2), (3, .int a3), (4, .int a4), (5, .int a5)] → HXw D Z s.heap H locs (wC cy ad I A T L K F) → g_Pw_lift_36 I a1 a2 a3 a4 a5 P  T L K F s0 → W p l e { frames := 4, cells := 1, slots := 4, locals := 87 } s m args below meth c H locs 0 0 Q (F0 m 36 ls [.int s0]) := by
  intro T L K F s0 ls H locs hl h hw
  refine i_istore (lv' := [(6, .int s0), (0, .ref (ad 0)), (1, .int a1), (2, .int a2), (3, .int a3), (4, .int a4), (5, .int a5)]) (n := 38) C 17 rfl rfl hl (by decide) rfl (fun ls hl => ?_)
  refine i_aload_n (n := 39) C 18 rfl rfl rfl hl 1 rfl ?_
  refine i_iload_n (n := 40) C 19 rfl rfl rfl hl 2 rfl ?_
  refine i_iload (n := 42) C 20 rfl rfl hl 0 rfl ?_
  refine i_callVp (rest := []) (ci := 10) (qc := (R_Pw, T_Pw, 16)) (n := 45) C 21 rfl rfl hl h rfl (wC_get (h := 0) (by decide)) (kV_Pw_132 ⟨by decide, by decide⟩) (m_Pw_refusalToHang hw) rfl rfl (Nat.le_of_ble_eq_true rfl) ⟨by decide, by decide⟩ (fun r3 hw => ?_)
  refine i_istore (lv' := [(7, .int r3), (6, .int s0), (0, .ref (ad 0)), (1, .int a1), (2, .int a2), (3, .int a3), (4, .int a4), (5, .int a5)]) (n := 47) C 22 rfl rfl hl (by decide) rfl (fun ls hl => ?_)
  refine i_iload (n := 49) C 23 rfl rfl hl 0 rfl ?_
  refine i_if_ge (tgt := 57) (n := 52) C 24 rfl rfl rfl (fun c4 => ?_) (fun c4 => ?_)
  · replace hw := hw.1 c4
    refine i_aload_n (n := 58) C 27 rfl rfl rfl hl 2 rfl ?_
    refine fgC_Pw_10 (n := 61) C 28 rfl rfl h ?_
    refine i_iload_n (n := 62) C 29 rfl rfl rfl hl 3 rfl ?_
    refine nw_Pw_145 (n := 65) C 30 rfl rfl h (by decide) (by decide) (fun q5 H h => ?_)
    replace hw := hw q5
    have hq6 : q5 ∈ L ++ [q5] := List.mem_append_right _ List.mem_cons_self
    have hk7 : (va_up K q5 4) q5 = 4 := if_pos rfl
    refine i_dup (n := 66) C 31 rfl rfl rfl ?_
    refine i_iload_n (n := 67) C 32 rfl rfl rfl hl 4 rfl ?_
    refine i_iload_n (n := 68) C 33 rfl rfl rfl hl 5 rfl ?_
    refine i_iload (n := 70) C 34 rfl rfl hl 6 rfl ?_
    refine i_iload (n := 72) C 35 rfl rfl hl 7 rfl ?_
    refine i_callIv (rest := [.ref q5, .int a1, .ref (ad 1)]) (n := 75) C 36 rfl rfl hl h (kI_Pw_147 ⟨by decide, by decide⟩) (m_Li_init_Li hq6 hk7 hw) rfl rfl (Nat.le_of_ble_eq_true rfl) ⟨by decide, by decide⟩ (fun u8 H locs hw h => ?_)
    refine i_callVi (rest := []) (ci := 5) (qc := (R_Ne, T_Ne, 17)) (n := 78) C 37 rfl rfl hl h rfl (wC_get (h := 1) (by decide)) (kV_Pw_141 ⟨by decide, by decide⟩) (m_Ne_hang hw) rfl rfl (Nat.le_of_ble_eq_true rfl) ⟨by decide, by decide⟩ (fun r9 u10 H locs hw h => ?_)
    exact hret _ (u10, L ++ [q5], va_up K q5 4, u8) _ _ _ _ rfl hw h (C.dg (k := 38) rfl)
  · replace hw := hw.2 c4
    refine i_iload (n := 54) C 25 rfl rfl hl 0 rfl ?_
    refine i_goto (tgt := 78) C 26 rfl rfl ?_
    refine W.widen (k := 1) (n := 4) (by decide) (by decide) ?_
    exact hret _ (T, L, K, F) _ _ _ _ rfl hw h (C.dg (k := 38) rfl)
def g_Pw_lift_35 (I : Nat → Int32) (a1 : Int32) (a2 : Int32) (a3 : Int32) (a4 : Int32) (a5 : Int32) (P : Int32 → ((Nat → Option Nat) × (List Nat) × (Nat → Nat) × (Nat → Nat → Int32)) → Prop)  (T : Nat → Option Nat) (L : List Nat) (K : Nat → Nat) (F : Nat → Nat → Int32) : Prop := g_Pw_lift_36 I a1 a2 a3 a4 a5 P  T L K F (0 : Int32)
set_option maxHeartbeats 4000000 in
set_option maxRecDepth 100000 in
theorem e_Pw_lift_35 {I : Nat → Int32} {A : Nat → Nat → Int32} {a1 : Int32} {a2 : Int32} {a3 : Int32} {a4 : Int32} {a5 : Int32} {P : Int32 → ((Nat → Option Nat) × (List Nat) × (Nat → Nat) × (Nat → Nat → Int32)) → Prop}  (C : CX D cy R_Pw c_Pw_lift tb_Pw_lift 8 p s m args c Z) (hret : RetI p l e { frames := 4, cells := 1, slots := 4, locals := 87 } s m args below meth c c_Pw_lift .int D Z Q (fun (u : (Nat → Option Nat) × (List Nat) × (Nat → Nat) × (Nat → Nat → Int32)) => wC cy ad I A u.1 u.2.1 u.2.2.1 u.2.2.2) P 1 4) :
    ∀ (T : Nat → Option Nat) (L : List Nat) (K : Nat → Nat) (F : Nat → Nat → Int32) (ls : Array Slot) (H : Heap) (locs : List Loc), lv_has ls 8 [(0, .ref (ad 0)), (1, .int a1), (2, .int a2), (3, .int a3), (4, .int a4), (5, .int a5)] → HXw D Z s.heap H locs (wC cy ad I A T L K F) → g_Pw_lift_35 I a1 a2 a3 a4 a5 P  T L K F → W p l e { frames := 4, cells := 1, slots := 4, locals := 87 } s m args below meth c H locs 0 0 Q (F0 m 35 ls []) := by
  intro T L K F ls H locs hl h hw
  refine i_iconst (v := (0 : Int32)) (n := 36) C 16 rfl rfl rfl ?_
  exact e_Pw_lift_36 C hret  T L K F (0 : Int32) ls _ _ hl h hw
def g_Pw_lift (I : Nat → Int32) (T : Nat → Option Nat) (L : List Nat) (K : Nat → Nat) (F : Nat → Nat → Int32) (a1 : Int32) (a2 : Int32) (a3 : Int32) (a4 : Int32) (a5 : Int32) (P : Int32 → ((Nat → Option Nat) × (List Nat) × (Nat → Nat) × (Nat → Nat → Int32)) → Prop) : Prop := g_Pw_isWithin a2 (0 : Int32) (1000 : Int32) (fun r1 => ((r1 = 0 → (g_Pw_lift_35 I a1 a2 a3 a4 a5 P  T L K F)) ∧ (¬ r1 = 0 → (g_Pw_isWithin a3 (0 : Int32) (6 : Int32) (fun r11 => ((r11 = 0 → (g_Pw_lift_35 I a1 a2 a3 a4 a5 P  T L K F)) ∧ (¬ r11 = 0 → (g_Pw_areHours a4 a5 (fun r13 => ((r13 = 0 → (g_Pw_lift_35 I a1 a2 a3 a4 a5 P  T L K F)) ∧ (¬ r13 = 0 → (g_Pw_lift_36 I a1 a2 a3 a4 a5 P  T L K F (1 : Int32)))))))))))))
set_option maxHeartbeats 4000000 in
set_option maxRecDepth 100000 in
theorem m_Pw_lift {l : Launch} {D : va_G} {cy : Nat → ClassId} {ad : Nat → Nat} {I : Nat → Int32} {A : Nat → Nat → Int32} {T : Nat → Option Nat} {L : List Nat} {K : Nat → Nat} {F : Nat → Nat → Int32} {a1 : Int32} {a2 : Int32} {a3 : Int32} {a4 : Int32} {a5 : Int32} {P : Int32 → ((Nat → Option Nat) × (List Nat) × (Nat → Nat) × (Nat → Nat → Int32)) → Prop} (hw : g_Pw_lift I T L K F a1 a2 a3 a4 a5 P) : ∀ sz, Met l y_Pw_lift (WL y_Pw_lift c_Pw_lift 8 (some .int)) { frames := 4, cells := 1, slots := 4, locals := 87 } (va_Pc [.ref (ad 0), .int a1, .int a2, .int a3, .int a4, .int a5] (PreW D cy (wC cy ad I A T L K F) sz)) (va_Qi P (fun u t => PostW D (va_A (wC cy ad I A T L K F) sz) ((fun (u : (Nat → Option Nat) × (List Nat) × (Nat → Nat) × (Nat → Nat → Int32)) => wC cy ad I A u.1 u.2.1 u.2.2.1 u.2.2.2) u) t) (va_A (wC cy ad I A T L K F) sz)) 1 4 (va_A (wC cy ad I A T L K F) sz) := by
  refine met_i (wf := fun (u : (Nat → Option Nat) × (List Nat) × (Nat → Nat) × (Nat → Nat → Int32)) => wC cy ad I A u.1 u.2.1 u.2.2.1 u.2.2.2) R_Pw .int db_Pw_lift (by decide) rfl rfl (Nat.le_of_ble_eq_true rfl) ?_
  intro p e s m below meth c Z Q ls C h hl hret
  have hl : lv_has ls 8 [(0, .ref (ad 0)), (1, .int a1), (2, .int a2), (3, .int a3), (4, .int a4), (5, .int a5)] := hl
  refine i_iload_n (n := 1) C 0 rfl rfl rfl hl 2 rfl ?_
  refine i_iconst (v := (0 : Int32)) (n := 2) C 1 rfl rfl rfl ?_
  refine i_sipush (v := (1000 : Int32)) (n := 5) C 2 rfl rfl rfl ?_
  refine i_callSp (rest := []) (n := 8) C 3 rfl rfl hl h (kS_Pw_69 ⟨by decide, by decide⟩) (m_Pw_isWithin hw) rfl rfl (Nat.le_of_ble_eq_true rfl) ⟨by decide, by decide⟩ (fun r1 hw => ?_)
  refine i_if_eq (tgt := 35) (n := 11) C 4 rfl rfl rfl (fun c2 => ?_) (fun c2 => ?_)
  · replace hw := hw.1 c2
    exact e_Pw_lift_35 C hret  T L K F ls _ _ hl h hw
  · replace hw := hw.2 c2
    refine i_iload_n (n := 12) C 5 rfl rfl rfl hl 3 rfl ?_
    refine i_iconst (v := (0 : Int32)) (n := 13) C 6 rfl rfl rfl ?_
    refine i_bipush (v := (6 : Int32)) (n := 15) C 7 rfl rfl rfl ?_
    refine i_callSp (rest := []) (n := 18) C 8 rfl rfl hl h (kS_Pw_69 ⟨by decide, by decide⟩) (m_Pw_isWithin hw) rfl rfl (Nat.le_of_ble_eq_true rfl) ⟨by decide, by decide⟩ (fun r11 hw => ?_)
    refine i_if_eq (tgt := 35) (n := 21) C 9 rfl rfl rfl (fun c12 => ?_) (fun c12 => ?_)
    · replace hw := hw.1 c12
      exact e_Pw_lift_35 C hret  T L K F ls _ _ hl h hw
    · replace hw := hw.2 c12
      refine i_iload (n := 23) C 10 rfl rfl hl 4 rfl ?_
      refine i_iload (n := 25) C 11 rfl rfl hl 5 rfl ?_
      refine i_callSp (rest := []) (n := 28) C 12 rfl rfl hl h (kS_Pw_128 ⟨by decide, by decide⟩) (m_Pw_areHours hw) rfl rfl (Nat.le_of_ble_eq_true rfl) ⟨by decide, by decide⟩ (fun r13 hw => ?_)
      refine i_if_eq (tgt := 35) (n := 31) C 13 rfl rfl rfl (fun c14 => ?_) (fun c14 => ?_)
      · replace hw := hw.1 c14
        exact e_Pw_lift_35 C hret  T L K F ls _ _ hl h hw
      · replace hw := hw.2 c14
        refine i_iconst (v := (1 : Int32)) (n := 32) C 14 rfl rfl rfl ?_
        refine i_goto (tgt := 36) C 15 rfl rfl ?_
        exact e_Pw_lift_36 C hret  T L K F (1 : Int32) ls _ _ hl h hw
end S33
section S34
variable {p : Program} {l : Launch} {e : Env} {R : Room} {s : State} {m : MethodId} {args : Array Value} {below : List Frame} {meth : Method} {c : Code} {H : Heap} {locs : List Loc} {cells slots : Nat} {Q : State → Prop}
variable {cc : ByteArray} {pc n nL : Nat} {ls : Array Slot} {rest : List Value} {D : va_G} {cy : Nat → ClassId} {Z : Nat → Prop} {ad : Nat → Nat} {tb : List (Nat × Instr × Nat)} {lv : List (Nat × Value)}
def g_Dr_init_Br (F : Nat → Nat → Int32) (b : Nat) (a1 : Int32) (a2 : Int32) (a3 : Int32) (P : ((Nat → Nat → Int32)) → Prop) : Prop := g_Th_init  (fun u1 => (P (sF (sF (sF F b 0 a1) b 1 a2) b 2 a3)))
set_option maxHeartbeats 4000000 in
set_option maxRecDepth 100000 in
theorem m_Dr_init_Br {l : Launch} {D : va_G} {cy : Nat → ClassId} {ad : Nat → Nat} {I : Nat → Int32} {A : Nat → Nat → Int32} {T : Nat → Option Nat} {L : List Nat} {K : Nat → Nat} {F : Nat → Nat → Int32} {b : Nat} {a1 : Int32} {a2 : Int32} {a3 : Int32} {P : ((Nat → Nat → Int32)) → Prop} (hbq : b ∈ L) (hbk : K b = 0) (hw : g_Dr_init_Br F b a1 a2 a3 P) : ∀ sz, Met l y_Dr_init (WL y_Dr_init c_Dr_init 4 none) { frames := 2, cells := 0, slots := 0, locals := 40 } (va_Pc [.ref b, .int a1, .int a2, .int a3] (PreW D cy (wC cy ad I A T L K F) sz)) (va_Qv P (fun u t => PostW D (va_A (wC cy ad I A T L K F) sz) ((fun (u : (Nat → Nat → Int32)) => wC cy ad I A T L K u) u) t) (va_A (wC cy ad I A T L K F) sz)) 0 0 (va_A (wC cy ad I A T L K F) sz) := by
  refine met_v (wf := fun (u : (Nat → Nat → Int32)) => wC cy ad I A T L K u) R_Dr db_Dr_init (by decide) rfl (Nat.le_of_ble_eq_true rfl) ?_
  intro p e s m below meth c Z Q ls hin C h hl hret
  have hl : lv_has ls 4 [(0, .ref b), (1, .int a1), (2, .int a2), (3, .int a3)] := hl
  refine i_aload_n (n := 1) C 0 rfl rfl rfl hl 0 rfl ?_
  refine i_callINv (rest := []) (n := 4) C 1 rfl rfl hl h (kIN_Dr_3 ⟨by decide, by decide⟩) (m_Th_init hw) rfl rfl (Nat.le_of_ble_eq_true rfl) ⟨by decide, by decide⟩ (fun u1 H locs hw h => ?_)
  refine i_aload_n (n := 5) C 2 rfl rfl rfl hl 0 rfl ?_
  refine i_iload_n (n := 6) C 3 rfl rfl rfl hl 1 rfl ?_
  refine tp_Dr_9_Br (n := 9) C 4 rfl rfl h hbq hbk hin (fun H locs h => ?_)
  refine i_aload_n (n := 10) C 5 rfl rfl rfl hl 0 rfl ?_
  refine i_iload_n (n := 11) C 6 rfl rfl rfl hl 2 rfl ?_
  refine tp_Dr_15_Br (n := 14) C 7 rfl rfl h hbq hbk hin (fun H locs h => ?_)
  refine i_aload_n (n := 15) C 8 rfl rfl rfl hl 0 rfl ?_
  refine i_iload_n (n := 16) C 9 rfl rfl rfl hl 3 rfl ?_
  refine tp_Dr_18_Br (n := 19) C 10 rfl rfl h hbq hbk hin (fun H locs h => ?_)
  exact hret (sF (sF (sF F b 0 a1) b 1 a2) b 2 a3) _ _ _ _ hw h (C.dg (k := 11) rfl)
end S34
theorem kI_Br_3 {R : Room} {s : State} {args : Array Value} (hR : 2 + 1 ≤ R.frames ∧ 8 + (4 + 11) + 40 ≤ R.locals) (ht : ∀ w ∈ GW, w.before args s = true) : CallB R s args R_Br 3 y_Dr_init c_Dr_init 4 none (WL y_Dr_init c_Dr_init 4 none) { frames := 2, cells := 0, slots := 0, locals := 40 } 0 0 3 ∧ y_Dr_init.name = "<init>" ∧ (Cond.instanceMethod y_Dr_init).before args s = true := cwI 3 ht (GW_in (GW_wl w_2_125)) rfl rfl rfl (ht _ w_1_9) (ht _ w_2_174) (ht _ w_2_124) rfl (by decide +kernel) hR
section S35
variable {p : Program} {l : Launch} {e : Env} {R : Room} {s : State} {m : MethodId} {args : Array Value} {below : List Frame} {meth : Method} {c : Code} {H : Heap} {locs : List Loc} {cells slots : Nat} {Q : State → Prop}
variable {cc : ByteArray} {pc n nL : Nat} {ls : Array Slot} {rest : List Value} {D : va_G} {cy : Nat → ClassId} {Z : Nat → Prop} {ad : Nat → Nat} {tb : List (Nat × Instr × Nat)} {lv : List (Nat × Value)}
def g_Br_init_Br_20 (b : Nat) (a1 : Int32) (a2 : Int32) (a3 : Int32) (a4 : Int32) (P : ((Nat → Nat → Int32)) → Prop)  (F : Nat → Nat → Int32) (s1 : Int32) : Prop := P (sF (sF (sF F b 3 s1) b 4 a3) b 5 a4)
set_option maxHeartbeats 4000000 in
set_option maxRecDepth 100000 in
theorem e_Br_init_Br_20 {I : Nat → Int32} {A : Nat → Nat → Int32} {T : Nat → Option Nat} {L : List Nat} {K : Nat → Nat} {b : Nat} {a1 : Int32} {a2 : Int32} {a3 : Int32} {a4 : Int32} {P : ((Nat → Nat → Int32)) → Prop}  (C : CX D cy R_Br c_Br_init tb_Br_init 5 p s m args c Z) (hbq : b ∈ L) (hbk : K b = 0) (hin : meth.name = "<init>") (hret : RetV p l e { frames := 3, cells := 0, slots := 0, locals := 63 } s m args below meth c c_Br_init D Z Q (fun (u : (Nat → Nat → Int32)) => wC cy ad I A T L K u) P 0 0) :
    ∀ (F : Nat → Nat → Int32) (s1 : Int32) (ls : Array Slot) (H : Heap) (locs : List Loc), lv_has ls 5 [(0, .ref b), (3, .int a3), (4, .int a4)] → HXw D Z s.heap H locs (wC cy ad I A T L K F) → g_Br_init_Br_20 b a1 a2 a3 a4 P  F s1 → W p l e { frames := 3, cells := 0, slots := 0, locals := 63 } s m args below meth c H locs 0 0 Q (F0 m 20 ls [.int s1, .ref b]) := by
  intro F s1 ls H locs hl h hw
  refine tp_Br_9_Br (n := 23) C 12 rfl rfl h hbq hbk hin (fun H locs h => ?_)
  refine i_aload_n (n := 24) C 13 rfl rfl rfl hl 0 rfl ?_
  refine i_iload_n (n := 25) C 14 rfl rfl rfl hl 1 rfl ?_
  refine tp_Br_15_Br (n := 28) C 15 rfl rfl h hbq hbk hin (fun H locs h => ?_)
  refine i_aload_n (n := 29) C 16 rfl rfl rfl hl 0 rfl ?_
  refine i_iload (n := 31) C 17 rfl rfl hl 2 rfl ?_
  refine tp_Br_18_Br (n := 34) C 18 rfl rfl h hbq hbk hin (fun H locs h => ?_)
  exact hret (sF (sF (sF F b 3 s1) b 4 a3) b 5 a4) _ _ _ _ hw h (C.dg (k := 19) rfl)
def g_Br_init_Br (F : Nat → Nat → Int32) (b : Nat) (a1 : Int32) (a2 : Int32) (a3 : Int32) (a4 : Int32) (P : ((Nat → Nat → Int32)) → Prop) : Prop := g_Dr_init_Br F b a1 (0 : Int32) (1440 : Int32) (fun u1 => (((1 : Int32) ≤ a2 → (g_Br_init_Br_20 b a1 a2 a3 a4 P  u1 a2)) ∧ (¬ (1 : Int32) ≤ a2 → (g_Br_init_Br_20 b a1 a2 a3 a4 P  u1 (1 : Int32)))))
set_option maxHeartbeats 4000000 in
set_option maxRecDepth 100000 in
theorem m_Br_init_Br {l : Launch} {D : va_G} {cy : Nat → ClassId} {ad : Nat → Nat} {I : Nat → Int32} {A : Nat → Nat → Int32} {T : Nat → Option Nat} {L : List Nat} {K : Nat → Nat} {F : Nat → Nat → Int32} {b : Nat} {a1 : Int32} {a2 : Int32} {a3 : Int32} {a4 : Int32} {P : ((Nat → Nat → Int32)) → Prop} (hbq : b ∈ L) (hbk : K b = 0) (hw : g_Br_init_Br F b a1 a2 a3 a4 P) : ∀ sz, Met l y_Br_init (WL y_Br_init c_Br_init 5 none) { frames := 3, cells := 0, slots := 0, locals := 63 } (va_Pc [.ref b, .int a1, .int a2, .int a3, .int a4] (PreW D cy (wC cy ad I A T L K F) sz)) (va_Qv P (fun u t => PostW D (va_A (wC cy ad I A T L K F) sz) ((fun (u : (Nat → Nat → Int32)) => wC cy ad I A T L K u) u) t) (va_A (wC cy ad I A T L K F) sz)) 0 0 (va_A (wC cy ad I A T L K F) sz) := by
  refine met_v (wf := fun (u : (Nat → Nat → Int32)) => wC cy ad I A T L K u) R_Br db_Br_init (by decide) rfl (Nat.le_of_ble_eq_true rfl) ?_
  intro p e s m below meth c Z Q ls hin C h hl hret
  have hl : lv_has ls 5 [(0, .ref b), (1, .int a1), (2, .int a2), (3, .int a3), (4, .int a4)] := hl
  refine i_aload_n (n := 1) C 0 rfl rfl rfl hl 0 rfl ?_
  refine i_iload_n (n := 2) C 1 rfl rfl rfl hl 1 rfl ?_
  refine i_iconst (v := (0 : Int32)) (n := 3) C 2 rfl rfl rfl ?_
  refine i_sipush (v := (1440 : Int32)) (n := 6) C 3 rfl rfl rfl ?_
  refine i_callIv (rest := []) (n := 9) C 4 rfl rfl hl h (kI_Br_3 ⟨by decide, by decide⟩) (m_Dr_init_Br hbq hbk hw) rfl rfl (Nat.le_of_ble_eq_true rfl) ⟨by decide, by decide⟩ (fun u1 H locs hw h => ?_)
  refine i_aload_n (n := 10) C 5 rfl rfl rfl hl 0 rfl ?_
  refine i_iload_n (n := 11) C 6 rfl rfl rfl hl 2 rfl ?_
  refine i_iconst (v := (1 : Int32)) (n := 12) C 7 rfl rfl rfl ?_
  refine i_icmp_ge (tgt := 19) (n := 15) C 8 rfl rfl rfl (fun c2 => ?_) (fun c2 => ?_)
  · replace hw := hw.1 c2
    refine i_iload_n (n := 20) C 11 rfl rfl rfl hl 2 rfl ?_
    exact e_Br_init_Br_20 C hbq hbk hin hret  u1 a2 ls _ _ (lv_sub hl [0, 3, 4] rfl) h hw
  · replace hw := hw.2 c2
    refine i_iconst (v := (1 : Int32)) (n := 16) C 9 rfl rfl rfl ?_
    refine i_goto (tgt := 20) C 10 rfl rfl ?_
    exact e_Br_init_Br_20 C hbq hbk hin hret  u1 (1 : Int32) ls _ _ (lv_sub hl [0, 3, 4] rfl) h hw
end S35
theorem kI_Pw_152 {R : Room} {s : State} {args : Array Value} (hR : 3 + 1 ≤ R.frames ∧ 8 + (5 + 11) + 63 ≤ R.locals) (ht : ∀ w ∈ GW, w.before args s = true) : CallB R s args R_Pw 152 y_Br_init c_Br_init 5 none (WL y_Br_init c_Br_init 5 none) { frames := 3, cells := 0, slots := 0, locals := 63 } 0 0 4 ∧ y_Br_init.name = "<init>" ∧ (Cond.instanceMethod y_Br_init).before args s = true := cwI 4 ht (GW_in (GW_wl w_2_173)) rfl rfl rfl (ht _ w_1_11) (ht _ w_2_171) (ht _ w_2_172) rfl (by decide +kernel) hR
section S36
variable {p : Program} {l : Launch} {e : Env} {R : Room} {s : State} {m : MethodId} {args : Array Value} {below : List Frame} {meth : Method} {c : Code} {H : Heap} {locs : List Loc} {cells slots : Nat} {Q : State → Prop}
variable {cc : ByteArray} {pc n nL : Nat} {ls : Array Slot} {rest : List Value} {D : va_G} {cy : Nat → ClassId} {Z : Nat → Prop} {ad : Nat → Nat} {tb : List (Nat × Instr × Nat)} {lv : List (Nat × Value)}
def g_Pw_bridge_51 (I : Nat → Int32) (a1 : Int32) (a2 : Int32) (a3 : Int32) (a4 : Int32) (a5 : Int32) (P : Int32 → ((Nat → Option Nat) × (List Nat) × (Nat → Nat) × (Nat → Nat → Int32)) → Prop)  (T : Nat → Option Nat) (L : List Nat) (K : Nat → Nat) (F : Nat → Nat → Int32) (s0 : Int32) : Prop := g_Pw_refusalToHang I T a1 s0 (fun r3 => ((0 ≤ r3 → (∀ q5 : Nat, (g_Br_init_Br (va_up F q5 (fun _ => 0)) q5 a2 a3 a4 a5 (fun u8 => (g_Ne_hang T (L ++ [q5]) (va_up K q5 0) a1 q5 (fun r9 u10 => (P r9 (u10, L ++ [q5], va_up K q5 0, u8)))))))) ∧ (¬ 0 ≤ r3 → (P r3 (T, L, K, F)))))
set_option maxHeartbeats 4000000 in
set_option maxRecDepth 100000 in
theorem e_Pw_bridge_51 {I : Nat → Int32} {A : Nat → Nat → Int32} {a1 : Int32} {a2 : Int32} {a3 : Int32} {a4 : Int32} {a5 : Int32} {P : Int32 → ((Nat → Option Nat) × (List Nat) × (Nat → Nat) × (Nat → Nat → Int32)) → Prop}  (C : CX D cy R_Pw c_Pw_bridge tb_Pw_bridge 8 p s m args c Z) (hret : RetI p l e { frames := 4, cells := 1, slots := 6, locals := 87 } s m args below meth c c_Pw_bridge .int D Z Q (fun (u : (Nat → Option Nat) × (List Nat) × (Nat → Nat) × (Nat → Nat → Int32)) => wC cy ad I A u.1 u.2.1 u.2.2.1 u.2.2.2) P 1 6) :
    ∀ (T : Nat → Option Nat) (L : List Nat) (K : Nat → Nat) (F : Nat → Nat → Int32) (s0 : Int32) (ls : Array Slot) (H : Heap) (locs : List Loc), lv_has ls 8 [(0, .ref (ad 0)), (1, .int a1), (2, .int a2), (3, .int a3), (4, .int a4), (5, .int a5)] → HXw D Z s.heap H locs (wC cy ad I A T L K F) → g_Pw_bridge_51 I a1 a2 a3 a4 a5 P  T L K F s0 → W p l e { frames := 4, cells := 1, slots := 6, locals := 87 } s m args below meth c H locs 0 0 Q (F0 m 51 ls [.int s0]) := by
  intro T L K F s0 ls H locs hl h hw
  refine i_istore (lv' := [(6, .int s0), (0, .ref (ad 0)), (1, .int a1), (2, .int a2), (3, .int a3), (4, .int a4), (5, .int a5)]) (n := 53) C 23 rfl rfl hl (by decide) rfl (fun ls hl => ?_)
  refine i_aload_n (n := 54) C 24 rfl rfl rfl hl 1 rfl ?_
  refine i_iload_n (n := 55) C 25 rfl rfl rfl hl 2 rfl ?_
  refine i_iload (n := 57) C 26 rfl rfl hl 0 rfl ?_
  refine i_callVp (rest := []) (ci := 10) (qc := (R_Pw, T_Pw, 16)) (n := 60) C 27 rfl rfl hl h rfl (wC_get (h := 0) (by decide)) (kV_Pw_132 ⟨by decide, by decide⟩) (m_Pw_refusalToHang hw) rfl rfl (Nat.le_of_ble_eq_true rfl) ⟨by decide, by decide⟩ (fun r3 hw => ?_)
  refine i_istore (lv' := [(7, .int r3), (6, .int s0), (0, .ref (ad 0)), (1, .int a1), (2, .int a2), (3, .int a3), (4, .int a4), (5, .int a5)]) (n := 62) C 28 rfl rfl hl (by decide) rfl (fun ls hl => ?_)
  refine i_iload (n := 64) C 29 rfl rfl hl 0 rfl ?_
  refine i_if_ge (tgt := 72) (n := 67) C 30 rfl rfl rfl (fun c4 => ?_) (fun c4 => ?_)
  · replace hw := hw.1 c4
    refine i_aload_n (n := 73) C 33 rfl rfl rfl hl 2 rfl ?_
    refine fgC_Pw_10 (n := 76) C 34 rfl rfl h ?_
    refine i_iload_n (n := 77) C 35 rfl rfl rfl hl 3 rfl ?_
    refine nw_Pw_150 (n := 80) C 36 rfl rfl h (by decide) (by decide) (fun q5 H h => ?_)
    replace hw := hw q5
    have hq6 : q5 ∈ L ++ [q5] := List.mem_append_right _ List.mem_cons_self
    have hk7 : (va_up K q5 0) q5 = 0 := if_pos rfl
    refine i_dup (n := 81) C 37 rfl rfl rfl ?_
    refine i_iload_n (n := 82) C 38 rfl rfl rfl hl 4 rfl ?_
    refine i_iload_n (n := 83) C 39 rfl rfl rfl hl 5 rfl ?_
    refine i_iload (n := 85) C 40 rfl rfl hl 6 rfl ?_
    refine i_iload (n := 87) C 41 rfl rfl hl 7 rfl ?_
    refine i_callIv (rest := [.ref q5, .int a1, .ref (ad 1)]) (n := 90) C 42 rfl rfl hl h (kI_Pw_152 ⟨by decide, by decide⟩) (m_Br_init_Br hq6 hk7 hw) rfl rfl (Nat.le_of_ble_eq_true rfl) ⟨by decide, by decide⟩ (fun u8 H locs hw h => ?_)
    refine i_callVi (rest := []) (ci := 5) (qc := (R_Ne, T_Ne, 17)) (n := 93) C 43 rfl rfl hl h rfl (wC_get (h := 1) (by decide)) (kV_Pw_141 ⟨by decide, by decide⟩) (m_Ne_hang hw) rfl rfl (Nat.le_of_ble_eq_true rfl) ⟨by decide, by decide⟩ (fun r9 u10 H locs hw h => ?_)
    exact hret _ (u10, L ++ [q5], va_up K q5 0, u8) _ _ _ _ rfl hw h (C.dg (k := 44) rfl)
  · replace hw := hw.2 c4
    refine i_iload (n := 69) C 31 rfl rfl hl 0 rfl ?_
    refine i_goto (tgt := 93) C 32 rfl rfl ?_
    refine W.widen (k := 1) (n := 6) (by decide) (by decide) ?_
    exact hret _ (T, L, K, F) _ _ _ _ rfl hw h (C.dg (k := 44) rfl)
def g_Pw_bridge_50 (I : Nat → Int32) (a1 : Int32) (a2 : Int32) (a3 : Int32) (a4 : Int32) (a5 : Int32) (P : Int32 → ((Nat → Option Nat) × (List Nat) × (Nat → Nat) × (Nat → Nat → Int32)) → Prop)  (T : Nat → Option Nat) (L : List Nat) (K : Nat → Nat) (F : Nat → Nat → Int32) : Prop := g_Pw_bridge_51 I a1 a2 a3 a4 a5 P  T L K F (0 : Int32)
set_option maxHeartbeats 4000000 in
set_option maxRecDepth 100000 in
theorem e_Pw_bridge_50 {I : Nat → Int32} {A : Nat → Nat → Int32} {a1 : Int32} {a2 : Int32} {a3 : Int32} {a4 : Int32} {a5 : Int32} {P : Int32 → ((Nat → Option Nat) × (List Nat) × (Nat → Nat) × (Nat → Nat → Int32)) → Prop}  (C : CX D cy R_Pw c_Pw_bridge tb_Pw_bridge 8 p s m args c Z) (hret : RetI p l e { frames := 4, cells := 1, slots := 6, locals := 87 } s m args below meth c c_Pw_bridge .int D Z Q (fun (u : (Nat → Option Nat) × (List Nat) × (Nat → Nat) × (Nat → Nat → Int32)) => wC cy ad I A u.1 u.2.1 u.2.2.1 u.2.2.2) P 1 6) :
    ∀ (T : Nat → Option Nat) (L : List Nat) (K : Nat → Nat) (F : Nat → Nat → Int32) (ls : Array Slot) (H : Heap) (locs : List Loc), lv_has ls 8 [(0, .ref (ad 0)), (1, .int a1), (2, .int a2), (3, .int a3), (4, .int a4), (5, .int a5)] → HXw D Z s.heap H locs (wC cy ad I A T L K F) → g_Pw_bridge_50 I a1 a2 a3 a4 a5 P  T L K F → W p l e { frames := 4, cells := 1, slots := 6, locals := 87 } s m args below meth c H locs 0 0 Q (F0 m 50 ls []) := by
  intro T L K F ls H locs hl h hw
  refine i_iconst (v := (0 : Int32)) (n := 51) C 22 rfl rfl rfl ?_
  exact e_Pw_bridge_51 C hret  T L K F (0 : Int32) ls _ _ hl h hw
def g_Pw_bridge (I : Nat → Int32) (T : Nat → Option Nat) (L : List Nat) (K : Nat → Nat) (F : Nat → Nat → Int32) (a1 : Int32) (a2 : Int32) (a3 : Int32) (a4 : Int32) (a5 : Int32) (P : Int32 → ((Nat → Option Nat) × (List Nat) × (Nat → Nat) × (Nat → Nat → Int32)) → Prop) : Prop := g_Pw_isWithin a2 (0 : Int32) (1000 : Int32) (fun r1 => ((r1 = 0 → (g_Pw_bridge_50 I a1 a2 a3 a4 a5 P  T L K F)) ∧ (¬ r1 = 0 → (g_Pw_isWithin a3 (1 : Int32) (720 : Int32) (fun r11 => ((r11 = 0 → (g_Pw_bridge_50 I a1 a2 a3 a4 a5 P  T L K F)) ∧ (¬ r11 = 0 → (g_Pw_isWithin a4 (0 : Int32) (720 : Int32) (fun r13 => ((r13 = 0 → (g_Pw_bridge_50 I a1 a2 a3 a4 a5 P  T L K F)) ∧ (¬ r13 = 0 → (g_Pw_isWithin a5 (0 : Int32) (720 : Int32) (fun r15 => ((r15 = 0 → (g_Pw_bridge_50 I a1 a2 a3 a4 a5 P  T L K F)) ∧ (¬ r15 = 0 → (g_Pw_bridge_51 I a1 a2 a3 a4 a5 P  T L K F (1 : Int32)))))))))))))))))
set_option maxHeartbeats 4000000 in
set_option maxRecDepth 100000 in
theorem m_Pw_bridge {l : Launch} {D : va_G} {cy : Nat → ClassId} {ad : Nat → Nat} {I : Nat → Int32} {A : Nat → Nat → Int32} {T : Nat → Option Nat} {L : List Nat} {K : Nat → Nat} {F : Nat → Nat → Int32} {a1 : Int32} {a2 : Int32} {a3 : Int32} {a4 : Int32} {a5 : Int32} {P : Int32 → ((Nat → Option Nat) × (List Nat) × (Nat → Nat) × (Nat → Nat → Int32)) → Prop} (hw : g_Pw_bridge I T L K F a1 a2 a3 a4 a5 P) : ∀ sz, Met l y_Pw_bridge (WL y_Pw_bridge c_Pw_bridge 8 (some .int)) { frames := 4, cells := 1, slots := 6, locals := 87 } (va_Pc [.ref (ad 0), .int a1, .int a2, .int a3, .int a4, .int a5] (PreW D cy (wC cy ad I A T L K F) sz)) (va_Qi P (fun u t => PostW D (va_A (wC cy ad I A T L K F) sz) ((fun (u : (Nat → Option Nat) × (List Nat) × (Nat → Nat) × (Nat → Nat → Int32)) => wC cy ad I A u.1 u.2.1 u.2.2.1 u.2.2.2) u) t) (va_A (wC cy ad I A T L K F) sz)) 1 6 (va_A (wC cy ad I A T L K F) sz) := by
  refine met_i (wf := fun (u : (Nat → Option Nat) × (List Nat) × (Nat → Nat) × (Nat → Nat → Int32)) => wC cy ad I A u.1 u.2.1 u.2.2.1 u.2.2.2) R_Pw .int db_Pw_bridge (by decide) rfl rfl (Nat.le_of_ble_eq_true rfl) ?_
  intro p e s m below meth c Z Q ls C h hl hret
  have hl : lv_has ls 8 [(0, .ref (ad 0)), (1, .int a1), (2, .int a2), (3, .int a3), (4, .int a4), (5, .int a5)] := hl
  refine i_iload_n (n := 1) C 0 rfl rfl rfl hl 2 rfl ?_
  refine i_iconst (v := (0 : Int32)) (n := 2) C 1 rfl rfl rfl ?_
  refine i_sipush (v := (1000 : Int32)) (n := 5) C 2 rfl rfl rfl ?_
  refine i_callSp (rest := []) (n := 8) C 3 rfl rfl hl h (kS_Pw_69 ⟨by decide, by decide⟩) (m_Pw_isWithin hw) rfl rfl (Nat.le_of_ble_eq_true rfl) ⟨by decide, by decide⟩ (fun r1 hw => ?_)
  refine i_if_eq (tgt := 50) (n := 11) C 4 rfl rfl rfl (fun c2 => ?_) (fun c2 => ?_)
  · replace hw := hw.1 c2
    exact e_Pw_bridge_50 C hret  T L K F ls _ _ hl h hw
  · replace hw := hw.2 c2
    refine i_iload_n (n := 12) C 5 rfl rfl rfl hl 3 rfl ?_
    refine i_iconst (v := (1 : Int32)) (n := 13) C 6 rfl rfl rfl ?_
    refine i_sipush (v := (720 : Int32)) (n := 16) C 7 rfl rfl rfl ?_
    refine i_callSp (rest := []) (n := 19) C 8 rfl rfl hl h (kS_Pw_69 ⟨by decide, by decide⟩) (m_Pw_isWithin hw) rfl rfl (Nat.le_of_ble_eq_true rfl) ⟨by decide, by decide⟩ (fun r11 hw => ?_)
    refine i_if_eq (tgt := 50) (n := 22) C 9 rfl rfl rfl (fun c12 => ?_) (fun c12 => ?_)
    · replace hw := hw.1 c12
      exact e_Pw_bridge_50 C hret  T L K F ls _ _ hl h hw
    · replace hw := hw.2 c12
      refine i_iload (n := 24) C 10 rfl rfl hl 4 rfl ?_
      refine i_iconst (v := (0 : Int32)) (n := 25) C 11 rfl rfl rfl ?_
      refine i_sipush (v := (720 : Int32)) (n := 28) C 12 rfl rfl rfl ?_
      refine i_callSp (rest := []) (n := 31) C 13 rfl rfl hl h (kS_Pw_69 ⟨by decide, by decide⟩) (m_Pw_isWithin hw) rfl rfl (Nat.le_of_ble_eq_true rfl) ⟨by decide, by decide⟩ (fun r13 hw => ?_)
      refine i_if_eq (tgt := 50) (n := 34) C 14 rfl rfl rfl (fun c14 => ?_) (fun c14 => ?_)
      · replace hw := hw.1 c14
        exact e_Pw_bridge_50 C hret  T L K F ls _ _ hl h hw
      · replace hw := hw.2 c14
        refine i_iload (n := 36) C 15 rfl rfl hl 5 rfl ?_
        refine i_iconst (v := (0 : Int32)) (n := 37) C 16 rfl rfl rfl ?_
        refine i_sipush (v := (720 : Int32)) (n := 40) C 17 rfl rfl rfl ?_
        refine i_callSp (rest := []) (n := 43) C 18 rfl rfl hl h (kS_Pw_69 ⟨by decide, by decide⟩) (m_Pw_isWithin hw) rfl rfl (Nat.le_of_ble_eq_true rfl) ⟨by decide, by decide⟩ (fun r15 hw => ?_)
        refine i_if_eq (tgt := 50) (n := 46) C 19 rfl rfl rfl (fun c16 => ?_) (fun c16 => ?_)
        · replace hw := hw.1 c16
          exact e_Pw_bridge_50 C hret  T L K F ls _ _ hl h hw
        · replace hw := hw.2 c16
          refine i_iconst (v := (1 : Int32)) (n := 47) C 20 rfl rfl rfl ?_
          refine i_goto (tgt := 51) C 21 rfl rfl ?_
          exact e_Pw_bridge_51 C hret  T L K F (1 : Int32) ls _ _ hl h hw
end S36
theorem kIN_To_1 {R : Room} {s : State} {args : Array Value} (hR : 1 + 1 ≤ R.frames ∧ 8 + (1 + 11) + 20 ≤ R.locals) (ht : ∀ w ∈ GW, w.before args s = true) (hN : NX s) : va_CN R s args R_To 1 y_Th_init R_Pw c_Th_init 1 none (WL y_Th_init c_Th_init 1 none) { frames := 1, cells := 0, slots := 0, locals := 20 } 0 0 0 ∧ y_Th_init.name = "<init>" ∧ (Cond.instanceMethod y_Th_init).before args s = true := ⟨va_cnB 0 ht (GW_in (GW_wl w_2_128)) rfl rfl rfl (hN.1 _ (by simp [nxW])) (ht _ w_1_8) (by decide +kernel) hR, rfl, ht _ w_2_127⟩
section S37
variable {p : Program} {l : Launch} {e : Env} {R : Room} {s : State} {m : MethodId} {args : Array Value} {below : List Frame} {meth : Method} {c : Code} {H : Heap} {locs : List Loc} {cells slots : Nat} {Q : State → Prop}
variable {cc : ByteArray} {pc n nL : Nat} {ls : Array Slot} {rest : List Value} {D : va_G} {cy : Nat → ClassId} {Z : Nat → Prop} {ad : Nat → Nat} {tb : List (Nat × Instr × Nat)} {lv : List (Nat × Value)}
def g_To_init_To (F : Nat → Nat → Int32) (b : Nat) (a1 : Int32) (a2 : Int32) (a3 : Int32) (P : ((Nat → Nat → Int32)) → Prop) : Prop := g_Th_init  (fun u1 => (P (sF (sF (sF F b 0 a1) b 1 a2) b 2 a3)))
set_option maxHeartbeats 4000000 in
set_option maxRecDepth 100000 in
theorem m_To_init_To {l : Launch} {D : va_G} {cy : Nat → ClassId} {ad : Nat → Nat} {I : Nat → Int32} {A : Nat → Nat → Int32} {T : Nat → Option Nat} {L : List Nat} {K : Nat → Nat} {F : Nat → Nat → Int32} {b : Nat} {a1 : Int32} {a2 : Int32} {a3 : Int32} {P : ((Nat → Nat → Int32)) → Prop} (hbq : b ∈ L) (hbk : K b = 9) (hw : g_To_init_To F b a1 a2 a3 P) : ∀ sz, Met l y_To_init (WL y_To_init c_To_init 4 none) { frames := 2, cells := 0, slots := 0, locals := 40 } (va_Pc [.ref b, .int a1, .int a2, .int a3] (PreW D cy (wC cy ad I A T L K F) sz)) (va_Qv P (fun u t => PostW D (va_A (wC cy ad I A T L K F) sz) ((fun (u : (Nat → Nat → Int32)) => wC cy ad I A T L K u) u) t) (va_A (wC cy ad I A T L K F) sz)) 0 0 (va_A (wC cy ad I A T L K F) sz) := by
  refine met_v (wf := fun (u : (Nat → Nat → Int32)) => wC cy ad I A T L K u) R_To db_To_init (by decide) rfl (Nat.le_of_ble_eq_true rfl) ?_
  intro p e s m below meth c Z Q ls hin C h hl hret
  have hl : lv_has ls 4 [(0, .ref b), (1, .int a1), (2, .int a2), (3, .int a3)] := hl
  refine i_aload_n (n := 1) C 0 rfl rfl rfl hl 0 rfl ?_
  refine i_callINv (rest := []) (n := 4) C 1 rfl rfl hl h (kIN_To_1 ⟨by decide, by decide⟩) (m_Th_init hw) rfl rfl (Nat.le_of_ble_eq_true rfl) ⟨by decide, by decide⟩ (fun u1 H locs hw h => ?_)
  refine i_aload_n (n := 5) C 2 rfl rfl rfl hl 0 rfl ?_
  refine i_iload_n (n := 6) C 3 rfl rfl rfl hl 1 rfl ?_
  refine tp_To_7_To (n := 9) C 4 rfl rfl h hbq hbk hin (fun H locs h => ?_)
  refine i_aload_n (n := 10) C 5 rfl rfl rfl hl 0 rfl ?_
  refine i_iload_n (n := 11) C 6 rfl rfl rfl hl 2 rfl ?_
  refine tp_To_13_To (n := 14) C 7 rfl rfl h hbq hbk hin (fun H locs h => ?_)
  refine i_aload_n (n := 15) C 8 rfl rfl rfl hl 0 rfl ?_
  refine i_iload_n (n := 16) C 9 rfl rfl rfl hl 3 rfl ?_
  refine tp_To_16_To (n := 19) C 10 rfl rfl h hbq hbk (fun H locs h => ?_)
  exact hret (sF (sF (sF F b 0 a1) b 1 a2) b 2 a3) _ _ _ _ hw h (C.dg (k := 11) rfl)
end S37
theorem kI_Pw_156 {R : Room} {s : State} {args : Array Value} (hR : 2 + 1 ≤ R.frames ∧ 8 + (4 + 11) + 40 ≤ R.locals) (ht : ∀ w ∈ GW, w.before args s = true) : CallB R s args R_Pw 156 y_To_init c_To_init 4 none (WL y_To_init c_To_init 4 none) { frames := 2, cells := 0, slots := 0, locals := 40 } 0 0 3 ∧ y_To_init.name = "<init>" ∧ (Cond.instanceMethod y_To_init).before args s = true := cwI 3 ht (GW_in (GW_wl w_2_197)) rfl rfl rfl (ht _ w_1_12) (ht _ w_2_195) (ht _ w_2_196) rfl (by decide +kernel) hR
section S38
variable {p : Program} {l : Launch} {e : Env} {R : Room} {s : State} {m : MethodId} {args : Array Value} {below : List Frame} {meth : Method} {c : Code} {H : Heap} {locs : List Loc} {cells slots : Nat} {Q : State → Prop}
variable {cc : ByteArray} {pc n nL : Nat} {ls : Array Slot} {rest : List Value} {D : va_G} {cy : Nat → ClassId} {Z : Nat → Prop} {ad : Nat → Nat} {tb : List (Nat × Instr × Nat)} {lv : List (Nat × Value)}
def g_Pw_tower_36 (I : Nat → Int32) (a1 : Int32) (a2 : Int32) (a3 : Int32) (a4 : Int32) (P : Int32 → ((Nat → Option Nat) × (List Nat) × (Nat → Nat) × (Nat → Nat → Int32)) → Prop)  (T : Nat → Option Nat) (L : List Nat) (K : Nat → Nat) (F : Nat → Nat → Int32) (s0 : Int32) : Prop := g_Pw_refusalToHang I T a1 s0 (fun r3 => ((0 ≤ r3 → (∀ q5 : Nat, (g_To_init_To (va_up F q5 (fun _ => 0)) q5 a2 a3 a4 (fun u8 => (g_Ne_hang T (L ++ [q5]) (va_up K q5 9) a1 q5 (fun r9 u10 => (P r9 (u10, L ++ [q5], va_up K q5 9, u8)))))))) ∧ (¬ 0 ≤ r3 → (P r3 (T, L, K, F)))))
set_option maxHeartbeats 4000000 in
set_option maxRecDepth 100000 in
theorem e_Pw_tower_36 {I : Nat → Int32} {A : Nat → Nat → Int32} {a1 : Int32} {a2 : Int32} {a3 : Int32} {a4 : Int32} {P : Int32 → ((Nat → Option Nat) × (List Nat) × (Nat → Nat) × (Nat → Nat → Int32)) → Prop}  (C : CX D cy R_Pw c_Pw_tower tb_Pw_tower 7 p s m args c Z) (hret : RetI p l e { frames := 3, cells := 1, slots := 3, locals := 63 } s m args below meth c c_Pw_tower .int D Z Q (fun (u : (Nat → Option Nat) × (List Nat) × (Nat → Nat) × (Nat → Nat → Int32)) => wC cy ad I A u.1 u.2.1 u.2.2.1 u.2.2.2) P 1 3) :
    ∀ (T : Nat → Option Nat) (L : List Nat) (K : Nat → Nat) (F : Nat → Nat → Int32) (s0 : Int32) (ls : Array Slot) (H : Heap) (locs : List Loc), lv_has ls 7 [(0, .ref (ad 0)), (1, .int a1), (2, .int a2), (3, .int a3), (4, .int a4)] → HXw D Z s.heap H locs (wC cy ad I A T L K F) → g_Pw_tower_36 I a1 a2 a3 a4 P  T L K F s0 → W p l e { frames := 3, cells := 1, slots := 3, locals := 63 } s m args below meth c H locs 0 0 Q (F0 m 36 ls [.int s0]) := by
  intro T L K F s0 ls H locs hl h hw
  refine i_istore (lv' := [(5, .int s0), (0, .ref (ad 0)), (1, .int a1), (2, .int a2), (3, .int a3), (4, .int a4)]) (n := 38) C 18 rfl rfl hl (by decide) rfl (fun ls hl => ?_)
  refine i_aload_n (n := 39) C 19 rfl rfl rfl hl 1 rfl ?_
  refine i_iload_n (n := 40) C 20 rfl rfl rfl hl 2 rfl ?_
  refine i_iload (n := 42) C 21 rfl rfl hl 0 rfl ?_
  refine i_callVp (rest := []) (ci := 10) (qc := (R_Pw, T_Pw, 16)) (n := 45) C 22 rfl rfl hl h rfl (wC_get (h := 0) (by decide)) (kV_Pw_132 ⟨by decide, by decide⟩) (m_Pw_refusalToHang hw) rfl rfl (Nat.le_of_ble_eq_true rfl) ⟨by decide, by decide⟩ (fun r3 hw => ?_)
  refine i_istore (lv' := [(6, .int r3), (5, .int s0), (0, .ref (ad 0)), (1, .int a1), (2, .int a2), (3, .int a3), (4, .int a4)]) (n := 47) C 23 rfl rfl hl (by decide) rfl (fun ls hl => ?_)
  refine i_iload (n := 49) C 24 rfl rfl hl 0 rfl ?_
  refine i_if_ge (tgt := 57) (n := 52) C 25 rfl rfl rfl (fun c4 => ?_) (fun c4 => ?_)
  · replace hw := hw.1 c4
    refine i_aload_n (n := 58) C 28 rfl rfl rfl hl 2 rfl ?_
    refine fgC_Pw_10 (n := 61) C 29 rfl rfl h ?_
    refine i_iload_n (n := 62) C 30 rfl rfl rfl hl 3 rfl ?_
    refine nw_Pw_154 (n := 65) C 31 rfl rfl h (by decide) (by decide) (fun q5 H h => ?_)
    replace hw := hw q5
    have hq6 : q5 ∈ L ++ [q5] := List.mem_append_right _ List.mem_cons_self
    have hk7 : (va_up K q5 9) q5 = 9 := if_pos rfl
    refine i_dup (n := 66) C 32 rfl rfl rfl ?_
    refine i_iload_n (n := 67) C 33 rfl rfl rfl hl 4 rfl ?_
    refine i_iload_n (n := 68) C 34 rfl rfl rfl hl 5 rfl ?_
    refine i_iload (n := 70) C 35 rfl rfl hl 6 rfl ?_
    refine i_callIv (rest := [.ref q5, .int a1, .ref (ad 1)]) (n := 73) C 36 rfl rfl hl h (kI_Pw_156 ⟨by decide, by decide⟩) (m_To_init_To hq6 hk7 hw) rfl rfl (Nat.le_of_ble_eq_true rfl) ⟨by decide, by decide⟩ (fun u8 H locs hw h => ?_)
    refine i_callVi (rest := []) (ci := 5) (qc := (R_Ne, T_Ne, 17)) (n := 76) C 37 rfl rfl hl h rfl (wC_get (h := 1) (by decide)) (kV_Pw_141 ⟨by decide, by decide⟩) (m_Ne_hang hw) rfl rfl (Nat.le_of_ble_eq_true rfl) ⟨by decide, by decide⟩ (fun r9 u10 H locs hw h => ?_)
    exact hret _ (u10, L ++ [q5], va_up K q5 9, u8) _ _ _ _ rfl hw h (C.dg (k := 38) rfl)
  · replace hw := hw.2 c4
    refine i_iload (n := 54) C 26 rfl rfl hl 0 rfl ?_
    refine i_goto (tgt := 76) C 27 rfl rfl ?_
    refine W.widen (k := 1) (n := 3) (by decide) (by decide) ?_
    exact hret _ (T, L, K, F) _ _ _ _ rfl hw h (C.dg (k := 38) rfl)
def g_Pw_tower_35 (I : Nat → Int32) (a1 : Int32) (a2 : Int32) (a3 : Int32) (a4 : Int32) (P : Int32 → ((Nat → Option Nat) × (List Nat) × (Nat → Nat) × (Nat → Nat → Int32)) → Prop)  (T : Nat → Option Nat) (L : List Nat) (K : Nat → Nat) (F : Nat → Nat → Int32) : Prop := g_Pw_tower_36 I a1 a2 a3 a4 P  T L K F (0 : Int32)
set_option maxHeartbeats 4000000 in
set_option maxRecDepth 100000 in
theorem e_Pw_tower_35 {I : Nat → Int32} {A : Nat → Nat → Int32} {a1 : Int32} {a2 : Int32} {a3 : Int32} {a4 : Int32} {P : Int32 → ((Nat → Option Nat) × (List Nat) × (Nat → Nat) × (Nat → Nat → Int32)) → Prop}  (C : CX D cy R_Pw c_Pw_tower tb_Pw_tower 7 p s m args c Z) (hret : RetI p l e { frames := 3, cells := 1, slots := 3, locals := 63 } s m args below meth c c_Pw_tower .int D Z Q (fun (u : (Nat → Option Nat) × (List Nat) × (Nat → Nat) × (Nat → Nat → Int32)) => wC cy ad I A u.1 u.2.1 u.2.2.1 u.2.2.2) P 1 3) :
    ∀ (T : Nat → Option Nat) (L : List Nat) (K : Nat → Nat) (F : Nat → Nat → Int32) (ls : Array Slot) (H : Heap) (locs : List Loc), lv_has ls 7 [(0, .ref (ad 0)), (1, .int a1), (2, .int a2), (3, .int a3), (4, .int a4)] → HXw D Z s.heap H locs (wC cy ad I A T L K F) → g_Pw_tower_35 I a1 a2 a3 a4 P  T L K F → W p l e { frames := 3, cells := 1, slots := 3, locals := 63 } s m args below meth c H locs 0 0 Q (F0 m 35 ls []) := by
  intro T L K F ls H locs hl h hw
  refine i_iconst (v := (0 : Int32)) (n := 36) C 17 rfl rfl rfl ?_
  exact e_Pw_tower_36 C hret  T L K F (0 : Int32) ls _ _ hl h hw
def g_Pw_tower (I : Nat → Int32) (T : Nat → Option Nat) (L : List Nat) (K : Nat → Nat) (F : Nat → Nat → Int32) (a1 : Int32) (a2 : Int32) (a3 : Int32) (a4 : Int32) (P : Int32 → ((Nat → Option Nat) × (List Nat) × (Nat → Nat) × (Nat → Nat → Int32)) → Prop) : Prop := g_Pw_isWithin a2 (0 : Int32) (5000 : Int32) (fun r1 => ((r1 = 0 → (g_Pw_tower_35 I a1 a2 a3 a4 P  T L K F)) ∧ (¬ r1 = 0 → (g_Pw_isWithin a3 (1 : Int32) (100000 : Int32) (fun r11 => ((r11 = 0 → (g_Pw_tower_35 I a1 a2 a3 a4 P  T L K F)) ∧ (¬ r11 = 0 → (g_Pw_isWithin a4 (0 : Int32) a3 (fun r13 => ((r13 = 0 → (g_Pw_tower_35 I a1 a2 a3 a4 P  T L K F)) ∧ (¬ r13 = 0 → (g_Pw_tower_36 I a1 a2 a3 a4 P  T L K F (1 : Int32)))))))))))))
set_option maxHeartbeats 4000000 in
set_option maxRecDepth 100000 in
theorem m_Pw_tower {l : Launch} {D : va_G} {cy : Nat → ClassId} {ad : Nat → Nat} {I : Nat → Int32} {A : Nat → Nat → Int32} {T : Nat → Option Nat} {L : List Nat} {K : Nat → Nat} {F : Nat → Nat → Int32} {a1 : Int32} {a2 : Int32} {a3 : Int32} {a4 : Int32} {P : Int32 → ((Nat → Option Nat) × (List Nat) × (Nat → Nat) × (Nat → Nat → Int32)) → Prop} (hw : g_Pw_tower I T L K F a1 a2 a3 a4 P) : ∀ sz, Met l y_Pw_tower (WL y_Pw_tower c_Pw_tower 7 (some .int)) { frames := 3, cells := 1, slots := 3, locals := 63 } (va_Pc [.ref (ad 0), .int a1, .int a2, .int a3, .int a4] (PreW D cy (wC cy ad I A T L K F) sz)) (va_Qi P (fun u t => PostW D (va_A (wC cy ad I A T L K F) sz) ((fun (u : (Nat → Option Nat) × (List Nat) × (Nat → Nat) × (Nat → Nat → Int32)) => wC cy ad I A u.1 u.2.1 u.2.2.1 u.2.2.2) u) t) (va_A (wC cy ad I A T L K F) sz)) 1 3 (va_A (wC cy ad I A T L K F) sz) := by
  refine met_i (wf := fun (u : (Nat → Option Nat) × (List Nat) × (Nat → Nat) × (Nat → Nat → Int32)) => wC cy ad I A u.1 u.2.1 u.2.2.1 u.2.2.2) R_Pw .int db_Pw_tower (by decide) rfl rfl (Nat.le_of_ble_eq_true rfl) ?_
  intro p e s m below meth c Z Q ls C h hl hret
  have hl : lv_has ls 7 [(0, .ref (ad 0)), (1, .int a1), (2, .int a2), (3, .int a3), (4, .int a4)] := hl
  refine i_iload_n (n := 1) C 0 rfl rfl rfl hl 2 rfl ?_
  refine i_iconst (v := (0 : Int32)) (n := 2) C 1 rfl rfl rfl ?_
  refine i_sipush (v := (5000 : Int32)) (n := 5) C 2 rfl rfl rfl ?_
  refine i_callSp (rest := []) (n := 8) C 3 rfl rfl hl h (kS_Pw_69 ⟨by decide, by decide⟩) (m_Pw_isWithin hw) rfl rfl (Nat.le_of_ble_eq_true rfl) ⟨by decide, by decide⟩ (fun r1 hw => ?_)
  refine i_if_eq (tgt := 35) (n := 11) C 4 rfl rfl rfl (fun c2 => ?_) (fun c2 => ?_)
  · replace hw := hw.1 c2
    exact e_Pw_tower_35 C hret  T L K F ls _ _ hl h hw
  · replace hw := hw.2 c2
    refine i_iload_n (n := 12) C 5 rfl rfl rfl hl 3 rfl ?_
    refine i_iconst (v := (1 : Int32)) (n := 13) C 6 rfl rfl rfl ?_
    refine i_ldc (n := 15) C 7 rfl rfl w_2_192 ?_
    refine i_callSp (rest := []) (n := 18) C 8 rfl rfl hl h (kS_Pw_69 ⟨by decide, by decide⟩) (m_Pw_isWithin hw) rfl rfl (Nat.le_of_ble_eq_true rfl) ⟨by decide, by decide⟩ (fun r11 hw => ?_)
    refine i_if_eq (tgt := 35) (n := 21) C 9 rfl rfl rfl (fun c12 => ?_) (fun c12 => ?_)
    · replace hw := hw.1 c12
      exact e_Pw_tower_35 C hret  T L K F ls _ _ hl h hw
    · replace hw := hw.2 c12
      refine i_iload (n := 23) C 10 rfl rfl hl 4 rfl ?_
      refine i_iconst (v := (0 : Int32)) (n := 24) C 11 rfl rfl rfl ?_
      refine i_iload_n (n := 25) C 12 rfl rfl rfl hl 3 rfl ?_
      refine i_callSp (rest := []) (n := 28) C 13 rfl rfl hl h (kS_Pw_69 ⟨by decide, by decide⟩) (m_Pw_isWithin hw) rfl rfl (Nat.le_of_ble_eq_true rfl) ⟨by decide, by decide⟩ (fun r13 hw => ?_)
      refine i_if_eq (tgt := 35) (n := 31) C 14 rfl rfl rfl (fun c14 => ?_) (fun c14 => ?_)
      · replace hw := hw.1 c14
        exact e_Pw_tower_35 C hret  T L K F ls _ _ hl h hw
      · replace hw := hw.2 c14
        refine i_iconst (v := (1 : Int32)) (n := 32) C 15 rfl rfl rfl ?_
        refine i_goto (tgt := 36) C 16 rfl rfl ?_
        exact e_Pw_tower_36 C hret  T L K F (1 : Int32) ls _ _ hl h hw
end S38
