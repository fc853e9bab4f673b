theorem kV_Pw_93 {R : Room} {s : State} {args : Array Value} (hR : 0 + 1 ≤ R.frames ∧ 8 + (2 + 11) + 0 ≤ R.locals) (ht : ∀ w ∈ GW, w.before args s = true) : CallW R s args R_Pw R_Pi 93 y_Pi_hasValve c_Pi_hasValve 2 (some .boolean) (WL y_Pi_hasValve c_Pi_hasValve 2 (some .boolean)) { frames := 0, cells := 0, slots := 0, locals := 0 } 0 0 1 := cwV 1 ht (GW_v w_2_62 w_2_63 w_2_64 w_1_3 (GW_wl w_2_65)) rfl rfl rfl (by decide +kernel) hR
theorem kV_Pw_96 {R : Room} {s : State} {args : Array Value} (hR : 2 + 1 ≤ R.frames ∧ 8 + (2 + 11) + 42 ≤ R.locals) (ht : ∀ w ∈ GW, w.before args s = true) : CallW R s args R_Pw R_Pi 96 y_Pi_turnValve c_Pi_turnValve 2 (some .int) (WL y_Pi_turnValve c_Pi_turnValve 2 (some .int)) { frames := 2, cells := 0, slots := 0, locals := 42 } 0 0 1 := cwV 1 ht (GW_v w_2_66 w_2_67 w_2_68 w_1_3 (GW_wl w_2_69)) rfl rfl rfl (by decide +kernel) hR
section S17
variable {p : Program} {l : Launch} {e : Env} {R : Room} {s : State} {m : MethodId} {args : Array Value} {below : List Frame} {meth : Method} {c : Code} {H : Heap} {locs : List Loc} {cells slots : Nat} {Q : State → Prop}
variable {cc : ByteArray} {pc n nL : Nat} {ls : Array Slot} {rest : List Value} {D : va_G} {cy : Nat → ClassId} {Z : Nat → Prop} {ad : Nat → Nat} {tb : List (Nat × Instr × Nat)} {lv : List (Nat × Value)}
set_option maxHeartbeats 4000000 in
set_option maxRecDepth 100000 in
theorem m_Pw_turn {l : Launch} {D : va_G} {cy : Nat → ClassId} {ad : Nat → Nat} {I : Nat → Int32} {A : Nat → Nat → Int32} {T : Nat → Option Nat} {L : List Nat} {K : Nat → Nat} {F : Nat → Nat → Int32} {a1 : Int32} {P : Int32 → ((Nat → Int32)) → Prop} (hw : g_Pw_turn I a1 P) : ∀ sz, Met l y_Pw_turn (WL y_Pw_turn c_Pw_turn 2 (some .int)) { frames := 3, cells := 0, slots := 0, locals := 63 } (va_Pc [.ref (ad 0), .int a1] (PreW D cy (wC cy ad I A T L K F) sz)) (va_Qi P (fun u t => PostW D (va_A (wC cy ad I A T L K F) sz) ((fun (u : (Nat → Int32)) => wC cy ad u A T L K F) u) t) (va_A (wC cy ad I A T L K F) sz)) 0 0 (va_A (wC cy ad I A T L K F) sz) := by
  refine met_i (wf := fun (u : (Nat → Int32)) => wC cy ad u A T L K F) R_Pw .int db_Pw_turn (by decide) rfl rfl (Nat.le_of_ble_eq_true rfl) ?_
  intro p e s m below meth c Z Q ls C h hl hret
  have hl : lv_has ls 2 [(0, .ref (ad 0)), (1, .int a1)] := hl
  refine i_aload_n (n := 1) C 0 rfl rfl rfl hl 0 rfl ?_
  refine fgC_Pw_20 (n := 4) C 1 rfl rfl h ?_
  refine i_iload_n (n := 5) C 2 rfl rfl rfl hl 1 rfl ?_
  refine i_callVp (rest := []) (ci := 7) (qc := (R_Pi, T_Pi, 8)) (n := 8) C 3 rfl rfl hl h rfl (wC_get (h := 2) (by decide)) (kV_Pw_93 ⟨by decide, by decide⟩) (m_Pi_hasValve hw) rfl rfl (Nat.le_of_ble_eq_true rfl) ⟨by decide, by decide⟩ (fun r1 hw => ?_)
  refine i_if_eq (tgt := 22) (n := 11) C 4 rfl rfl rfl (fun c2 => ?_) (fun c2 => ?_)
  · replace hw := hw.1 c2
    refine i_iconst (v := (-1 : Int32)) (n := 23) C 10 rfl rfl rfl ?_
    exact hret _ I _ _ _ _ rfl hw h (C.dg (k := 11) rfl)
  · replace hw := hw.2 c2
    refine i_aload_n (n := 12) C 5 rfl rfl rfl hl 0 rfl ?_
    refine fgC_Pw_20 (n := 15) C 6 rfl rfl h ?_
    refine i_iload_n (n := 16) C 7 rfl rfl rfl hl 1 rfl ?_
    refine i_callVi (rest := []) (ci := 7) (qc := (R_Pi, T_Pi, 8)) (n := 19) C 8 rfl rfl hl h rfl (wC_get (h := 2) (by decide)) (kV_Pw_96 ⟨by decide, by decide⟩) (m_Pi_turnValve hw) rfl rfl (Nat.le_of_ble_eq_true rfl) ⟨by decide, by decide⟩ (fun r3 u4 H locs hw h => ?_)
    refine i_goto (tgt := 23) C 9 rfl rfl ?_
    exact hret _ u4 _ _ _ _ rfl hw h (C.dg (k := 11) rfl)
end S17
section S18
variable {p : Program} {l : Launch} {e : Env} {R : Room} {s : State} {m : MethodId} {args : Array Value} {below : List Frame} {meth : Method} {c : Code} {H : Heap} {locs : List Loc} {cells slots : Nat} {Q : State → Prop}
variable {cc : ByteArray} {pc n nL : Nat} {ls : Array Slot} {rest : List Value} {D : va_G} {cy : Nat → ClassId} {Z : Nat → Prop} {ad : Nat → Nat} {tb : List (Nat × Instr × Nat)} {lv : List (Nat × Value)}
set_option maxHeartbeats 4000000 in
set_option maxRecDepth 100000 in
theorem e_Pi_isOpen_20 {I : Nat → Int32} {A : Nat → Nat → Int32} {T : Nat → Option Nat} {L : List Nat} {K : Nat → Nat} {F : Nat → Nat → Int32} {a1 : Int32} {P : Int32 → Prop}  (C : CX D cy R_Pi c_Pi_isOpen tb_Pi_isOpen 3 p s m args c Z) (h : HXw D Z s.heap H locs (wC cy ad I A T L K F)) (hret : RetP p l e { frames := 2, cells := 0, slots := 0, locals := 44 } s m args below meth c c_Pi_isOpen .boolean H locs Q P) :
    ∀ (ls : Array Slot), lv_has ls 3 [] → g_Pi_isOpen_20 I A a1 P   → W p l e { frames := 2, cells := 0, slots := 0, locals := 44 } s m args below meth c H locs 0 0 Q (F0 m 20 ls []) := by
  intro  ls hl hw
  refine i_iconst (v := (1 : Int32)) (n := 21) C 11 rfl rfl rfl ?_
  refine i_goto (tgt := 25) C 12 rfl rfl ?_
  exact hret _ _ _ rfl hw (C.dg (k := 14) rfl)
set_option maxHeartbeats 4000000 in
set_option maxRecDepth 100000 in
theorem m_Pi_isOpen {l : Launch} {D : va_G} {cy : Nat → ClassId} {ad : Nat → Nat} {I : Nat → Int32} {A : Nat → Nat → Int32} {T : Nat → Option Nat} {L : List Nat} {K : Nat → Nat} {F : Nat → Nat → Int32} {a1 : Int32} {P : Int32 → Prop} (hw : g_Pi_isOpen I A a1 P) : ∀ sz, Met l y_Pi_isOpen (WL y_Pi_isOpen c_Pi_isOpen 3 (some .boolean)) { frames := 2, cells := 0, slots := 0, locals := 44 } (va_Pc [.ref (ad 2), .int a1] (PreW D cy (wC cy ad I A T L K F) sz)) (vp_Si P) 0 0 (fun _ => False) := by
  refine met_p R_Pi .boolean db_Pi_isOpen (by decide) rfl rfl (Nat.le_of_ble_eq_true rfl) ?_
  intro p e s m below meth c Z Q ls C h hl hret
  have hl : lv_has ls 3 [(0, .ref (ad 2)), (1, .int a1)] := hl
  refine i_aload_n (n := 1) C 0 rfl rfl rfl hl 0 rfl ?_
  refine i_iload_n (n := 2) C 1 rfl rfl rfl hl 1 rfl ?_
  refine i_callVp (rest := []) (ci := 7) (qc := (R_Pi, T_Pi, 8)) (n := 5) C 2 rfl rfl hl h rfl (wC_get (h := 2) (by decide)) (kV_Pi_34 ⟨by decide, by decide⟩) (m_Pi_valveOn hw) rfl rfl (Nat.le_of_ble_eq_true rfl) ⟨by decide, by decide⟩ (fun r1 hw => ?_)
  refine i_istore_n (lv' := [(2, .int r1), (0, .ref (ad 2)), (1, .int a1)]) (n := 6) C 3 rfl rfl rfl hl (by decide) rfl (fun ls hl => ?_)
  refine i_iload_n (n := 7) C 4 rfl rfl rfl hl 0 rfl ?_
  refine i_bipush (v := (-6 : Int32)) (n := 9) C 5 rfl rfl rfl ?_
  refine i_icmp_eq (tgt := 20) (n := 12) C 6 rfl rfl rfl (fun c2 => ?_) (fun c2 => ?_)
  · replace hw := hw.1 c2
    exact e_Pi_isOpen_20 C h hret   ls (lv_sub hl [] rfl) hw
  · replace hw := hw.2 c2
    refine i_aload_n (n := 13) C 7 rfl rfl rfl hl 1 rfl ?_
    refine i_iload_n (n := 14) C 8 rfl rfl rfl hl 0 rfl ?_
    refine i_callVp (rest := []) (ci := 7) (qc := (R_Pi, T_Pi, 8)) (n := 17) C 9 rfl rfl hl h rfl (wC_get (h := 2) (by decide)) (kV_Pi_52 ⟨by decide, by decide⟩) (m_Pi_isShut hw) rfl rfl (Nat.le_of_ble_eq_true rfl) ⟨by decide, by decide⟩ (fun r3 hw => ?_)
    refine i_if_ne (tgt := 24) (n := 20) C 10 rfl rfl rfl (fun c4 => ?_) (fun c4 => ?_)
    · replace hw := hw.1 c4
      refine i_iconst (v := (0 : Int32)) (n := 25) C 13 rfl rfl rfl ?_
      exact hret _ _ _ rfl hw (C.dg (k := 14) rfl)
    · replace hw := hw.2 c4
      exact e_Pi_isOpen_20 C h hret   ls (lv_sub hl [] rfl) hw
end S18
section S19
variable {p : Program} {l : Launch} {e : Env} {R : Room} {s : State} {m : MethodId} {args : Array Value} {below : List Frame} {meth : Method} {c : Code} {H : Heap} {locs : List Loc} {cells slots : Nat} {Q : State → Prop}
variable {cc : ByteArray} {pc n nL : Nat} {ls : Array Slot} {rest : List Value} {D : va_G} {cy : Nat → ClassId} {Z : Nat → Prop} {ad : Nat → Nat} {tb : List (Nat × Instr × Nat)} {lv : List (Nat × Value)}
set_option maxHeartbeats 4000000 in
set_option maxRecDepth 100000 in
theorem e_Pi_isOpenByMap_20 {I : Nat → Int32} {A : Nat → Nat → Int32} {T : Nat → Option Nat} {L : List Nat} {K : Nat → Nat} {F : Nat → Nat → Int32} {a1 : Int32} {P : Int32 → Prop}  (C : CX D cy R_Pi c_Pi_isOpenByMap tb_Pi_isOpenByMap 3 p s m args c Z) (h : HXw D Z s.heap H locs (wC cy ad I A T L K F)) (hret : RetP p l e { frames := 2, cells := 0, slots := 0, locals := 44 } s m args below meth c c_Pi_isOpenByMap .boolean H locs Q P) :
    ∀ (ls : Array Slot), lv_has ls 3 [] → g_Pi_isOpenByMap_20 I A a1 P   → W p l e { frames := 2, cells := 0, slots := 0, locals := 44 } s m args below meth c H locs 0 0 Q (F0 m 20 ls []) := by
  intro  ls hl hw
  refine i_iconst (v := (1 : Int32)) (n := 21) C 11 rfl rfl rfl ?_
  refine i_goto (tgt := 25) C 12 rfl rfl ?_
  exact hret _ _ _ rfl hw (C.dg (k := 14) rfl)
set_option maxHeartbeats 4000000 in
set_option maxRecDepth 100000 in
theorem m_Pi_isOpenByMap {l : Launch} {D : va_G} {cy : Nat → ClassId} {ad : Nat → Nat} {I : Nat → Int32} {A : Nat → Nat → Int32} {T : Nat → Option Nat} {L : List Nat} {K : Nat → Nat} {F : Nat → Nat → Int32} {a1 : Int32} {P : Int32 → Prop} (hw : g_Pi_isOpenByMap I A a1 P) : ∀ sz, Met l y_Pi_isOpenByMap (WL y_Pi_isOpenByMap c_Pi_isOpenByMap 3 (some .boolean)) { frames := 2, cells := 0, slots := 0, locals := 44 } (va_Pc [.ref (ad 2), .int a1] (PreW D cy (wC cy ad I A T L K F) sz)) (vp_Si P) 0 0 (fun _ => False) := by
  refine met_p R_Pi .boolean db_Pi_isOpenByMap (by decide) rfl rfl (Nat.le_of_ble_eq_true rfl) ?_
  intro p e s m below meth c Z Q ls C h hl hret
  have hl : lv_has ls 3 [(0, .ref (ad 2)), (1, .int a1)] := hl
  refine i_aload_n (n := 1) C 0 rfl rfl rfl hl 0 rfl ?_
  refine i_iload_n (n := 2) C 1 rfl rfl rfl hl 1 rfl ?_
  refine i_callVp (rest := []) (ci := 7) (qc := (R_Pi, T_Pi, 8)) (n := 5) C 2 rfl rfl hl h rfl (wC_get (h := 2) (by decide)) (kV_Pi_38 ⟨by decide, by decide⟩) (m_Pi_valveTold hw) rfl rfl (Nat.le_of_ble_eq_true rfl) ⟨by decide, by decide⟩ (fun r1 hw => ?_)
  refine i_istore_n (lv' := [(2, .int r1), (0, .ref (ad 2)), (1, .int a1)]) (n := 6) C 3 rfl rfl rfl hl (by decide) rfl (fun ls hl => ?_)
  refine i_iload_n (n := 7) C 4 rfl rfl rfl hl 0 rfl ?_
  refine i_bipush (v := (-6 : Int32)) (n := 9) C 5 rfl rfl rfl ?_
  refine i_icmp_eq (tgt := 20) (n := 12) C 6 rfl rfl rfl (fun c2 => ?_) (fun c2 => ?_)
  · replace hw := hw.1 c2
    exact e_Pi_isOpenByMap_20 C h hret   ls (lv_sub hl [] rfl) hw
  · replace hw := hw.2 c2
    refine i_aload_n (n := 13) C 7 rfl rfl rfl hl 1 rfl ?_
    refine i_iload_n (n := 14) C 8 rfl rfl rfl hl 0 rfl ?_
    refine i_callVp (rest := []) (ci := 7) (qc := (R_Pi, T_Pi, 8)) (n := 17) C 9 rfl rfl hl h rfl (wC_get (h := 2) (by decide)) (kV_Pi_52 ⟨by decide, by decide⟩) (m_Pi_isShut hw) rfl rfl (Nat.le_of_ble_eq_true rfl) ⟨by decide, by decide⟩ (fun r3 hw => ?_)
    refine i_if_ne (tgt := 24) (n := 20) C 10 rfl rfl rfl (fun c4 => ?_) (fun c4 => ?_)
    · replace hw := hw.1 c4
      refine i_iconst (v := (0 : Int32)) (n := 25) C 13 rfl rfl rfl ?_
      exact hret _ _ _ rfl hw (C.dg (k := 14) rfl)
    · replace hw := hw.2 c4
      exact e_Pi_isOpenByMap_20 C h hret   ls (lv_sub hl [] rfl) hw
end S19
theorem kV_Pw_100 {R : Room} {s : State} {args : Array Value} (hR : 2 + 1 ≤ R.frames ∧ 8 + (3 + 11) + 44 ≤ R.locals) (ht : ∀ w ∈ GW, w.before args s = true) : CallW R s args R_Pw R_Pi 100 y_Pi_isOpen c_Pi_isOpen 3 (some .boolean) (WL y_Pi_isOpen c_Pi_isOpen 3 (some .boolean)) { frames := 2, cells := 0, slots := 0, locals := 44 } 0 0 1 := cwV 1 ht (GW_v w_2_84 w_2_85 w_2_86 w_1_3 (GW_wl w_2_87)) rfl rfl rfl (by decide +kernel) hR
theorem kS_Pw_103 {R : Room} {s : State} {args : Array Value} (hR : 0 + 1 ≤ R.frames ∧ 8 + (1 + 11) + 0 ≤ R.locals) (ht : ∀ w ∈ GW, w.before args s = true) : CallB R s args R_Pw 103 y_Pw_bit c_Pw_bit 1 (some .int) (WL y_Pw_bit c_Pw_bit 1 (some .int)) { frames := 0, cells := 0, slots := 0, locals := 0 } 0 0 1 ∧ (Cond.static y_Pw_bit).before args s = true := cwS 1 ht (GW_s w_2_88 w_2_78 w_1_1 (GW_wl w_2_79)) rfl rfl rfl (by decide +kernel) hR
theorem kV_Pw_107 {R : Room} {s : State} {args : Array Value} (hR : 2 + 1 ≤ R.frames ∧ 8 + (3 + 11) + 44 ≤ R.locals) (ht : ∀ w ∈ GW, w.before args s = true) : CallW R s args R_Pw R_Pi 107 y_Pi_isOpenByMap c_Pi_isOpenByMap 3 (some .boolean) (WL y_Pi_isOpenByMap c_Pi_isOpenByMap 3 (some .boolean)) { frames := 2, cells := 0, slots := 0, locals := 44 } 0 0 1 := cwV 1 ht (GW_v w_2_89 w_2_90 w_2_91 w_1_3 (GW_wl w_2_92)) rfl rfl rfl (by decide +kernel) hR
theorem kV_Pw_119 {R : Room} {s : State} {args : Array Value} (hR : 1 + 1 ≤ R.frames ∧ 8 + (2 + 11) + 23 ≤ R.locals) (ht : ∀ w ∈ GW, w.before args s = true) : CallW R s args R_Pw R_Pi 119 y_Pi_valveOn c_Pi_valveOn 2 (some .int) (WL y_Pi_valveOn c_Pi_valveOn 2 (some .int)) { frames := 1, cells := 0, slots := 0, locals := 23 } 0 0 1 := cwV 1 ht (GW_v w_2_93 w_2_47 w_2_48 w_1_3 (GW_wl w_2_49)) rfl rfl rfl (by decide +kernel) hR
section S20
variable {p : Program} {l : Launch} {e : Env} {R : Room} {s : State} {m : MethodId} {args : Array Value} {below : List Frame} {meth : Method} {c : Code} {H : Heap} {locs : List Loc} {cells slots : Nat} {Q : State → Prop}
variable {cc : ByteArray} {pc n nL : Nat} {ls : Array Slot} {rest : List Value} {D : va_G} {cy : Nat → ClassId} {Z : Nat → Prop} {ad : Nat → Nat} {tb : List (Nat × Instr × Nat)} {lv : List (Nat × Value)}
set_option maxHeartbeats 4000000 in
set_option maxRecDepth 100000 in
theorem m_Pw_ofMain {l : Launch} {D : va_G} {cy : Nat → ClassId} {ad : Nat → Nat} {I : Nat → Int32} {A : Nat → Nat → Int32} {T : Nat → Option Nat} {L : List Nat} {K : Nat → Nat} {F : Nat → Nat → Int32} {a1 : Int32} {a2 : Int32} {P : Int32 → Prop} (hw : g_Pw_ofMain I A a1 a2 P) : ∀ sz, Met l y_Pw_ofMain (WL y_Pw_ofMain c_Pw_ofMain 3 (some .int)) { frames := 3, cells := 0, slots := 0, locals := 66 } (va_Pc [.ref (ad 0), .int a1, .int a2] (PreW D cy (wC cy ad I A T L K F) sz)) (vp_Si P) 0 0 (fun _ => False) := by
  refine met_p R_Pw .int db_Pw_ofMain (by decide) rfl rfl (Nat.le_of_ble_eq_true rfl) ?_
  intro p e s m below meth c Z Q ls C h hl hret
  have hl : lv_has ls 3 [(0, .ref (ad 0)), (1, .int a1), (2, .int a2)] := hl
  refine i_aload_n (n := 1) C 0 rfl rfl rfl hl 0 rfl ?_
  refine fgC_Pw_20 (n := 4) C 1 rfl rfl h ?_
  refine i_iload_n (n := 5) C 2 rfl rfl rfl hl 1 rfl ?_
  refine i_callVp (rest := []) (ci := 7) (qc := (R_Pi, T_Pi, 8)) (n := 8) C 3 rfl rfl hl h rfl (wC_get (h := 2) (by decide)) (kV_Pw_87 ⟨by decide, by decide⟩) (m_Pi_hasMain hw) rfl rfl (Nat.le_of_ble_eq_true rfl) ⟨by decide, by decide⟩ (fun r1 hw => ?_)
  refine i_if_ne (tgt := 13) (n := 11) C 4 rfl rfl rfl (fun c2 => ?_) (fun c2 => ?_)
  · replace hw := hw.1 c2
    refine i_iload_n (n := 14) C 7 rfl rfl rfl hl 2 rfl ?_
    by_cases c3 : a2 = (0 : Int32)
    · replace hw := hw.1 c3
      refine i_tsw (tgt := 52) C 8 rfl c3 (by decide) (by decide) rfl rfl ?_
      refine i_aload_n (n := 53) C 9 rfl rfl rfl hl 0 rfl ?_
      refine fgC_Pw_20 (n := 56) C 10 rfl rfl h ?_
      refine i_iload_n (n := 57) C 11 rfl rfl rfl hl 1 rfl ?_
      refine i_callVp (rest := []) (ci := 7) (qc := (R_Pi, T_Pi, 8)) (n := 60) C 12 rfl rfl hl h rfl (wC_get (h := 2) (by decide)) (kV_Pw_100 ⟨by decide, by decide⟩) (m_Pi_isOpen hw) rfl rfl (Nat.le_of_ble_eq_true rfl) ⟨by decide, by decide⟩ (fun r4 hw => ?_)
      refine i_callSp (rest := []) (n := 63) C 13 rfl rfl hl h (kS_Pw_103 ⟨by decide, by decide⟩) (m_Pw_bit hw) rfl rfl (Nat.le_of_ble_eq_true rfl) ⟨by decide, by decide⟩ (fun r5 hw => ?_)
      exact hret _ _ _ rfl hw (C.dg (k := 14) rfl)
    replace hw := hw.2
    by_cases c6 : a2 = (1 : Int32)
    · replace hw := hw.1 c6
      refine i_tsw (tgt := 64) C 8 rfl c6 (by decide) (by decide) rfl rfl ?_
      refine i_aload_n (n := 65) C 15 rfl rfl rfl hl 0 rfl ?_
      refine fgC_Pw_20 (n := 68) C 16 rfl rfl h ?_
      refine i_iload_n (n := 69) C 17 rfl rfl rfl hl 1 rfl ?_
      refine i_callVp (rest := []) (ci := 7) (qc := (R_Pi, T_Pi, 8)) (n := 72) C 18 rfl rfl hl h rfl (wC_get (h := 2) (by decide)) (kV_Pw_107 ⟨by decide, by decide⟩) (m_Pi_isOpenByMap hw) rfl rfl (Nat.le_of_ble_eq_true rfl) ⟨by decide, by decide⟩ (fun r7 hw => ?_)
      refine i_callSp (rest := []) (n := 75) C 19 rfl rfl hl h (kS_Pw_103 ⟨by decide, by decide⟩) (m_Pw_bit hw) rfl rfl (Nat.le_of_ble_eq_true rfl) ⟨by decide, by decide⟩ (fun r8 hw => ?_)
      exact hret _ _ _ rfl hw (C.dg (k := 20) rfl)
    replace hw := hw.2
    by_cases c9 : a2 = (2 : Int32)
    · replace hw := hw.1 c9
      refine i_tsw (tgt := 76) C 8 rfl c9 (by decide) (by decide) rfl rfl ?_
      refine i_aload_n (n := 77) C 21 rfl rfl rfl hl 0 rfl ?_
      refine fgC_Pw_20 (n := 80) C 22 rfl rfl h ?_
      refine fgC_Pw_110 (n := 83) C 23 rfl rfl h ?_
      refine i_iload_n (n := 84) C 24 rfl rfl rfl hl 1 rfl ?_
      obtain ⟨hb, hw⟩ := hw
      refine i_iald (n := 85) C 25 rfl rfl h (wC_arr 19 (by decide) rfl) hb ?_
      exact hret _ _ _ rfl hw (C.dg (k := 26) rfl)
    replace hw := hw.2
    by_cases c10 : a2 = (3 : Int32)
    · replace hw := hw.1 c10
      refine i_tsw (tgt := 86) C 8 rfl c10 (by decide) (by decide) rfl rfl ?_
      refine i_aload_n (n := 87) C 27 rfl rfl rfl hl 0 rfl ?_
      refine fgC_Pw_20 (n := 90) C 28 rfl rfl h ?_
      refine fgC_Pw_113 (n := 93) C 29 rfl rfl h ?_
      refine i_iload_n (n := 94) C 30 rfl rfl rfl hl 1 rfl ?_
      obtain ⟨hb, hw⟩ := hw
      refine i_iald (n := 95) C 31 rfl rfl h (wC_arr 17 (by decide) rfl) hb ?_
      exact hret _ _ _ rfl hw (C.dg (k := 32) rfl)
    replace hw := hw.2
    by_cases c11 : a2 = (4 : Int32)
    · replace hw := hw.1 c11
      refine i_tsw (tgt := 96) C 8 rfl c11 (by decide) (by decide) rfl rfl ?_
      refine i_aload_n (n := 97) C 33 rfl rfl rfl hl 0 rfl ?_
      refine fgC_Pw_20 (n := 100) C 34 rfl rfl h ?_
      refine fgC_Pw_116 (n := 103) C 35 rfl rfl h ?_
      refine i_iload_n (n := 104) C 36 rfl rfl rfl hl 1 rfl ?_
      obtain ⟨hb, hw⟩ := hw
      refine i_iald (n := 105) C 37 rfl rfl h (wC_arr 18 (by decide) rfl) hb ?_
      exact hret _ _ _ rfl hw (C.dg (k := 38) rfl)
    replace hw := hw.2
    by_cases c12 : a2 = (5 : Int32)
    · replace hw := hw.1 c12
      refine i_tsw (tgt := 106) C 8 rfl c12 (by decide) (by decide) rfl rfl ?_
      refine i_aload_n (n := 107) C 39 rfl rfl rfl hl 0 rfl ?_
      refine fgC_Pw_20 (n := 110) C 40 rfl rfl h ?_
      refine i_iload_n (n := 111) C 41 rfl rfl rfl hl 1 rfl ?_
      refine i_callVp (rest := []) (ci := 7) (qc := (R_Pi, T_Pi, 8)) (n := 114) C 42 rfl rfl hl h rfl (wC_get (h := 2) (by decide)) (kV_Pw_119 ⟨by decide, by decide⟩) (m_Pi_valveOn hw) rfl rfl (Nat.le_of_ble_eq_true rfl) ⟨by decide, by decide⟩ (fun r13 hw => ?_)
      exact hret _ _ _ rfl hw (C.dg (k := 43) rfl)
    replace hw := hw.2
    replace hw := hw c3
    replace hw := hw c6
    replace hw := hw c9
    replace hw := hw c10
    replace hw := hw c11
    replace hw := hw c12
    refine i_tswd (tgt := 115) C 8 rfl (fun j hj => match j, hj with | 0, _ => lv_neT c3 rfl | 1, _ => lv_neT c6 rfl | 2, _ => lv_neT c9 rfl | 3, _ => lv_neT c10 rfl | 4, _ => lv_neT c11 rfl | 5, _ => lv_neT c12 rfl | j + 6, hj => absurd hj (by omega)) rfl ?_
    refine i_bipush (v := (-2 : Int32)) (n := 117) C 44 rfl rfl rfl ?_
    exact hret _ _ _ rfl hw (C.dg (k := 45) rfl)
  · replace hw := hw.2 c2
    refine i_iconst (v := (-1 : Int32)) (n := 12) C 5 rfl rfl rfl ?_
    exact hret _ _ _ rfl hw (C.dg (k := 6) rfl)
end S20
section S21
variable {p : Program} {l : Launch} {e : Env} {R : Room} {s : State} {m : MethodId} {args : Array Value} {below : List Frame} {meth : Method} {c : Code} {H : Heap} {locs : List Loc} {cells slots : Nat} {Q : State → Prop}
variable {cc : ByteArray} {pc n nL : Nat} {ls : Array Slot} {rest : List Value} {D : va_G} {cy : Nat → ClassId} {Z : Nat → Prop} {ad : Nat → Nat} {tb : List (Nat × Instr × Nat)} {lv : List (Nat × Value)}
set_option maxHeartbeats 4000000 in
set_option maxRecDepth 100000 in
theorem e_Pi_wrongValve_37 {I : Nat → Int32} {A : Nat → Nat → Int32} {T : Nat → Option Nat} {L : List Nat} {K : Nat → Nat} {F : Nat → Nat → Int32} {a1 : Int32} {P : Int32 → Prop} {kb4 : Int32 → Int32 → Prop} (C : CX D cy R_Pi c_Pi_wrongValve tb_Pi_wrongValve 4 p s m args c Z) (h : HXw D Z s.heap H locs (wC cy ad I A T L K F)) (hret : RetP p l e { frames := 0, cells := 0, slots := 0, locals := 0 } s m args below meth c c_Pi_wrongValve .int H locs Q P)
    (hb4 : ∀ (x2 : Int32) (x3 : Int32) (ls : Array Slot), lv_has ls 4 [(0, .ref (ad 2)), (1, .int a1), (2, .int x2), (3, .int x3)] → kb4 x2 x3 → W p l e { frames := 0, cells := 0, slots := 0, locals := 0 } s m args below meth c H locs 0 0 Q (F0 m 4 ls [])) :
    ∀ (x2 : Int32) (x3 : Int32) (ls : Array Slot), lv_has ls 4 [(0, .ref (ad 2)), (1, .int a1), (2, .int x2), (3, .int x3)] → g_Pi_wrongValve_37 I A a1 P kb4 x2 x3 → W p l e { frames := 0, cells := 0, slots := 0, locals := 0 } s m args below meth c H locs 0 0 Q (F0 m 37 ls []) := by
  intro x2 x3 ls hl hw
  refine i_iinc (v := x3 + (1 : Int32)) (lv' := [(3, .int (x3 + (1 : Int32))), (0, .ref (ad 2)), (1, .int a1), (2, .int x2)]) (n := 40) C 23 rfl rfl hl 3 rfl rfl (by decide) rfl (fun ls hl => ?_)
  refine i_goto (tgt := 4) C 24 rfl rfl ?_
  exact hb4 x2 (x3 + (1 : Int32)) ls (lv_sub hl [1, 2, 3, 0] rfl) hw
set_option maxHeartbeats 4000000 in
set_option maxRecDepth 100000 in
theorem e_Pi_wrongValve_4 {I : Nat → Int32} {A : Nat → Nat → Int32} {T : Nat → Option Nat} {L : List Nat} {K : Nat → Nat} {F : Nat → Nat → Int32} {a1 : Int32} {P : Int32 → Prop} {kx4 : Int32 → Prop} (C : CX D cy R_Pi c_Pi_wrongValve tb_Pi_wrongValve 4 p s m args c Z) (h : HXw D Z s.heap H locs (wC cy ad I A T L K F)) (hret : RetP p l e { frames := 0, cells := 0, slots := 0, locals := 0 } s m args below meth c c_Pi_wrongValve .int H locs Q P)
    (hx4 : ∀ (x2 : Int32) (ls : Array Slot), lv_has ls 4 [(1, .int a1), (2, .int x2)] → kx4 x2 → W p l e { frames := 0, cells := 0, slots := 0, locals := 0 } s m args below meth c H locs 0 0 Q (F0 m 43 ls [])) :
    ∀ (n : Nat) (x2 : Int32) (x3 : Int32) (ls : Array Slot), lv_has ls 4 [(0, .ref (ad 2)), (1, .int a1), (2, .int x2), (3, .int x3)] → g_Pi_wrongValve_4 I A a1 P kx4 n x2 x3 → W p l e { frames := 0, cells := 0, slots := 0, locals := 0 } s m args below meth c H locs 0 0 Q (F0 m 4 ls []) := by
  intro n
  induction n with
  | zero => intro x2 x3 ls hl hw; exact hw.elim
  | succ n ih =>
    intro x2 x3 ls hl hw
    refine i_iload_n (n := 5) C 4 rfl rfl rfl hl 3 rfl ?_
    refine i_aload_n (n := 6) C 5 rfl rfl rfl hl 0 rfl ?_
    refine fgC_Pi_31 (n := 9) C 6 rfl rfl h ?_
    refine i_icmp_ge (tgt := 43) (n := 12) C 7 rfl rfl rfl (fun c1 => ?_) (fun c1 => ?_)
    · replace hw := hw.1 c1
      exact hx4 x2 ls (lv_sub hl [1, 2] rfl) hw
    · replace hw := hw.2 c1
      refine i_aload_n (n := 13) C 8 rfl rfl rfl hl 0 rfl ?_
      refine fgC_Pi_21 (n := 16) C 9 rfl rfl h ?_
      refine i_iload_n (n := 17) C 10 rfl rfl rfl hl 3 rfl ?_
      obtain ⟨hb, hw⟩ := hw
      refine i_iald (n := 18) C 11 rfl rfl h (wC_arr 20 (by decide) rfl) hb ?_
      refine i_aload_n (n := 19) C 12 rfl rfl rfl hl 0 rfl ?_
      refine fgC_Pi_24 (n := 22) C 13 rfl rfl h ?_
      refine i_iload_n (n := 23) C 14 rfl rfl rfl hl 3 rfl ?_
      obtain ⟨hb, hw⟩ := hw
      refine i_iald (n := 24) C 15 rfl rfl h (wC_arr 21 (by decide) rfl) hb ?_
      refine i_icmp_eq (tgt := 37) (n := 27) C 16 rfl rfl rfl (fun c2 => ?_) (fun c2 => ?_)
      · replace hw := hw.1 c2
        exact e_Pi_wrongValve_37 C h hret ih x2 x3 ls hl hw
      · replace hw := hw.2 c2
        refine i_iload_n (n := 28) C 17 rfl rfl rfl hl 2 rfl ?_
        refine i_iload_n (n := 29) C 18 rfl rfl rfl hl 1 rfl ?_
        refine i_icmp_ne (tgt := 34) (n := 32) C 19 rfl rfl rfl (fun c3 => ?_) (fun c3 => ?_)
        · replace hw := hw.1 c3
          refine i_iinc (v := x2 + (1 : Int32)) (lv' := [(2, .int (x2 + (1 : Int32))), (0, .ref (ad 2)), (1, .int a1), (3, .int x3)]) (n := 37) C 22 rfl rfl hl 2 rfl rfl (by decide) rfl (fun ls hl => ?_)
          exact e_Pi_wrongValve_37 C h hret ih (x2 + (1 : Int32)) x3 ls (lv_sub hl [1, 2, 0, 3] rfl) hw
        · replace hw := hw.2 c3
          refine i_iload_n (n := 33) C 20 rfl rfl rfl hl 3 rfl ?_
          exact hret _ _ _ rfl hw (C.dg (k := 21) rfl)
set_option maxHeartbeats 4000000 in
set_option maxRecDepth 100000 in
theorem m_Pi_wrongValve {l : Launch} {D : va_G} {cy : Nat → ClassId} {ad : Nat → Nat} {I : Nat → Int32} {A : Nat → Nat → Int32} {T : Nat → Option Nat} {L : List Nat} {K : Nat → Nat} {F : Nat → Nat → Int32} {a1 : Int32} {P : Int32 → Prop} (hw : g_Pi_wrongValve I A a1 P) : ∀ sz, Met l y_Pi_wrongValve (WL y_Pi_wrongValve c_Pi_wrongValve 4 (some .int)) { frames := 0, cells := 0, slots := 0, locals := 0 } (va_Pc [.ref (ad 2), .int a1] (PreW D cy (wC cy ad I A T L K F) sz)) (vp_Si P) 0 0 (fun _ => False) := by
  refine met_p R_Pi .int db_Pi_wrongValve (by decide) rfl rfl (Nat.le_of_ble_eq_true rfl) ?_
  intro p e s m below meth c Z Q ls C h hl hret
  have hl : lv_has ls 4 [(0, .ref (ad 2)), (1, .int a1)] := hl
  refine i_iconst (v := (0 : Int32)) (n := 1) C 0 rfl rfl rfl ?_
  refine i_istore_n (lv' := [(2, .int (0 : Int32)), (0, .ref (ad 2)), (1, .int a1)]) (n := 2) C 1 rfl rfl rfl hl (by decide) rfl (fun ls hl => ?_)
  refine i_iconst (v := (0 : Int32)) (n := 3) C 2 rfl rfl rfl ?_
  refine i_istore_n (lv' := [(3, .int (0 : Int32)), (2, .int (0 : Int32)), (0, .ref (ad 2)), (1, .int a1)]) (n := 4) C 3 rfl rfl rfl hl (by decide) rfl (fun ls hl => ?_)
  obtain ⟨n4, hw⟩ := hw
  refine e_Pi_wrongValve_4 C h hret (fun x2_4 ls hl hw => ?_) n4 (0 : Int32) (0 : Int32) ls (lv_sub hl [2, 3, 1, 0] rfl) hw
  have hl : lv_has ls 4 [(1, .int a1), (2, .int x2_4)] := hl
  refine i_iload_n (n := 44) C 25 rfl rfl rfl hl 0 rfl ?_
  refine i_iconst (v := (-1 : Int32)) (n := 45) C 26 rfl rfl rfl ?_
  refine i_icmp_ne (tgt := 52) (n := 48) C 27 rfl rfl rfl (fun c5 => ?_) (fun c5 => ?_)
  · replace hw := hw.1 c5
    refine i_bipush (v := (-6 : Int32)) (n := 54) C 30 rfl rfl rfl ?_
    exact hret _ _ _ rfl hw (C.dg (k := 31) rfl)
  · replace hw := hw.2 c5
    refine i_iload_n (n := 49) C 28 rfl rfl rfl hl 1 rfl ?_
    refine i_goto (tgt := 54) C 29 rfl rfl ?_
    exact hret _ _ _ rfl hw (C.dg (k := 31) rfl)
end S21
theorem kV_Pw_122 {R : Room} {s : State} {args : Array Value} (hR : 0 + 1 ≤ R.frames ∧ 8 + (4 + 11) + 0 ≤ R.locals) (ht : ∀ w ∈ GW, w.before args s = true) : CallW R s args R_Pw R_Pi 122 y_Pi_wrongValve c_Pi_wrongValve 4 (some .int) (WL y_Pi_wrongValve c_Pi_wrongValve 4 (some .int)) { frames := 0, cells := 0, slots := 0, locals := 0 } 0 0 1 := cwV 1 ht (GW_v w_2_98 w_2_99 w_2_100 w_1_3 (GW_wl w_2_101)) rfl rfl rfl (by decide +kernel) hR
section S22
variable {p : Program} {l : Launch} {e : Env} {R : Room} {s : State} {m : MethodId} {args : Array Value} {below : List Frame} {meth : Method} {c : Code} {H : Heap} {locs : List Loc} {cells slots : Nat} {Q : State → Prop}
variable {cc : ByteArray} {pc n nL : Nat} {ls : Array Slot} {rest : List Value} {D : va_G} {cy : Nat → ClassId} {Z : Nat → Prop} {ad : Nat → Nat} {tb : List (Nat × Instr × Nat)} {lv : List (Nat × Value)}
set_option maxHeartbeats 4000000 in
set_option maxRecDepth 100000 in
theorem m_Pw_wrong {l : Launch} {D : va_G} {cy : Nat → ClassId} {ad : Nat → Nat} {I : Nat → Int32} {A : Nat → Nat → Int32} {T : Nat → Option Nat} {L : List Nat} {K : Nat → Nat} {F : Nat → Nat → Int32} {a1 : Int32} {P : Int32 → Prop} (hw : g_Pw_wrong I A a1 P) : ∀ sz, Met l y_Pw_wrong (WL y_Pw_wrong c_Pw_wrong 2 (some .int)) { frames := 1, cells := 0, slots := 0, locals := 23 } (va_Pc [.ref (ad 0), .int a1] (PreW D cy (wC cy ad I A T L K F) sz)) (vp_Si P) 0 0 (fun _ => False) := by
  refine met_p R_Pw .int db_Pw_wrong (by decide) rfl rfl (Nat.le_of_ble_eq_true rfl) ?_
  intro p e s m below meth c Z Q ls C h hl hret
  have hl : lv_has ls 2 [(0, .ref (ad 0)), (1, .int a1)] := hl
  refine i_aload_n (n := 1) C 0 rfl rfl rfl hl 0 rfl ?_
  refine fgC_Pw_20 (n := 4) C 1 rfl rfl h ?_
  refine i_iload_n (n := 5) C 2 rfl rfl rfl hl 1 rfl ?_
  refine i_callVp (rest := []) (ci := 7) (qc := (R_Pi, T_Pi, 8)) (n := 8) C 3 rfl rfl hl h rfl (wC_get (h := 2) (by decide)) (kV_Pw_122 ⟨by decide, by decide⟩) (m_Pi_wrongValve hw) rfl rfl (Nat.le_of_ble_eq_true rfl) ⟨by decide, by decide⟩ (fun r1 hw => ?_)
  exact hret _ _ _ rfl hw (C.dg (k := 4) rfl)
end S22
section S23
variable {p : Program} {l : Launch} {e : Env} {R : Room} {s : State} {m : MethodId} {args : Array Value} {below : List Frame} {meth : Method} {c : Code} {H : Heap} {locs : List Loc} {cells slots : Nat} {Q : State → Prop}
variable {cc : ByteArray} {pc n nL : Nat} {ls : Array Slot} {rest : List Value} {D : va_G} {cy : Nat → ClassId} {Z : Nat → Prop} {ad : Nat → Nat} {tb : List (Nat × Instr × Nat)} {lv : List (Nat × Value)}
set_option maxHeartbeats 4000000 in
set_option maxRecDepth 100000 in
theorem e_Pi_mendMap_25 {I : Nat → Int32} {T : Nat → Option Nat} {L : List Nat} {K : Nat → Nat} {F : Nat → Nat → Int32} {a1 : Int32} {P : Int32 → ((Nat → Nat → Int32)) → Prop}  (C : CX D cy R_Pi c_Pi_mendMap tb_Pi_mendMap 4 p s m args c Z) (hret : RetI p l e { frames := 2, cells := 0, slots := 0, locals := 44 } s m args below meth c c_Pi_mendMap .int D Z Q (fun (u : (Nat → Nat → Int32)) => wC cy ad I u T L K F) P 0 0) :
    ∀ (A : Nat → Nat → Int32) (ls : Array Slot) (H : Heap) (locs : List Loc), lv_has ls 4 [(0, .ref (ad 2)), (1, .int a1)] → HXw D Z s.heap H locs (wC cy ad I A T L K F) → g_Pi_mendMap_25 I a1 P  A → W p l e { frames := 2, cells := 0, slots := 0, locals := 44 } s m args below meth c H locs 0 0 Q (F0 m 25 ls []) := by
  intro A ls H locs hl h hw
  refine i_aload_n (n := 26) C 15 rfl rfl rfl hl 0 rfl ?_
  refine fgC_Pi_24 (n := 29) C 16 rfl rfl h ?_
  refine i_iload_n (n := 30) C 17 rfl rfl rfl hl 1 rfl ?_
  obtain ⟨hb, hw⟩ := hw
  refine i_iald (n := 31) C 18 rfl rfl h (wC_arr 21 (by decide) rfl) hb ?_
  refine lv_topi (fun y3 ey3 => ?_)
  replace hw := hw y3 ey3
  refine i_istore_n (lv' := [(3, .int y3), (0, .ref (ad 2)), (1, .int a1)]) (n := 32) C 19 rfl rfl rfl hl (by decide) rfl (fun ls hl => ?_)
  refine i_aload_n (n := 33) C 20 rfl rfl rfl hl 1 rfl ?_
  refine fgC_Pi_24 (n := 36) C 21 rfl rfl h ?_
  refine i_iload_n (n := 37) C 22 rfl rfl rfl hl 2 rfl ?_
  refine i_aload_n (n := 38) C 23 rfl rfl rfl hl 1 rfl ?_
  refine fgC_Pi_21 (n := 41) C 24 rfl rfl h ?_
  refine i_iload_n (n := 42) C 25 rfl rfl rfl hl 2 rfl ?_
  obtain ⟨hb, hw⟩ := hw
  refine i_iald (n := 43) C 26 rfl rfl h (wC_arr 20 (by decide) rfl) hb ?_
  obtain ⟨hb, hw⟩ := hw
  refine i_iast (n := 44) C 27 rfl rfl h (wC_arr 21 (by decide) rfl) hb (wC_sA 21 (by decide) rfl _ _) (fun H locs h => ?_)
  refine i_iload_n (n := 45) C 28 rfl rfl rfl hl 0 rfl ?_
  exact hret _ (sA A 21 a1 (A 20 a1.toNatClampNeg)) _ _ _ _ rfl hw h (C.dg (k := 29) rfl)
set_option maxHeartbeats 4000000 in
set_option maxRecDepth 100000 in
theorem m_Pi_mendMap {l : Launch} {D : va_G} {cy : Nat → ClassId} {ad : Nat → Nat} {I : Nat → Int32} {A : Nat → Nat → Int32} {T : Nat → Option Nat} {L : List Nat} {K : Nat → Nat} {F : Nat → Nat → Int32} {a1 : Int32} {P : Int32 → ((Nat → Nat → Int32)) → Prop} (hw : g_Pi_mendMap I A a1 P) : ∀ sz, Met l y_Pi_mendMap (WL y_Pi_mendMap c_Pi_mendMap 4 (some .int)) { frames := 2, cells := 0, slots := 0, locals := 44 } (va_Pc [.ref (ad 2), .int a1] (PreW D cy (wC cy ad I A T L K F) sz)) (va_Qi P (fun u t => PostW D (va_A (wC cy ad I A T L K F) sz) ((fun (u : (Nat → Nat → Int32)) => wC cy ad I u T L K F) u) t) (va_A (wC cy ad I A T L K F) sz)) 0 0 (va_A (wC cy ad I A T L K F) sz) := by
  refine met_i (wf := fun (u : (Nat → Nat → Int32)) => wC cy ad I u T L K F) R_Pi .int db_Pi_mendMap (by decide) rfl rfl (Nat.le_of_ble_eq_true rfl) ?_
  intro p e s m below meth c Z Q ls C h hl hret
  have hl : lv_has ls 4 [(0, .ref (ad 2)), (1, .int a1)] := hl
  refine i_aload_n (n := 1) C 0 rfl rfl rfl hl 0 rfl ?_
  refine i_aload_n (n := 2) C 1 rfl rfl rfl hl 0 rfl ?_
  refine fgC_Pi_21 (n := 5) C 2 rfl rfl h ?_
  refine i_iload_n (n := 6) C 3 rfl rfl rfl hl 1 rfl ?_
  obtain ⟨hb, hw⟩ := hw
  refine i_iald (n := 7) C 4 rfl rfl h (wC_arr 20 (by decide) rfl) hb ?_
  refine i_callVp (rest := []) (ci := 7) (qc := (R_Pi, T_Pi, 8)) (n := 10) C 5 rfl rfl hl h rfl (wC_get (h := 2) (by decide)) (kV_Pi_38 ⟨by decide, by decide⟩) (m_Pi_valveTold hw) rfl rfl (Nat.le_of_ble_eq_true rfl) ⟨by decide, by decide⟩ (fun r1 hw => ?_)
  refine i_istore_n (lv' := [(2, .int r1), (0, .ref (ad 2)), (1, .int a1)]) (n := 11) C 6 rfl rfl rfl hl (by decide) rfl (fun ls hl => ?_)
  refine i_iload_n (n := 12) C 7 rfl rfl rfl hl 0 rfl ?_
  refine i_bipush (v := (-6 : Int32)) (n := 14) C 8 rfl rfl rfl ?_
  refine i_icmp_eq (tgt := 25) (n := 17) C 9 rfl rfl rfl (fun c2 => ?_) (fun c2 => ?_)
  · replace hw := hw.1 c2
    exact e_Pi_mendMap_25 C hret  A ls _ _ (lv_sub hl [1, 2] rfl) h hw
  · replace hw := hw.2 c2
    refine i_iload_n (n := 18) C 10 rfl rfl rfl hl 0 rfl ?_
    refine i_iload_n (n := 19) C 11 rfl rfl rfl hl 2 rfl ?_
    refine i_icmp_eq (tgt := 25) (n := 22) C 12 rfl rfl rfl (fun c4 => ?_) (fun c4 => ?_)
    · replace hw := hw.1 c4
      exact e_Pi_mendMap_25 C hret  A ls _ _ (lv_sub hl [1, 2] rfl) h hw
    · replace hw := hw.2 c4
      refine i_bipush (v := (-5 : Int32)) (n := 24) C 13 rfl rfl rfl ?_
      exact hret _ A _ _ _ _ rfl hw h (C.dg (k := 14) rfl)
end S23
theorem kV_Pw_125 {R : Room} {s : State} {args : Array Value} (hR : 2 + 1 ≤ R.frames ∧ 8 + (4 + 11) + 44 ≤ R.locals) (ht : ∀ w ∈ GW, w.before args s = true) : CallW R s args R_Pw R_Pi 125 y_Pi_mendMap c_Pi_mendMap 4 (some .int) (WL y_Pi_mendMap c_Pi_mendMap 4 (some .int)) { frames := 2, cells := 0, slots := 0, locals := 44 } 0 0 1 := cwV 1 ht (GW_v w_2_106 w_2_107 w_2_108 w_1_3 (GW_wl w_2_109)) rfl rfl rfl (by decide +kernel) hR
section S24
variable {p : Program} {l : Launch} {e : Env} {R : Room} {s : State} {m : MethodId} {args : Array Value} {below : List Frame} {meth : Method} {c : Code} {H : Heap} {locs : List Loc} {cells slots : Nat} {Q : State → Prop}
variable {cc : ByteArray} {pc n nL : Nat} {ls : Array Slot} {rest : List Value} {D : va_G} {cy : Nat → ClassId} {Z : Nat → Prop} {ad : Nat → Nat} {tb : List (Nat × Instr × Nat)} {lv : List (Nat × Value)}
set_option maxHeartbeats 4000000 in
set_option maxRecDepth 100000 in
theorem m_Pw_mend {l : Launch} {D : va_G} {cy : Nat → ClassId} {ad : Nat → Nat} {I : Nat → Int32} {A : Nat → Nat → Int32} {T : Nat → Option Nat} {L : List Nat} {K : Nat → Nat} {F : Nat → Nat → Int32} {a1 : Int32} {P : Int32 → ((Nat → Nat → Int32)) → Prop} (hw : g_Pw_mend I A a1 P) : ∀ sz, Met l y_Pw_mend (WL y_Pw_mend c_Pw_mend 2 (some .int)) { frames := 3, cells := 0, slots := 0, locals := 67 } (va_Pc [.ref (ad 0), .int a1] (PreW D cy (wC cy ad I A T L K F) sz)) (va_Qi P (fun u t => PostW D (va_A (wC cy ad I A T L K F) sz) ((fun (u : (Nat → Nat → Int32)) => wC cy ad I u T L K F) u) t) (va_A (wC cy ad I A T L K F) sz)) 0 0 (va_A (wC cy ad I A T L K F) sz) := by
  refine met_i (wf := fun (u : (Nat → Nat → Int32)) => wC cy ad I u T L K F) R_Pw .int db_Pw_mend (by decide) rfl rfl (Nat.le_of_ble_eq_true rfl) ?_
  intro p e s m below meth c Z Q ls C h hl hret
  have hl : lv_has ls 2 [(0, .ref (ad 0)), (1, .int a1)] := hl
  refine i_aload_n (n := 1) C 0 rfl rfl rfl hl 0 rfl ?_
  refine fgC_Pw_20 (n := 4) C 1 rfl rfl h ?_
  refine i_iload_n (n := 5) C 2 rfl rfl rfl hl 1 rfl ?_
  refine i_callVp (rest := []) (ci := 7) (qc := (R_Pi, T_Pi, 8)) (n := 8) C 3 rfl rfl hl h rfl (wC_get (h := 2) (by decide)) (kV_Pw_93 ⟨by decide, by decide⟩) (m_Pi_hasValve hw) rfl rfl (Nat.le_of_ble_eq_true rfl) ⟨by decide, by decide⟩ (fun r1 hw => ?_)
  refine i_if_eq (tgt := 22) (n := 11) C 4 rfl rfl rfl (fun c2 => ?_) (fun c2 => ?_)
  · replace hw := hw.1 c2
    refine i_iconst (v := (-1 : Int32)) (n := 23) C 10 rfl rfl rfl ?_
    exact hret _ A _ _ _ _ rfl hw h (C.dg (k := 11) rfl)
  · replace hw := hw.2 c2
    refine i_aload_n (n := 12) C 5 rfl rfl rfl hl 0 rfl ?_
    refine fgC_Pw_20 (n := 15) C 6 rfl rfl h ?_
    refine i_iload_n (n := 16) C 7 rfl rfl rfl hl 1 rfl ?_
    refine i_callVi (rest := []) (ci := 7) (qc := (R_Pi, T_Pi, 8)) (n := 19) C 8 rfl rfl hl h rfl (wC_get (h := 2) (by decide)) (kV_Pw_125 ⟨by decide, by decide⟩) (m_Pi_mendMap hw) rfl rfl (Nat.le_of_ble_eq_true rfl) ⟨by decide, by decide⟩ (fun r3 u4 H locs hw h => ?_)
    refine i_goto (tgt := 23) C 9 rfl rfl ?_
    exact hret _ u4 _ _ _ _ rfl hw h (C.dg (k := 11) rfl)
end S24
section S25
variable {p : Program} {l : Launch} {e : Env} {R : Room} {s : State} {m : MethodId} {args : Array Value} {below : List Frame} {meth : Method} {c : Code} {H : Heap} {locs : List Loc} {cells slots : Nat} {Q : State → Prop}
variable {cc : ByteArray} {pc n nL : Nat} {ls : Array Slot} {rest : List Value} {D : va_G} {cy : Nat → ClassId} {Z : Nat → Prop} {ad : Nat → Nat} {tb : List (Nat × Instr × Nat)} {lv : List (Nat × Value)}
set_option maxHeartbeats 4000000 in
set_option maxRecDepth 100000 in
theorem m_Pw_areHours {l : Launch} {D : va_G} {cy : Nat → ClassId}   {a1 : Int32} {a2 : Int32} {w : va_W} {P : Int32 → Prop} (hw : g_Pw_areHours a1 a2 P) : ∀ sz, Met l y_Pw_areHours (WL y_Pw_areHours c_Pw_areHours 2 (some .boolean)) { frames := 1, cells := 0, slots := 0, locals := 22 } (va_Pc [.int a1, .int a2] (PreW D cy (w) sz)) (vp_Si P) 0 0 (fun _ => False) := by
  refine met_p R_Pw .boolean db_Pw_areHours (by decide) rfl rfl (Nat.le_of_ble_eq_true rfl) ?_
  intro p e s m below meth c Z Q ls C h hl hret
  have hl : lv_has ls 2 [(0, .int a1), (1, .int a2)] := hl
  refine i_iload_n (n := 1) C 0 rfl rfl rfl hl 0 rfl ?_
  refine i_iconst (v := (0 : Int32)) (n := 2) C 1 rfl rfl rfl ?_
  refine i_sipush (v := (1440 : Int32)) (n := 5) C 2 rfl rfl rfl ?_
  refine i_callSp (rest := []) (n := 8) C 3 rfl rfl hl h (kS_Pw_69 ⟨by decide, by decide⟩) (m_Pw_isWithin hw) rfl rfl (Nat.le_of_ble_eq_true rfl) ⟨by decide, by decide⟩ (fun r1 hw => ?_)
  refine i_if_eq (tgt := 26) (n := 11) C 4 rfl rfl rfl (fun c2 => ?_) (fun c2 => ?_)
  · replace hw := hw.1 c2
    refine i_iconst (v := (0 : Int32)) (n := 27) C 12 rfl rfl rfl ?_
    exact hret _ _ _ rfl hw (C.dg (k := 13) rfl)
  · replace hw := hw.2 c2
    refine i_iload_n (n := 12) C 5 rfl rfl rfl hl 1 rfl ?_
    refine i_iload_n (n := 13) C 6 rfl rfl rfl hl 0 rfl ?_
    refine i_sipush (v := (1440 : Int32)) (n := 16) C 7 rfl rfl rfl ?_
    refine i_callSp (rest := []) (n := 19) C 8 rfl rfl hl h (kS_Pw_69 ⟨by decide, by decide⟩) (m_Pw_isWithin hw) rfl rfl (Nat.le_of_ble_eq_true rfl) ⟨by decide, by decide⟩ (fun r3 hw => ?_)
    refine i_if_eq (tgt := 26) (n := 22) C 9 rfl rfl rfl (fun c4 => ?_) (fun c4 => ?_)
    · replace hw := hw.1 c4
      refine i_iconst (v := (0 : Int32)) (n := 27) C 12 rfl rfl rfl ?_
      exact hret _ _ _ rfl hw (C.dg (k := 13) rfl)
    · replace hw := hw.2 c4
      refine i_iconst (v := (1 : Int32)) (n := 23) C 10 rfl rfl rfl ?_
      refine i_goto (tgt := 27) C 11 rfl rfl ?_
      exact hret _ _ _ rfl hw (C.dg (k := 13) rfl)
end S25
section S26
variable {p : Program} {l : Launch} {e : Env} {R : Room} {s : State} {m : MethodId} {args : Array Value} {below : List Frame} {meth : Method} {c : Code} {H : Heap} {locs : List Loc} {cells slots : Nat} {Q : State → Prop}
variable {cc : ByteArray} {pc n nL : Nat} {ls : Array Slot} {rest : List Value} {D : va_G} {cy : Nat → ClassId} {Z : Nat → Prop} {ad : Nat → Nat} {tb : List (Nat × Instr × Nat)} {lv : List (Nat × Value)}
set_option maxHeartbeats 4000000 in
set_option maxRecDepth 100000 in
theorem m_Pw_refusalToHang {l : Launch} {D : va_G} {cy : Nat → ClassId} {ad : Nat → Nat} {I : Nat → Int32} {A : Nat → Nat → Int32} {T : Nat → Option Nat} {L : List Nat} {K : Nat → Nat} {F : Nat → Nat → Int32} {a1 : Int32} {a2 : Int32} {P : Int32 → Prop} (hw : g_Pw_refusalToHang I T a1 a2 P) : ∀ sz, Met l y_Pw_refusalToHang (WL y_Pw_refusalToHang c_Pw_refusalToHang 3 (some .int)) { frames := 1, cells := 0, slots := 0, locals := 21 } (va_Pc [.ref (ad 0), .int a1, .int a2] (PreW D cy (wC cy ad I A T L K F) sz)) (vp_Si P) 0 0 (fun _ => False) := by
  refine met_p R_Pw .int db_Pw_refusalToHang (by decide) rfl rfl (Nat.le_of_ble_eq_true rfl) ?_
  intro p e s m below meth c Z Q ls C h hl hret
  have hl : lv_has ls 3 [(0, .ref (ad 0)), (1, .int a1), (2, .int a2)] := hl
  refine i_aload_n (n := 1) C 0 rfl rfl rfl hl 0 rfl ?_
  refine fgC_Pw_10 (n := 4) C 1 rfl rfl h ?_
  refine i_iload_n (n := 5) C 2 rfl rfl rfl hl 1 rfl ?_
  refine i_callVp (rest := []) (ci := 5) (qc := (R_Ne, T_Ne, 17)) (n := 8) C 3 rfl rfl hl h rfl (wC_get (h := 1) (by decide)) (kV_Pw_77 ⟨by decide, by decide⟩) (m_Ne_has hw) rfl rfl (Nat.le_of_ble_eq_true rfl) ⟨by decide, by decide⟩ (fun r1 hw => ?_)
  refine i_if_ne (tgt := 13) (n := 11) C 4 rfl rfl rfl (fun c2 => ?_) (fun c2 => ?_)
  · replace hw := hw.1 c2
    refine i_iload_n (n := 14) C 7 rfl rfl rfl hl 2 rfl ?_
    refine i_if_ne (tgt := 20) (n := 17) C 8 rfl rfl rfl (fun c3 => ?_) (fun c3 => ?_)
    · replace hw := hw.1 c3
      refine i_aload_n (n := 21) C 11 rfl rfl rfl hl 0 rfl ?_
      refine fgC_Pw_10 (n := 24) C 12 rfl rfl h ?_
      refine fgC_Pw_168 (n := 27) C 13 rfl rfl h ?_
      refine i_iload_n (n := 28) C 14 rfl rfl rfl hl 1 rfl ?_
      obtain ⟨hb, hw⟩ := hw
      refine i_aldq (n := 29) C 15 rfl rfl h (wC_get (h := 5) (by decide)) hb (fun c5 => ?_) (fun q4 c5 => ?_)
      · replace hw := hw.1 c5
        refine i_ifnonnullN (n := 32) C 16 rfl rfl ?_
        refine i_iconst (v := (0 : Int32)) (n := 33) C 17 rfl rfl rfl ?_
        refine i_goto (tgt := 38) C 18 rfl rfl ?_
        exact hret _ _ _ rfl hw (C.dg (k := 20) rfl)
      · replace hw := hw.2 q4 c5
        refine i_ifnonnull (tgt := 36) C 16 rfl rfl ?_
        refine i_bipush (v := (-5 : Int32)) (n := 38) C 19 rfl rfl rfl ?_
        exact hret _ _ _ rfl hw (C.dg (k := 20) rfl)
    · replace hw := hw.2 c3
      refine i_bipush (v := (-2 : Int32)) (n := 19) C 9 rfl rfl rfl ?_
      exact hret _ _ _ rfl hw (C.dg (k := 10) rfl)
  · replace hw := hw.2 c2
    refine i_iconst (v := (-1 : Int32)) (n := 12) C 5 rfl rfl rfl ?_
    exact hret _ _ _ rfl hw (C.dg (k := 6) rfl)
end S26
section S27
variable {p : Program} {l : Launch} {e : Env} {R : Room} {s : State} {m : MethodId} {args : Array Value} {below : List Frame} {meth : Method} {c : Code} {H : Heap} {locs : List Loc} {cells slots : Nat} {Q : State → Prop}
variable {cc : ByteArray} {pc n nL : Nat} {ls : Array Slot} {rest : List Value} {D : va_G} {cy : Nat → ClassId} {Z : Nat → Prop} {ad : Nat → Nat} {tb : List (Nat × Instr × Nat)} {lv : List (Nat × Value)}
set_option maxHeartbeats 4000000 in
set_option maxRecDepth 100000 in
theorem m_Th_init {l : Launch} {D : va_G} {cy : Nat → ClassId}    {b : Nat} {w : va_W} {P : (Unit) → Prop} (hw : g_Th_init  P) : ∀ sz, Met l y_Th_init (WL y_Th_init c_Th_init 1 none) { frames := 1, cells := 0, slots := 0, locals := 20 } (va_Pc [.ref b] (PreW D cy (w) sz)) (va_Qv P (fun u t => PostW D (va_A (w) sz) ((fun (_ : Unit) => w) u) t) (va_A (w) sz)) 0 0 (va_A (w) sz) := by
  refine met_v (wf := fun (_ : Unit) => w) R_Th db_Th_init (by decide) rfl (Nat.le_of_ble_eq_true rfl) ?_
  intro p e s m below meth c Z Q ls hin C h hl hret
  have hl : lv_has ls 1 [(0, .ref b)] := hl
  refine i_aload_n (n := 1) C 0 rfl rfl rfl hl 0 rfl ?_
  refine i_objInit (n := 4) C 1 rfl rfl hl w_2_129 (by decide) (Nat.le_of_ble_eq_true rfl) (by decide) ?_
  exact hret () _ _ _ _ hw h (C.dg (k := 2) rfl)
end S27
theorem kIN_Dr_3 {R : Room} {s : State} {args : Array Value} (hR : 1 + 1 ≤ R.frames ∧ 8 + (1 + 11) + 20 ≤ R.locals) (ht : ∀ w ∈ GW, w.before args s = true) (hN : NX s) : va_CN R s args R_Dr 3 y_Th_init R_Pw c_Th_init 1 none (WL y_Th_init c_Th_init 1 none) { frames := 1, cells := 0, slots := 0, locals := 20 } 0 0 0 ∧ y_Th_init.name = "<init>" ∧ (Cond.instanceMethod y_Th_init).before args s = true := ⟨va_cnB 0 ht (GW_in (GW_wl w_2_128)) rfl rfl rfl (hN.1 _ (by simp [nxW])) (ht _ w_1_8) (by decide +kernel) hR, rfl, ht _ w_2_127⟩
section S28
variable {p : Program} {l : Launch} {e : Env} {R : Room} {s : State} {m : MethodId} {args : Array Value} {below : List Frame} {meth : Method} {c : Code} {H : Heap} {locs : List Loc} {cells slots : Nat} {Q : State → Prop}
variable {cc : ByteArray} {pc n nL : Nat} {ls : Array Slot} {rest : List Value} {D : va_G} {cy : Nat → ClassId} {Z : Nat → Prop} {ad : Nat → Nat} {tb : List (Nat × Instr × Nat)} {lv : List (Nat × Value)}
set_option maxHeartbeats 4000000 in
set_option maxRecDepth 100000 in
theorem m_Dr_init_Dr {l : Launch} {D : va_G} {cy : Nat → ClassId} {ad : Nat → Nat} {I : Nat → Int32} {A : Nat → Nat → Int32} {T : Nat → Option Nat} {L : List Nat} {K : Nat → Nat} {F : Nat → Nat → Int32} {b : Nat} {a1 : Int32} {a2 : Int32} {a3 : Int32} {P : ((Nat → Nat → Int32)) → Prop} (hbq : b ∈ L) (hbk : K b = 1) (hw : g_Dr_init_Dr F b a1 a2 a3 P) : ∀ sz, Met l y_Dr_init (WL y_Dr_init c_Dr_init 4 none) { frames := 2, cells := 0, slots := 0, locals := 40 } (va_Pc [.ref b, .int a1, .int a2, .int a3] (PreW D cy (wC cy ad I A T L K F) sz)) (va_Qv P (fun u t => PostW D (va_A (wC cy ad I A T L K F) sz) ((fun (u : (Nat → Nat → Int32)) => wC cy ad I A T L K u) u) t) (va_A (wC cy ad I A T L K F) sz)) 0 0 (va_A (wC cy ad I A T L K F) sz) := by
  refine met_v (wf := fun (u : (Nat → Nat → Int32)) => wC cy ad I A T L K u) R_Dr db_Dr_init (by decide) rfl (Nat.le_of_ble_eq_true rfl) ?_
  intro p e s m below meth c Z Q ls hin C h hl hret
  have hl : lv_has ls 4 [(0, .ref b), (1, .int a1), (2, .int a2), (3, .int a3)] := hl
  refine i_aload_n (n := 1) C 0 rfl rfl rfl hl 0 rfl ?_
  refine i_callINv (rest := []) (n := 4) C 1 rfl rfl hl h (kIN_Dr_3 ⟨by decide, by decide⟩) (m_Th_init hw) rfl rfl (Nat.le_of_ble_eq_true rfl) ⟨by decide, by decide⟩ (fun u1 H locs hw h => ?_)
  refine i_aload_n (n := 5) C 2 rfl rfl rfl hl 0 rfl ?_
  refine i_iload_n (n := 6) C 3 rfl rfl rfl hl 1 rfl ?_
  refine tp_Dr_9_Dr (n := 9) C 4 rfl rfl h hbq hbk hin (fun H locs h => ?_)
  refine i_aload_n (n := 10) C 5 rfl rfl rfl hl 0 rfl ?_
  refine i_iload_n (n := 11) C 6 rfl rfl rfl hl 2 rfl ?_
  refine tp_Dr_15_Dr (n := 14) C 7 rfl rfl h hbq hbk hin (fun H locs h => ?_)
  refine i_aload_n (n := 15) C 8 rfl rfl rfl hl 0 rfl ?_
  refine i_iload_n (n := 16) C 9 rfl rfl rfl hl 3 rfl ?_
  refine tp_Dr_18_Dr (n := 19) C 10 rfl rfl h hbq hbk hin (fun H locs h => ?_)
  exact hret (sF (sF (sF F b 0 a1) b 1 a2) b 2 a3) _ _ _ _ hw h (C.dg (k := 11) rfl)
end S28
section S29
variable {p : Program} {l : Launch} {e : Env} {R : Room} {s : State} {m : MethodId} {args : Array Value} {below : List Frame} {meth : Method} {c : Code} {H : Heap} {locs : List Loc} {cells slots : Nat} {Q : State → Prop}
variable {cc : ByteArray} {pc n nL : Nat} {ls : Array Slot} {rest : List Value} {D : va_G} {cy : Nat → ClassId} {Z : Nat → Prop} {ad : Nat → Nat} {tb : List (Nat × Instr × Nat)} {lv : List (Nat × Value)}
set_option maxHeartbeats 4000000 in
set_option maxRecDepth 100000 in
theorem m_Ne_hang {l : Launch} {D : va_G} {cy : Nat → ClassId} {ad : Nat → Nat} {I : Nat → Int32} {A : Nat → Nat → Int32} {T : Nat → Option Nat} {L : List Nat} {K : Nat → Nat} {F : Nat → Nat → Int32} {a1 : Int32} {q2 : Nat} {P : Int32 → ((Nat → Option Nat)) → Prop} (hw : g_Ne_hang T L K a1 q2 P) : ∀ sz, Met l y_Ne_hang (WL y_Ne_hang c_Ne_hang 3 (some .int)) { frames := 0, cells := 0, slots := 0, locals := 0 } (va_Pc [.ref (ad 1), .int a1, .ref q2] (PreW D cy (wC cy ad I A T L K F) sz)) (va_Qi P (fun u t => PostW D (va_A (wC cy ad I A T L K F) sz) ((fun (u : (Nat → Option Nat)) => wC cy ad I A u L K F) u) t) (va_A (wC cy ad I A T L K F) sz)) 0 0 (va_A (wC cy ad I A T L K F) sz) := by
  refine met_i (wf := fun (u : (Nat → Option Nat)) => wC cy ad I A u L K F) R_Ne .int db_Ne_hang (by decide) rfl rfl (Nat.le_of_ble_eq_true rfl) ?_
  intro p e s m below meth c Z Q ls C h hl hret
  have hl : lv_has ls 3 [(0, .ref (ad 1)), (1, .int a1), (2, .ref q2)] := hl
  refine i_aload_n (n := 1) C 0 rfl rfl rfl hl 0 rfl ?_
  refine fgC_Ne_30 (n := 4) C 1 rfl rfl h ?_
  refine i_iload_n (n := 5) C 2 rfl rfl rfl hl 1 rfl ?_
  refine i_aload_n (n := 6) C 3 rfl rfl rfl hl 2 rfl ?_
  obtain ⟨hb, hw⟩ := hw
  obtain ⟨hq, ht, hw⟩ := hw
  refine i_astT (n := 7) C 4 rfl rfl h hb hq ht (fun H locs h => ?_)
  refine i_iconst (v := (1 : Int32)) (n := 8) C 5 rfl rfl rfl ?_
  exact hret _ (va_up T a1.toNatClampNeg (some q2)) _ _ _ _ rfl hw h (C.dg (k := 6) rfl)
end S29
theorem kV_Pw_132 {R : Room} {s : State} {args : Array Value} (hR : 1 + 1 ≤ R.frames ∧ 8 + (3 + 11) + 21 ≤ R.locals) (ht : ∀ w ∈ GW, w.before args s = true) : CallW R s args R_Pw R_Pw 132 y_Pw_refusalToHang c_Pw_refusalToHang 3 (some .int) (WL y_Pw_refusalToHang c_Pw_refusalToHang 3 (some .int)) { frames := 1, cells := 0, slots := 0, locals := 21 } 0 0 2 := cwV 2 ht (GW_v w_2_117 w_2_119 w_0_1 w_1_1 (GW_wl w_2_120)) rfl rfl rfl (by decide +kernel) hR
theorem kI_Pw_138 {R : Room} {s : State} {args : Array Value} (hR : 2 + 1 ≤ R.frames ∧ 8 + (4 + 11) + 40 ≤ R.locals) (ht : ∀ w ∈ GW, w.before args s = true) : CallB R s args R_Pw 138 y_Dr_init c_Dr_init 4 none (WL y_Dr_init c_Dr_init 4 none) { frames := 2, cells := 0, slots := 0, locals := 40 } 0 0 3 ∧ y_Dr_init.name = "<init>" ∧ (Cond.instanceMethod y_Dr_init).before args s = true := cwI 3 ht (GW_in (GW_wl w_2_125)) rfl rfl rfl (ht _ w_1_9) (ht _ w_2_123) (ht _ w_2_124) rfl (by decide +kernel) hR
theorem kV_Pw_141 {R : Room} {s : State} {args : Array Value} (hR : 0 + 1 ≤ R.frames ∧ 8 + (3 + 11) + 0 ≤ R.locals) (ht : ∀ w ∈ GW, w.before args s = true) : CallW R s args R_Pw R_Ne 141 y_Ne_hang c_Ne_hang 3 (some .int) (WL y_Ne_hang c_Ne_hang 3 (some .int)) { frames := 0, cells := 0, slots := 0, locals := 0 } 0 0 2 := cwV 2 ht (GW_v w_2_144 w_2_145 w_2_146 w_1_2 (GW_wl w_2_147)) rfl rfl rfl (by decide +kernel) hR
theorem kS_Pw_128 {R : Room} {s : State} {args : Array Value} (hR : 1 + 1 ≤ R.frames ∧ 8 + (2 + 11) + 22 ≤ R.locals) (ht : ∀ w ∈ GW, w.before args s = true) : CallB R s args R_Pw 128 y_Pw_areHours c_Pw_areHours 2 (some .boolean) (WL y_Pw_areHours c_Pw_areHours 2 (some .boolean)) { frames := 1, cells := 0, slots := 0, locals := 22 } 0 0 2 ∧ (Cond.static y_Pw_areHours).before args s = true := cwS 2 ht (GW_s w_2_114 w_2_115 w_1_1 (GW_wl w_2_116)) rfl rfl rfl (by decide +kernel) hR
section S30
variable {p : Program} {l : Launch} {e : Env} {R : Room} {s : State} {m : MethodId} {args : Array Value} {below : List Frame} {meth : Method} {c : Code} {H : Heap} {locs : List Loc} {cells slots : Nat} {Q : State → Prop}
variable {cc : ByteArray} {pc n nL : Nat} {ls : Array Slot} {rest : List Value} {D : va_G} {cy : Nat → ClassId} {Z : Nat → Prop} {ad : Nat → Nat} {tb : List (Nat × Instr × Nat)} {lv : List (Nat × Value)}
set_option maxHeartbeats 4000000 in
set_option maxRecDepth 100000 in
theorem e_Pw_draw_25 {I : Nat → Int32} {A : Nat → Nat → Int32} {a1 : Int32} {a2 : Int32} {a3 : Int32} {a4 : Int32} {P : Int32 → ((Nat → Option Nat) × (List Nat) × (Nat → Nat) × (Nat → Nat → Int32)) → Prop}  (C : CX D cy R_Pw c_Pw_draw tb_Pw_draw 7 p s m args c Z) (hret : RetI p l e { frames := 3, cells := 1, slots := 3, locals := 63 } s m args below meth c c_Pw_draw .int D Z Q (fun (u : (Nat → Option Nat) × (List Nat) × (Nat → Nat) × (Nat → Nat → Int32)) => wC cy ad I A u.1 u.2.1 u.2.2.1 u.2.2.2) P 1 3) :
    ∀ (T : Nat → Option Nat) (L : List Nat) (K : Nat → Nat) (F : Nat → Nat → Int32) (s0 : Int32) (ls : Array Slot) (H : Heap) (locs : List Loc), lv_has ls 7 [(0, .ref (ad 0)), (1, .int a1), (2, .int a2), (3, .int a3), (4, .int a4)] → HXw D Z s.heap H locs (wC cy ad I A T L K F) → g_Pw_draw_25 I a1 a2 a3 a4 P  T L K F s0 → W p l e { frames := 3, cells := 1, slots := 3, locals := 63 } s m args below meth c H locs 0 0 Q (F0 m 25 ls [.int s0]) := by
  intro T L K F s0 ls H locs hl h hw
  refine i_istore (lv' := [(5, .int s0), (0, .ref (ad 0)), (1, .int a1), (2, .int a2), (3, .int a3), (4, .int a4)]) (n := 27) C 12 rfl rfl hl (by decide) rfl (fun ls hl => ?_)
  refine i_aload_n (n := 28) C 13 rfl rfl rfl hl 1 rfl ?_
  refine i_iload_n (n := 29) C 14 rfl rfl rfl hl 2 rfl ?_
  refine i_iload (n := 31) C 15 rfl rfl hl 0 rfl ?_
  refine i_callVp (rest := []) (ci := 10) (qc := (R_Pw, T_Pw, 16)) (n := 34) C 16 rfl rfl hl h rfl (wC_get (h := 0) (by decide)) (kV_Pw_132 ⟨by decide, by decide⟩) (m_Pw_refusalToHang hw) rfl rfl (Nat.le_of_ble_eq_true rfl) ⟨by decide, by decide⟩ (fun r3 hw => ?_)
  refine i_istore (lv' := [(6, .int r3), (5, .int s0), (0, .ref (ad 0)), (1, .int a1), (2, .int a2), (3, .int a3), (4, .int a4)]) (n := 36) C 17 rfl rfl hl (by decide) rfl (fun ls hl => ?_)
  refine i_iload (n := 38) C 18 rfl rfl hl 0 rfl ?_
  refine i_if_ge (tgt := 46) (n := 41) C 19 rfl rfl rfl (fun c4 => ?_) (fun c4 => ?_)
  · replace hw := hw.1 c4
    refine i_aload_n (n := 47) C 22 rfl rfl rfl hl 2 rfl ?_
    refine fgC_Pw_10 (n := 50) C 23 rfl rfl h ?_
    refine i_iload_n (n := 51) C 24 rfl rfl rfl hl 3 rfl ?_
    refine nw_Pw_136 (n := 54) C 25 rfl rfl h (by decide) (by decide) (fun q5 hfr8 H h => ?_)
    replace hw := hw q5 hfr8
    have hq6 : q5 ∈ L ++ [q5] := List.mem_append_right _ List.mem_cons_self
    have hk7 : (va_up K q5 1) q5 = 1 := if_pos rfl
    refine i_dup (n := 55) C 26 rfl rfl rfl ?_
    refine i_iload_n (n := 56) C 27 rfl rfl rfl hl 4 rfl ?_
    refine i_iload_n (n := 57) C 28 rfl rfl rfl hl 5 rfl ?_
    refine i_iload (n := 59) C 29 rfl rfl hl 6 rfl ?_
    refine i_callIv (rest := [.ref q5, .int a1, .ref (ad 1)]) (n := 62) C 30 rfl rfl hl h (kI_Pw_138 ⟨by decide, by decide⟩) (m_Dr_init_Dr hq6 hk7 hw) rfl rfl (Nat.le_of_ble_eq_true rfl) ⟨by decide, by decide⟩ (fun u9 H locs hw h => ?_)
    refine i_callVi (rest := []) (ci := 5) (qc := (R_Ne, T_Ne, 17)) (n := 65) C 31 rfl rfl hl h rfl (wC_get (h := 1) (by decide)) (kV_Pw_141 ⟨by decide, by decide⟩) (m_Ne_hang hw) rfl rfl (Nat.le_of_ble_eq_true rfl) ⟨by decide, by decide⟩ (fun r10 u11 H locs hw h => ?_)
    exact hret _ (u11, L ++ [q5], va_up K q5 1, u9) _ _ _ _ rfl hw h (C.dg (k := 32) rfl)
  · replace hw := hw.2 c4
    refine i_iload (n := 43) C 20 rfl rfl hl 0 rfl ?_
    refine i_goto (tgt := 65) C 21 rfl rfl ?_
    refine W.widen (k := 1) (n := 3) (by decide) (by decide) ?_
    exact hret _ (T, L, K, F) _ _ _ _ rfl hw h (C.dg (k := 32) rfl)
set_option maxHeartbeats 4000000 in
set_option maxRecDepth 100000 in
theorem e_Pw_draw_24 {I : Nat → Int32} {A : Nat → Nat → Int32} {a1 : Int32} {a2 : Int32} {a3 : Int32} {a4 : Int32} {P : Int32 → ((Nat → Option Nat) × (List Nat) × (Nat → Nat) × (Nat → Nat → Int32)) → Prop}  (C : CX D cy R_Pw c_Pw_draw tb_Pw_draw 7 p s m args c Z) (hret : RetI p l e { frames := 3, cells := 1, slots := 3, locals := 63 } s m args below meth c c_Pw_draw .int D Z Q (fun (u : (Nat → Option Nat) × (List Nat) × (Nat → Nat) × (Nat → Nat → Int32)) => wC cy ad I A u.1 u.2.1 u.2.2.1 u.2.2.2) P 1 3) :
    ∀ (T : Nat → Option Nat) (L : List Nat) (K : Nat → Nat) (F : Nat → Nat → Int32) (ls : Array Slot) (H : Heap) (locs : List Loc), lv_has ls 7 [(0, .ref (ad 0)), (1, .int a1), (2, .int a2), (3, .int a3), (4, .int a4)] → HXw D Z s.heap H locs (wC cy ad I A T L K F) → g_Pw_draw_24 I a1 a2 a3 a4 P  T L K F → W p l e { frames := 3, cells := 1, slots := 3, locals := 63 } s m args below meth c H locs 0 0 Q (F0 m 24 ls []) := by
  intro T L K F ls H locs hl h hw
  refine i_iconst (v := (0 : Int32)) (n := 25) C 11 rfl rfl rfl ?_
  exact e_Pw_draw_25 C hret  T L K F (0 : Int32) ls _ _ hl h hw
set_option maxHeartbeats 4000000 in
set_option maxRecDepth 100000 in
theorem m_Pw_draw {l : Launch} {D : va_G} {cy : Nat → ClassId} {ad : Nat → Nat} {I : Nat → Int32} {A : Nat → Nat → Int32} {T : Nat → Option Nat} {L : List Nat} {K : Nat → Nat} {F : Nat → Nat → Int32} {a1 : Int32} {a2 : Int32} {a3 : Int32} {a4 : Int32} {P : Int32 → ((Nat → Option Nat) × (List Nat) × (Nat → Nat) × (Nat → Nat → Int32)) → Prop} (hw : g_Pw_draw I T L K F a1 a2 a3 a4 P) : ∀ sz, Met l y_Pw_draw (WL y_Pw_draw c_Pw_draw 7 (some .int)) { frames := 3, cells := 1, slots := 3, locals := 63 } (va_Pc [.ref (ad 0), .int a1, .int a2, .int a3, .int a4] (PreW D cy (wC cy ad I A T L K F) sz)) (va_Qi P (fun u t => PostW D (va_A (wC cy ad I A T L K F) sz) ((fun (u : (Nat → Option Nat) × (List Nat) × (Nat → Nat) × (Nat → Nat → Int32)) => wC cy ad I A u.1 u.2.1 u.2.2.1 u.2.2.2) u) t) (va_A (wC cy ad I A T L K F) sz)) 1 3 (va_A (wC cy ad I A T L K F) sz) := by
  refine met_i (wf := fun (u : (Nat → Option Nat) × (List Nat) × (Nat → Nat) × (Nat → Nat → Int32)) => wC cy ad I A u.1 u.2.1 u.2.2.1 u.2.2.2) R_Pw .int db_Pw_draw (by decide) rfl rfl (Nat.le_of_ble_eq_true rfl) ?_
  intro p e s m below meth c Z Q ls C h hl hret
  have hl : lv_has ls 7 [(0, .ref (ad 0)), (1, .int a1), (2, .int a2), (3, .int a3), (4, .int a4)] := hl
  refine i_iload_n (n := 1) C 0 rfl rfl rfl hl 2 rfl ?_
  refine i_iconst (v := (0 : Int32)) (n := 2) C 1 rfl rfl rfl ?_
  refine i_sipush (v := (1000 : Int32)) (n := 5) C 2 rfl rfl rfl ?_
  refine i_callSp (rest := []) (n := 8) C 3 rfl rfl hl h (kS_Pw_69 ⟨by decide, by decide⟩) (m_Pw_isWithin hw) rfl rfl (Nat.le_of_ble_eq_true rfl) ⟨by decide, by decide⟩ (fun r1 hw => ?_)
  refine i_if_eq (tgt := 24) (n := 11) C 4 rfl rfl rfl (fun c2 => ?_) (fun c2 => ?_)
  · replace hw := hw.1 c2
    exact e_Pw_draw_24 C hret  T L K F ls _ _ hl h hw
  · replace hw := hw.2 c2
    refine i_iload_n (n := 12) C 5 rfl rfl rfl hl 3 rfl ?_
    refine i_iload (n := 14) C 6 rfl rfl hl 4 rfl ?_
    refine i_callSp (rest := []) (n := 17) C 7 rfl rfl hl h (kS_Pw_128 ⟨by decide, by decide⟩) (m_Pw_areHours hw) rfl rfl (Nat.le_of_ble_eq_true rfl) ⟨by decide, by decide⟩ (fun r12 hw => ?_)
    refine i_if_eq (tgt := 24) (n := 20) C 8 rfl rfl rfl (fun c13 => ?_) (fun c13 => ?_)
    · replace hw := hw.1 c13
      exact e_Pw_draw_24 C hret  T L K F ls _ _ hl h hw
    · replace hw := hw.2 c13
      refine i_iconst (v := (1 : Int32)) (n := 21) C 9 rfl rfl rfl ?_
      refine i_goto (tgt := 25) C 10 rfl rfl ?_
      exact e_Pw_draw_25 C hret  T L K F (1 : Int32) ls _ _ hl h hw
end S30
section S31
variable {p : Program} {l : Launch} {e : Env} {R : Room} {s : State} {m : MethodId} {args : Array Value} {below : List Frame} {meth : Method} {c : Code} {H : Heap} {locs : List Loc} {cells slots : Nat} {Q : State → Prop}
variable {cc : ByteArray} {pc n nL : Nat} {ls : Array Slot} {rest : List Value} {D : va_G} {cy : Nat → ClassId} {Z : Nat → Prop} {ad : Nat → Nat} {tb : List (Nat × Instr × Nat)} {lv : List (Nat × Value)}
set_option maxHeartbeats 4000000 in
set_option maxRecDepth 100000 in
theorem m_Dr_init_Li {l : Launch} {D : va_G} {cy : Nat → ClassId} {ad : Nat → Nat} {I : Nat → Int32} {A : Nat → Nat → Int32} {T : Nat → Option Nat} {L : List Nat} {K : Nat → Nat} {F : Nat → Nat → Int32} {b : Nat} {a1 : Int32} {a2 : Int32} {a3 : Int32} {P : ((Nat → Nat → Int32)) → Prop} (hbq : b ∈ L) (hbk : K b = 4) (hw : g_Dr_init_Li F b a1 a2 a3 P) : ∀ sz, Met l y_Dr_init (WL y_Dr_init c_Dr_init 4 none) { frames := 2, cells := 0, slots := 0, locals := 40 } (va_Pc [.ref b, .int a1, .int a2, .int a3] (PreW D cy (wC cy ad I A T L K F) sz)) (va_Qv P (fun u t => PostW D (va_A (wC cy ad I A T L K F) sz) ((fun (u : (Nat → Nat → Int32)) => wC cy ad I A T L K u) u) t) (va_A (wC cy ad I A T L K F) sz)) 0 0 (va_A (wC cy ad I A T L K F) sz) := by
  refine met_v (wf := fun (u : (Nat → Nat → Int32)) => wC cy ad I A T L K u) R_Dr db_Dr_init (by decide) rfl (Nat.le_of_ble_eq_true rfl) ?_
  intro p e s m below meth c Z Q ls hin C h hl hret
  have hl : lv_has ls 4 [(0, .ref b), (1, .int a1), (2, .int a2), (3, .int a3)] := hl
  refine i_aload_n (n := 1) C 0 rfl rfl rfl hl 0 rfl ?_
  refine i_callINv (rest := []) (n := 4) C 1 rfl rfl hl h (kIN_Dr_3 ⟨by decide, by decide⟩) (m_Th_init hw) rfl rfl (Nat.le_of_ble_eq_true rfl) ⟨by decide, by decide⟩ (fun u1 H locs hw h => ?_)
  refine i_aload_n (n := 5) C 2 rfl rfl rfl hl 0 rfl ?_
  refine i_iload_n (n := 6) C 3 rfl rfl rfl hl 1 rfl ?_
  refine tp_Dr_9_Li (n := 9) C 4 rfl rfl h hbq hbk hin (fun H locs h => ?_)
  refine i_aload_n (n := 10) C 5 rfl rfl rfl hl 0 rfl ?_
  refine i_iload_n (n := 11) C 6 rfl rfl rfl hl 2 rfl ?_
  refine tp_Dr_15_Li (n := 14) C 7 rfl rfl h hbq hbk hin (fun H locs h => ?_)
  refine i_aload_n (n := 15) C 8 rfl rfl rfl hl 0 rfl ?_
  refine i_iload_n (n := 16) C 9 rfl rfl rfl hl 3 rfl ?_
  refine tp_Dr_18_Li (n := 19) C 10 rfl rfl h hbq hbk hin (fun H locs h => ?_)
  exact hret (sF (sF (sF F b 0 a1) b 1 a2) b 2 a3) _ _ _ _ hw h (C.dg (k := 11) rfl)
end S31
theorem kI_Li_3 {R : Room} {s : State} {args : Array Value} (hR : 2 + 1 ≤ R.frames ∧ 8 + (4 + 11) + 40 ≤ R.locals) (ht : ∀ w ∈ GW, w.before args s = true) : CallB R s args R_Li 3 y_Dr_init c_Dr_init 4 none (WL y_Dr_init c_Dr_init 4 none) { frames := 2, cells := 0, slots := 0, locals := 40 } 0 0 3 ∧ y_Dr_init.name = "<init>" ∧ (Cond.instanceMethod y_Dr_init).before args s = true := cwI 3 ht (GW_in (GW_wl w_2_125)) rfl rfl rfl (ht _ w_1_9) (ht _ w_2_157) (ht _ w_2_124) rfl (by decide +kernel) hR
section S32
variable {p : Program} {l : Launch} {e : Env} {R : Room} {s : State} {m : MethodId} {args : Array Value} {below : List Frame} {meth : Method} {c : Code} {H : Heap} {locs : List Loc} {cells slots : Nat} {Q : State → Prop}
variable {cc : ByteArray} {pc n nL : Nat} {ls : Array Slot} {rest : List Value} {D : va_G} {cy : Nat → ClassId} {Z : Nat → Prop} {ad : Nat → Nat} {tb : List (Nat × Instr × Nat)} {lv : List (Nat × Value)}
set_option maxHeartbeats 4000000 in
set_option maxRecDepth 100000 in
theorem m_Li_init_Li {l : Launch} {D : va_G} {cy : Nat → ClassId} {ad : Nat → Nat} {I : Nat → Int32} {A : Nat → Nat → Int32} {T : Nat → Option Nat} {L : List Nat} {K : Nat → Nat} {F : Nat → Nat → Int32} {b : Nat} {a1 : Int32} {a2 : Int32} {a3 : Int32} {a4 : Int32} {P : ((Nat → Nat → Int32)) → Prop} (hbq : b ∈ L) (hbk : K b = 4) (hw : g_Li_init_Li F b a1 a2 a3 a4 P) : ∀ sz, Met l y_Li_init (WL y_Li_init c_Li_init 5 none) { frames := 3, cells := 0, slots := 0, locals := 63 } (va_Pc [.ref b, .int a1, .int a2, .int a3, .int a4] (PreW D cy (wC cy ad I A T L K F) sz)) (va_Qv P (fun u t => PostW D (va_A (wC cy ad I A T L K F) sz) ((fun (u : (Nat → Nat → Int32)) => wC cy ad I A T L K u) u) t) (va_A (wC cy ad I A T L K F) sz)) 0 0 (va_A (wC cy ad I A T L K F) sz) := by
  refine met_v (wf := fun (u : (Nat → Nat → Int32)) => wC cy ad I A T L K u) R_Li db_Li_init (by decide) rfl (Nat.le_of_ble_eq_true rfl) ?_
  intro p e s m below meth c Z Q ls hin C h hl hret
  have hl : lv_has ls 5 [(0, .ref b), (1, .int a1), (2, .int a2), (3, .int a3), (4, .int a4)] := hl
  refine i_aload_n (n := 1) C 0 rfl rfl rfl hl 0 rfl ?_
  refine i_iload_n (n := 2) C 1 rfl rfl rfl hl 1 rfl ?_
  refine i_iload_n (n := 3) C 2 rfl rfl rfl hl 3 rfl ?_
  refine i_iload (n := 5) C 3 rfl rfl hl 4 rfl ?_
  refine i_callIv (rest := []) (n := 8) C 4 rfl rfl hl h (kI_Li_3 ⟨by decide, by decide⟩) (m_Dr_init_Li hbq hbk hw) rfl rfl (Nat.le_of_ble_eq_true rfl) ⟨by decide, by decide⟩ (fun u1 H locs hw h => ?_)
  refine i_aload_n (n := 9) C 5 rfl rfl rfl hl 0 rfl ?_
  refine i_iload_n (n := 10) C 6 rfl rfl rfl hl 2 rfl ?_
  refine tp_Li_9_Li (n := 13) C 7 rfl rfl h hbq hbk hin (fun H locs h => ?_)
  exact hret (sF u1 b 3 a2) _ _ _ _ hw h (C.dg (k := 8) rfl)
end S32
