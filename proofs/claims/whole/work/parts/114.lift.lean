section S180
variable {p : Program} {l : Launch} {e : Env} {R : Room} {s : State} {m : MethodId} {args : Array Value} {below : List Frame} {meth : Method} {c : Code} {H : Heap} {locs : List Loc} {cells slots : Nat} {Q : State → Prop}
variable {cc : ByteArray} {pc n nL : Nat} {ls : Array Slot} {rest : List Value} {D : va_G} {cy : Nat → ClassId} {Z : Nat → Prop} {ad : Nat → Nat} {tb : List (Nat × Instr × Nat)} {lv : List (Nat × Value)}
set_option maxHeartbeats 4000000 in
set_option maxRecDepth 100000 in
theorem e_Mo_valveOn_2 {I : Nat → Int32} {A : Nat → Nat → Int32} {a1 : Int32} {P : Int32 → Prop} {kx2 : Prop} (C : CX D cy R_Mo c_Mo_valveOn tb_Mo_valveOn 3 p s m args c Z) (h : HXw D Z s.heap H locs (wM cy ad I A)) (hret : RetP p l e { frames := 0, cells := 0, slots := 0, locals := 0 } s m args below meth c c_Mo_valveOn .int H locs Q P)
    (hx2 : ∀ (ls : Array Slot), lv_has ls 3 [] → kx2  → W p l e { frames := 0, cells := 0, slots := 0, locals := 0 } s m args below meth c H locs 0 0 Q (F0 m 28 ls [])) :
    ∀ (n : Nat) (x2 : Int32) (ls : Array Slot), lv_has ls 3 [(0, .ref (ad 0)), (1, .int a1), (2, .int x2)] → g_Mo_valveOn_2 I A a1 P kx2 n x2 → W p l e { frames := 0, cells := 0, slots := 0, locals := 0 } s m args below meth c H locs 0 0 Q (F0 m 2 ls []) := by
  intro n
  induction n with
  | zero => intro x2 ls hl hw; exact hw.elim
  | succ n ih =>
    intro x2 ls hl hw
    refine i_iload_n (n := 3) C 2 rfl rfl rfl hl 2 rfl ?_
    refine i_aload_n (n := 4) C 3 rfl rfl rfl hl 0 rfl ?_
    refine fgM_Mo_133 (n := 7) C 4 rfl rfl h ?_
    refine i_icmp_ge (tgt := 28) (n := 10) C 5 rfl rfl rfl (fun c1 => ?_) (fun c1 => ?_)
    · replace hw := hw.1 c1
      exact hx2  ls (lv_sub hl [] rfl) hw
    · replace hw := hw.2 c1
      refine i_aload_n (n := 11) C 6 rfl rfl rfl hl 0 rfl ?_
      refine fgM_Mo_62 (n := 14) C 7 rfl rfl h ?_
      refine i_iload_n (n := 15) C 8 rfl rfl rfl hl 2 rfl ?_
      obtain ⟨hb, hw⟩ := hw
      refine i_iald (n := 16) C 9 rfl rfl h (wM_arr 17 (by decide) rfl) hb ?_
      refine i_iload_n (n := 17) C 10 rfl rfl rfl hl 1 rfl ?_
      refine i_icmp_ne (tgt := 22) (n := 20) C 11 rfl rfl rfl (fun c2 => ?_) (fun c2 => ?_)
      · replace hw := hw.1 c2
        refine i_iinc (v := x2 + (1 : Int32)) (lv' := [(2, .int (x2 + (1 : Int32))), (0, .ref (ad 0)), (1, .int a1)]) (n := 25) C 14 rfl rfl hl 2 rfl rfl (by decide) rfl (fun ls hl => ?_)
        refine i_goto (tgt := 2) C 15 rfl rfl ?_
        exact ih (x2 + (1 : Int32)) ls (lv_sub hl [1, 2, 0] rfl) hw
      · replace hw := hw.2 c2
        refine i_iload_n (n := 21) C 12 rfl rfl rfl hl 2 rfl ?_
        exact hret _ _ _ rfl hw (C.dg (k := 13) rfl)
set_option maxHeartbeats 4000000 in
set_option maxRecDepth 100000 in
theorem m_Mo_valveOn {l : Launch} {D : va_G} {cy : Nat → ClassId} {ad : Nat → Nat} {I : Nat → Int32} {A : Nat → Nat → Int32} {a1 : Int32} {P : Int32 → Prop} (hw : g_Mo_valveOn I A a1 P) : ∀ sz, Met l y_Mo_valveOn (WL y_Mo_valveOn c_Mo_valveOn 3 (some .int)) { frames := 0, cells := 0, slots := 0, locals := 0 } (va_Pc [.ref (ad 0), .int a1] (PreW D cy (wM cy ad I A) sz)) (vp_Si P) 0 0 (fun _ => False) := by
  refine met_p R_Mo .int db_Mo_valveOn (by decide) rfl rfl (Nat.le_of_ble_eq_true rfl) ?_
  intro p e s m below meth c Z Q ls C h hl hret
  have hl : lv_has ls 3 [(0, .ref (ad 0)), (1, .int a1)] := hl
  refine i_iconst (v := (0 : Int32)) (n := 1) C 0 rfl rfl rfl ?_
  refine i_istore_n (lv' := [(2, .int (0 : Int32)), (0, .ref (ad 0)), (1, .int a1)]) (n := 2) C 1 rfl rfl rfl hl (by decide) rfl (fun ls hl => ?_)
  obtain ⟨n3, hw⟩ := hw
  refine e_Mo_valveOn_2 C h hret (fun  ls hl hw => ?_) n3 (0 : Int32) ls (lv_sub hl [1, 2, 0] rfl) hw
  have hl : lv_has ls 3 [] := hl
  refine i_bipush (v := (-6 : Int32)) (n := 30) C 16 rfl rfl rfl ?_
  exact hret _ _ _ rfl hw (C.dg (k := 17) rfl)
end S180
section S181
variable {p : Program} {l : Launch} {e : Env} {R : Room} {s : State} {m : MethodId} {args : Array Value} {below : List Frame} {meth : Method} {c : Code} {H : Heap} {locs : List Loc} {cells slots : Nat} {Q : State → Prop}
variable {cc : ByteArray} {pc n nL : Nat} {ls : Array Slot} {rest : List Value} {D : va_G} {cy : Nat → ClassId} {Z : Nat → Prop} {ad : Nat → Nat} {tb : List (Nat × Instr × Nat)} {lv : List (Nat × Value)}
set_option maxHeartbeats 4000000 in
set_option maxRecDepth 100000 in
theorem e_Mo_valveByMap_2 {I : Nat → Int32} {A : Nat → Nat → Int32} {a1 : Int32} {P : Int32 → Prop} {kx2 : Prop} (C : CX D cy R_Mo c_Mo_valveByMap tb_Mo_valveByMap 3 p s m args c Z) (h : HXw D Z s.heap H locs (wM cy ad I A)) (hret : RetP p l e { frames := 0, cells := 0, slots := 0, locals := 0 } s m args below meth c c_Mo_valveByMap .int H locs Q P)
    (hx2 : ∀ (ls : Array Slot), lv_has ls 3 [] → kx2  → W p l e { frames := 0, cells := 0, slots := 0, locals := 0 } s m args below meth c H locs 0 0 Q (F0 m 28 ls [])) :
    ∀ (n : Nat) (x2 : Int32) (ls : Array Slot), lv_has ls 3 [(0, .ref (ad 0)), (1, .int a1), (2, .int x2)] → g_Mo_valveByMap_2 I A a1 P kx2 n x2 → W p l e { frames := 0, cells := 0, slots := 0, locals := 0 } s m args below meth c H locs 0 0 Q (F0 m 2 ls []) := by
  intro n
  induction n with
  | zero => intro x2 ls hl hw; exact hw.elim
  | succ n ih =>
    intro x2 ls hl hw
    refine i_iload_n (n := 3) C 2 rfl rfl rfl hl 2 rfl ?_
    refine i_aload_n (n := 4) C 3 rfl rfl rfl hl 0 rfl ?_
    refine fgM_Mo_133 (n := 7) C 4 rfl rfl h ?_
    refine i_icmp_ge (tgt := 28) (n := 10) C 5 rfl rfl rfl (fun c1 => ?_) (fun c1 => ?_)
    · replace hw := hw.1 c1
      exact hx2  ls (lv_sub hl [] rfl) hw
    · replace hw := hw.2 c1
      refine i_aload_n (n := 11) C 6 rfl rfl rfl hl 0 rfl ?_
      refine fgM_Mo_65 (n := 14) C 7 rfl rfl h ?_
      refine i_iload_n (n := 15) C 8 rfl rfl rfl hl 2 rfl ?_
      obtain ⟨hb, hw⟩ := hw
      refine i_iald (n := 16) C 9 rfl rfl h (wM_arr 18 (by decide) rfl) hb ?_
      refine i_iload_n (n := 17) C 10 rfl rfl rfl hl 1 rfl ?_
      refine i_icmp_ne (tgt := 22) (n := 20) C 11 rfl rfl rfl (fun c2 => ?_) (fun c2 => ?_)
      · replace hw := hw.1 c2
        refine i_iinc (v := x2 + (1 : Int32)) (lv' := [(2, .int (x2 + (1 : Int32))), (0, .ref (ad 0)), (1, .int a1)]) (n := 25) C 14 rfl rfl hl 2 rfl rfl (by decide) rfl (fun ls hl => ?_)
        refine i_goto (tgt := 2) C 15 rfl rfl ?_
        exact ih (x2 + (1 : Int32)) ls (lv_sub hl [1, 2, 0] rfl) hw
      · replace hw := hw.2 c2
        refine i_iload_n (n := 21) C 12 rfl rfl rfl hl 2 rfl ?_
        exact hret _ _ _ rfl hw (C.dg (k := 13) rfl)
set_option maxHeartbeats 4000000 in
set_option maxRecDepth 100000 in
theorem m_Mo_valveByMap {l : Launch} {D : va_G} {cy : Nat → ClassId} {ad : Nat → Nat} {I : Nat → Int32} {A : Nat → Nat → Int32} {a1 : Int32} {P : Int32 → Prop} (hw : g_Mo_valveByMap I A a1 P) : ∀ sz, Met l y_Mo_valveByMap (WL y_Mo_valveByMap c_Mo_valveByMap 3 (some .int)) { frames := 0, cells := 0, slots := 0, locals := 0 } (va_Pc [.ref (ad 0), .int a1] (PreW D cy (wM cy ad I A) sz)) (vp_Si P) 0 0 (fun _ => False) := by
  refine met_p R_Mo .int db_Mo_valveByMap (by decide) rfl rfl (Nat.le_of_ble_eq_true rfl) ?_
  intro p e s m below meth c Z Q ls C h hl hret
  have hl : lv_has ls 3 [(0, .ref (ad 0)), (1, .int a1)] := hl
  refine i_iconst (v := (0 : Int32)) (n := 1) C 0 rfl rfl rfl ?_
  refine i_istore_n (lv' := [(2, .int (0 : Int32)), (0, .ref (ad 0)), (1, .int a1)]) (n := 2) C 1 rfl rfl rfl hl (by decide) rfl (fun ls hl => ?_)
  obtain ⟨n3, hw⟩ := hw
  refine e_Mo_valveByMap_2 C h hret (fun  ls hl hw => ?_) n3 (0 : Int32) ls (lv_sub hl [1, 2, 0] rfl) hw
  have hl : lv_has ls 3 [] := hl
  refine i_bipush (v := (-6 : Int32)) (n := 30) C 16 rfl rfl rfl ?_
  exact hret _ _ _ rfl hw (C.dg (k := 17) rfl)
end S181
theorem kV_Mo_140 {R : Room} {s : State} {args : Array Value} (hR : 1 + 1 ≤ R.frames ∧ 8 + (2 + 11) + 22 ≤ R.locals) (ht : ∀ w ∈ GW, w.before args s = true) : CallW R s args R_Mo R_Mo 140 y_Mo_isMain c_Mo_isMain 2 (some .boolean) (WL y_Mo_isMain c_Mo_isMain 2 (some .boolean)) { frames := 1, cells := 0, slots := 0, locals := 22 } 0 0 1 := cwV 1 ht (GW_v w_6_35 w_6_37 w_0_29 w_1_7 (GW_wl w_6_38)) rfl rfl rfl (by decide +kernel) hR
theorem kV_Mo_143 {R : Room} {s : State} {args : Array Value} (hR : 0 + 1 ≤ R.frames ∧ 8 + (3 + 11) + 0 ≤ R.locals) (ht : ∀ w ∈ GW, w.before args s = true) : CallW R s args R_Mo R_Mo 143 y_Mo_valveOn c_Mo_valveOn 3 (some .int) (WL y_Mo_valveOn c_Mo_valveOn 3 (some .int)) { frames := 0, cells := 0, slots := 0, locals := 0 } 0 0 1 := cwV 1 ht (GW_v w_6_39 w_6_41 w_0_30 w_1_7 (GW_wl w_6_42)) rfl rfl rfl (by decide +kernel) hR
theorem kV_Mo_147 {R : Room} {s : State} {args : Array Value} (hR : 0 + 1 ≤ R.frames ∧ 8 + (3 + 11) + 0 ≤ R.locals) (ht : ∀ w ∈ GW, w.before args s = true) : CallW R s args R_Mo R_Mo 147 y_Mo_valveByMap c_Mo_valveByMap 3 (some .int) (WL y_Mo_valveByMap c_Mo_valveByMap 3 (some .int)) { frames := 0, cells := 0, slots := 0, locals := 0 } 0 0 1 := cwV 1 ht (GW_v w_6_43 w_6_45 w_0_31 w_1_7 (GW_wl w_6_46)) rfl rfl rfl (by decide +kernel) hR
section S182
variable {p : Program} {l : Launch} {e : Env} {R : Room} {s : State} {m : MethodId} {args : Array Value} {below : List Frame} {meth : Method} {c : Code} {H : Heap} {locs : List Loc} {cells slots : Nat} {Q : State → Prop}
variable {cc : ByteArray} {pc n nL : Nat} {ls : Array Slot} {rest : List Value} {D : va_G} {cy : Nat → ClassId} {Z : Nat → Prop} {ad : Nat → Nat} {tb : List (Nat × Instr × Nat)} {lv : List (Nat × Value)}
set_option maxHeartbeats 4000000 in
set_option maxRecDepth 100000 in
theorem m_Mo_valve {l : Launch} {D : va_G} {cy : Nat → ClassId} {ad : Nat → Nat} {I : Nat → Int32} {A : Nat → Nat → Int32} {a1 : Int32} {a2 : Int32} {P : Int32 → ((Nat → Int32) × (Nat → Nat → Int32)) → Prop} (hw : g_Mo_valve I A a1 a2 P) : ∀ sz, Met l y_Mo_valve (WL y_Mo_valve c_Mo_valve 3 (some .int)) { frames := 2, cells := 0, slots := 0, locals := 43 } (va_Pc [.ref (ad 0), .int a1, .int a2] (PreW D cy (wM cy ad I A) sz)) (va_Qi P (fun u t => PostW D (va_A (wM cy ad I A) sz) ((fun (u : (Nat → Int32) × (Nat → Nat → Int32)) => wM cy ad u.1 u.2) u) t) (va_A (wM cy ad I A) sz)) 0 0 (va_A (wM cy ad I A) sz) := by
  refine met_i (wf := fun (u : (Nat → Int32) × (Nat → Nat → Int32)) => wM cy ad u.1 u.2) R_Mo .int db_Mo_valve (by decide) rfl rfl (Nat.le_of_ble_eq_true rfl) ?_
  intro p e s m below meth c Z Q ls C h hl hret
  have hl : lv_has ls 3 [(0, .ref (ad 0)), (1, .int a1), (2, .int a2)] := hl
  refine i_aload_n (n := 1) C 0 rfl rfl rfl hl 0 rfl ?_
  refine i_iload_n (n := 2) C 1 rfl rfl rfl hl 1 rfl ?_
  refine i_callVp (rest := []) (ci := 11) (qc := (R_Mo, T_Mo, 50)) (n := 5) C 2 rfl rfl hl h rfl (wM_get (h := 0) (by decide)) (kV_Mo_140 ⟨by decide, by decide⟩) (m_Mo_isMain hw) rfl rfl (Nat.le_of_ble_eq_true rfl) ⟨by decide, by decide⟩ (fun r1 hw => ?_)
  refine i_if_eq (tgt := 16) (n := 8) C 3 rfl rfl rfl (fun c2 => ?_) (fun c2 => ?_)
  · replace hw := hw.1 c2
    refine i_iconst (v := (-1 : Int32)) (n := 17) C 8 rfl rfl rfl ?_
    exact hret _ (I, A) _ _ _ _ rfl hw h (C.dg (k := 9) rfl)
  · replace hw := hw.2 c2
    refine i_aload_n (n := 9) C 4 rfl rfl rfl hl 0 rfl ?_
    refine i_iload_n (n := 10) C 5 rfl rfl rfl hl 2 rfl ?_
    refine i_callVp (rest := []) (ci := 11) (qc := (R_Mo, T_Mo, 50)) (n := 13) C 6 rfl rfl hl h rfl (wM_get (h := 0) (by decide)) (kV_Mo_140 ⟨by decide, by decide⟩) (m_Mo_isMain hw) rfl rfl (Nat.le_of_ble_eq_true rfl) ⟨by decide, by decide⟩ (fun r3 hw => ?_)
    refine i_if_ne (tgt := 18) (n := 16) C 7 rfl rfl rfl (fun c4 => ?_) (fun c4 => ?_)
    · replace hw := hw.1 c4
      refine i_aload_n (n := 19) C 10 rfl rfl rfl hl 0 rfl ?_
      refine fgM_Mo_133 (n := 22) C 11 rfl rfl h ?_
      refine i_bipush (v := (12 : Int32)) (n := 24) C 12 rfl rfl rfl ?_
      refine i_icmp_ne (tgt := 30) (n := 27) C 13 rfl rfl rfl (fun c5 => ?_) (fun c5 => ?_)
      · replace hw := hw.1 c5
        refine i_aload_n (n := 31) C 16 rfl rfl rfl hl 0 rfl ?_
        refine i_iload_n (n := 32) C 17 rfl rfl rfl hl 1 rfl ?_
        refine i_callVp (rest := []) (ci := 11) (qc := (R_Mo, T_Mo, 50)) (n := 35) C 18 rfl rfl hl h rfl (wM_get (h := 0) (by decide)) (kV_Mo_143 ⟨by decide, by decide⟩) (m_Mo_valveOn hw) rfl rfl (Nat.le_of_ble_eq_true rfl) ⟨by decide, by decide⟩ (fun r6 hw => ?_)
        refine i_if_ge (tgt := 46) (n := 38) C 19 rfl rfl rfl (fun c7 => ?_) (fun c7 => ?_)
        · replace hw := hw.1 c7
          refine i_bipush (v := (-5 : Int32)) (n := 48) C 24 rfl rfl rfl ?_
          exact hret _ (I, A) _ _ _ _ rfl hw h (C.dg (k := 25) rfl)
        · replace hw := hw.2 c7
          refine i_aload_n (n := 39) C 20 rfl rfl rfl hl 0 rfl ?_
          refine i_iload_n (n := 40) C 21 rfl rfl rfl hl 2 rfl ?_
          refine i_callVp (rest := []) (ci := 11) (qc := (R_Mo, T_Mo, 50)) (n := 43) C 22 rfl rfl hl h rfl (wM_get (h := 0) (by decide)) (kV_Mo_147 ⟨by decide, by decide⟩) (m_Mo_valveByMap hw) rfl rfl (Nat.le_of_ble_eq_true rfl) ⟨by decide, by decide⟩ (fun r8 hw => ?_)
          refine i_if_lt (tgt := 49) (n := 46) C 23 rfl rfl rfl (fun c9 => ?_) (fun c9 => ?_)
          · replace hw := hw.1 c9
            refine i_aload_n (n := 50) C 26 rfl rfl rfl hl 0 rfl ?_
            refine fgM_Mo_62 (n := 53) C 27 rfl rfl h ?_
            refine i_aload_n (n := 54) C 28 rfl rfl rfl hl 0 rfl ?_
            refine fgM_Mo_133 (n := 57) C 29 rfl rfl h ?_
            refine i_iload_n (n := 58) C 30 rfl rfl rfl hl 1 rfl ?_
            obtain ⟨hb, hw⟩ := hw
            refine i_iast (n := 59) C 31 rfl rfl h (wM_arr 17 (by decide) rfl) hb (wM_sA 17 (by decide) rfl _ _) (fun H locs h => ?_)
            refine i_aload_n (n := 60) C 32 rfl rfl rfl hl 0 rfl ?_
            refine fgM_Mo_65 (n := 63) C 33 rfl rfl h ?_
            refine i_aload_n (n := 64) C 34 rfl rfl rfl hl 0 rfl ?_
            refine fgM_Mo_133 (n := 67) C 35 rfl rfl h ?_
            refine i_iload_n (n := 68) C 36 rfl rfl rfl hl 2 rfl ?_
            obtain ⟨hb, hw⟩ := hw
            refine i_iast (n := 69) C 37 rfl rfl h (wM_arr 18 (by decide) rfl) hb (wM_sA 18 (by decide) rfl _ _) (fun H locs h => ?_)
            refine i_aload_n (n := 70) C 38 rfl rfl rfl hl 0 rfl ?_
            refine fgM_Mo_68 (n := 73) C 39 rfl rfl h ?_
            refine i_aload_n (n := 74) C 40 rfl rfl rfl hl 0 rfl ?_
            refine fgM_Mo_133 (n := 77) C 41 rfl rfl h ?_
            refine i_iconst (v := (0 : Int32)) (n := 78) C 42 rfl rfl rfl ?_
            obtain ⟨hb, hw⟩ := hw
            refine i_zast (n := 79) C 43 rfl rfl h (wM_arr 19 (by decide) rfl) hb (wM_sA 19 (by decide) rfl _ _) (fun H locs h => ?_)
            refine i_aload_n (n := 80) C 44 rfl rfl rfl hl 0 rfl ?_
            refine i_dup (n := 81) C 45 rfl rfl rfl ?_
            refine fgM_Mo_133 (n := 84) C 46 rfl rfl h ?_
            refine i_iconst (v := (1 : Int32)) (n := 85) C 47 rfl rfl rfl ?_
            refine i_iadd (n := 86) C 48 rfl rfl ?_
            refine fpM_Mo_133 (n := 89) C 49 rfl rfl h (fun H locs h => ?_)
            refine i_aload_n (n := 90) C 50 rfl rfl rfl hl 0 rfl ?_
            refine fgM_Mo_133 (n := 93) C 51 rfl rfl h ?_
            refine i_iconst (v := (1 : Int32)) (n := 94) C 52 rfl rfl rfl ?_
            refine i_isub (n := 95) C 53 rfl rfl ?_
            exact hret _ (va_up I 2 ((I 2) + (1 : Int32)), sA (sA (sA A 17 (I 2) a1) 18 (I 2) a2) 19 (I 2) (vp_nar .boolean (0 : Int32))) _ _ _ _ rfl hw h (C.dg (k := 54) rfl)
          · replace hw := hw.2 c9
            refine i_bipush (v := (-5 : Int32)) (n := 48) C 24 rfl rfl rfl ?_
            exact hret _ (I, A) _ _ _ _ rfl hw h (C.dg (k := 25) rfl)
      · replace hw := hw.2 c5
        refine i_bipush (v := (-4 : Int32)) (n := 29) C 14 rfl rfl rfl ?_
        exact hret _ (I, A) _ _ _ _ rfl hw h (C.dg (k := 15) rfl)
    · replace hw := hw.2 c4
      refine i_iconst (v := (-1 : Int32)) (n := 17) C 8 rfl rfl rfl ?_
      exact hret _ (I, A) _ _ _ _ rfl hw h (C.dg (k := 9) rfl)
end S182
theorem kV_Mo_150 {R : Room} {s : State} {args : Array Value} (hR : 1 + 1 ≤ R.frames ∧ 8 + (2 + 11) + 22 ≤ R.locals) (ht : ∀ w ∈ GW, w.before args s = true) : CallW R s args R_Mo R_Mo 150 y_Mo_isValve c_Mo_isValve 2 (some .boolean) (WL y_Mo_isValve c_Mo_isValve 2 (some .boolean)) { frames := 1, cells := 0, slots := 0, locals := 22 } 0 0 1 := cwV 1 ht (GW_v w_6_51 w_6_53 w_0_32 w_1_7 (GW_wl w_6_54)) rfl rfl rfl (by decide +kernel) hR
section S183
variable {p : Program} {l : Launch} {e : Env} {R : Room} {s : State} {m : MethodId} {args : Array Value} {below : List Frame} {meth : Method} {c : Code} {H : Heap} {locs : List Loc} {cells slots : Nat} {Q : State → Prop}
variable {cc : ByteArray} {pc n nL : Nat} {ls : Array Slot} {rest : List Value} {D : va_G} {cy : Nat → ClassId} {Z : Nat → Prop} {ad : Nat → Nat} {tb : List (Nat × Instr × Nat)} {lv : List (Nat × Value)}
set_option maxHeartbeats 4000000 in
set_option maxRecDepth 100000 in
theorem e_Mo_turn_29 {I : Nat → Int32} {a1 : Int32} {P : Int32 → ((Nat → Nat → Int32)) → Prop}  (C : CX D cy R_Mo c_Mo_turn tb_Mo_turn 2 p s m args c Z) (hret : RetI p l e { frames := 2, cells := 0, slots := 0, locals := 43 } s m args below meth c c_Mo_turn .int D Z Q (fun (u : (Nat → Nat → Int32)) => wM cy ad I u) P 0 0) :
    ∀ (A : Nat → Nat → Int32) (s1 : Int32) (s2 : Int32) (ls : Array Slot) (H : Heap) (locs : List Loc), lv_has ls 2 [(0, .ref (ad 0)), (1, .int a1)] → HXw D Z s.heap H locs (wM cy ad I A) → g_Mo_turn_29 I a1 P  A s1 s2 → W p l e { frames := 2, cells := 0, slots := 0, locals := 43 } s m args below meth c H locs 0 0 Q (F0 m 29 ls [.int s2, .int s1, .ref (ad 20)]) := by
  intro A s1 s2 ls H locs hl h hw
  obtain ⟨hb, hw⟩ := hw
  refine i_zast (n := 30) C 17 rfl rfl h (wM_arr 19 (by decide) rfl) hb (wM_sA 19 (by decide) rfl _ _) (fun H locs h => ?_)
  refine i_aload_n (n := 31) C 18 rfl rfl rfl hl 0 rfl ?_
  refine fgM_Mo_68 (n := 34) C 19 rfl rfl h ?_
  refine i_iload_n (n := 35) C 20 rfl rfl rfl hl 1 rfl ?_
  obtain ⟨hb, hw⟩ := hw
  refine i_zald (n := 36) C 21 rfl rfl h (wM_arr 19 (by decide) rfl) hb ?_
  refine i_if_eq (tgt := 43) (n := 39) C 22 rfl rfl rfl (fun c4 => ?_) (fun c4 => ?_)
  · replace hw := hw.1 c4
    refine i_iconst (v := (0 : Int32)) (n := 44) C 25 rfl rfl rfl ?_
    exact hret _ (sA A 19 s1 (vp_nar .boolean s2)) _ _ _ _ rfl hw h (C.dg (k := 26) rfl)
  · replace hw := hw.2 c4
    refine i_iconst (v := (1 : Int32)) (n := 40) C 23 rfl rfl rfl ?_
    refine i_goto (tgt := 44) C 24 rfl rfl ?_
    exact hret _ (sA A 19 s1 (vp_nar .boolean s2)) _ _ _ _ rfl hw h (C.dg (k := 26) rfl)
set_option maxHeartbeats 4000000 in
set_option maxRecDepth 100000 in
theorem m_Mo_turn {l : Launch} {D : va_G} {cy : Nat → ClassId} {ad : Nat → Nat} {I : Nat → Int32} {A : Nat → Nat → Int32} {a1 : Int32} {P : Int32 → ((Nat → Nat → Int32)) → Prop} (hw : g_Mo_turn I A a1 P) : ∀ sz, Met l y_Mo_turn (WL y_Mo_turn c_Mo_turn 2 (some .int)) { frames := 2, cells := 0, slots := 0, locals := 43 } (va_Pc [.ref (ad 0), .int a1] (PreW D cy (wM cy ad I A) sz)) (va_Qi P (fun u t => PostW D (va_A (wM cy ad I A) sz) ((fun (u : (Nat → Nat → Int32)) => wM cy ad I u) u) t) (va_A (wM cy ad I A) sz)) 0 0 (va_A (wM cy ad I A) sz) := by
  refine met_i (wf := fun (u : (Nat → Nat → Int32)) => wM cy ad I u) R_Mo .int db_Mo_turn (by decide) rfl rfl (Nat.le_of_ble_eq_true rfl) ?_
  intro p e s m below meth c Z Q ls C h hl hret
  have hl : lv_has ls 2 [(0, .ref (ad 0)), (1, .int a1)] := hl
  refine i_aload_n (n := 1) C 0 rfl rfl rfl hl 0 rfl ?_
  refine i_iload_n (n := 2) C 1 rfl rfl rfl hl 1 rfl ?_
  refine i_callVp (rest := []) (ci := 11) (qc := (R_Mo, T_Mo, 50)) (n := 5) C 2 rfl rfl hl h rfl (wM_get (h := 0) (by decide)) (kV_Mo_150 ⟨by decide, by decide⟩) (m_Mo_isValve hw) rfl rfl (Nat.le_of_ble_eq_true rfl) ⟨by decide, by decide⟩ (fun r1 hw => ?_)
  refine i_if_ne (tgt := 10) (n := 8) C 3 rfl rfl rfl (fun c2 => ?_) (fun c2 => ?_)
  · replace hw := hw.1 c2
    refine i_aload_n (n := 11) C 6 rfl rfl rfl hl 0 rfl ?_
    refine fgM_Mo_68 (n := 14) C 7 rfl rfl h ?_
    refine i_iload_n (n := 15) C 8 rfl rfl rfl hl 1 rfl ?_
    refine i_aload_n (n := 16) C 9 rfl rfl rfl hl 0 rfl ?_
    refine fgM_Mo_68 (n := 19) C 10 rfl rfl h ?_
    refine i_iload_n (n := 20) C 11 rfl rfl rfl hl 1 rfl ?_
    obtain ⟨hb, hw⟩ := hw
    refine i_zald (n := 21) C 12 rfl rfl h (wM_arr 19 (by decide) rfl) hb ?_
    refine i_if_ne (tgt := 28) (n := 24) C 13 rfl rfl rfl (fun c3 => ?_) (fun c3 => ?_)
    · replace hw := hw.1 c3
      refine i_iconst (v := (0 : Int32)) (n := 29) C 16 rfl rfl rfl ?_
      exact e_Mo_turn_29 C hret  A a1 (0 : Int32) ls _ _ hl h hw
    · replace hw := hw.2 c3
      refine i_iconst (v := (1 : Int32)) (n := 25) C 14 rfl rfl rfl ?_
      refine i_goto (tgt := 29) C 15 rfl rfl ?_
      exact e_Mo_turn_29 C hret  A a1 (1 : Int32) ls _ _ hl h hw
  · replace hw := hw.2 c2
    refine i_iconst (v := (-1 : Int32)) (n := 9) C 4 rfl rfl rfl ?_
    exact hret _ A _ _ _ _ rfl hw h (C.dg (k := 5) rfl)
end S183
section S184
variable {p : Program} {l : Launch} {e : Env} {R : Room} {s : State} {m : MethodId} {args : Array Value} {below : List Frame} {meth : Method} {c : Code} {H : Heap} {locs : List Loc} {cells slots : Nat} {Q : State → Prop}
variable {cc : ByteArray} {pc n nL : Nat} {ls : Array Slot} {rest : List Value} {D : va_G} {cy : Nat → ClassId} {Z : Nat → Prop} {ad : Nat → Nat} {tb : List (Nat × Instr × Nat)} {lv : List (Nat × Value)}
set_option maxHeartbeats 4000000 in
set_option maxRecDepth 100000 in
theorem e_Mo_isOpen_19 {I : Nat → Int32} {A : Nat → Nat → Int32} {a1 : Int32} {P : Int32 → Prop}  (C : CX D cy R_Mo c_Mo_isOpen tb_Mo_isOpen 3 p s m args c Z) (h : HXw D Z s.heap H locs (wM cy ad I A)) (hret : RetP p l e { frames := 1, cells := 0, slots := 0, locals := 22 } s m args below meth c c_Mo_isOpen .boolean H locs Q P) :
    ∀ (ls : Array Slot), lv_has ls 3 [] → g_Mo_isOpen_19 I A a1 P   → W p l e { frames := 1, cells := 0, slots := 0, locals := 22 } s m args below meth c H locs 0 0 Q (F0 m 19 ls []) := by
  intro  ls hl hw
  refine i_iconst (v := (1 : Int32)) (n := 20) C 11 rfl rfl rfl ?_
  refine i_goto (tgt := 24) C 12 rfl rfl ?_
  exact hret _ _ _ rfl hw (C.dg (k := 14) rfl)
set_option maxHeartbeats 4000000 in
set_option maxRecDepth 100000 in
theorem m_Mo_isOpen {l : Launch} {D : va_G} {cy : Nat → ClassId} {ad : Nat → Nat} {I : Nat → Int32} {A : Nat → Nat → Int32} {a1 : Int32} {P : Int32 → Prop} (hw : g_Mo_isOpen I A a1 P) : ∀ sz, Met l y_Mo_isOpen (WL y_Mo_isOpen c_Mo_isOpen 3 (some .boolean)) { frames := 1, cells := 0, slots := 0, locals := 22 } (va_Pc [.ref (ad 0), .int a1] (PreW D cy (wM cy ad I A) sz)) (vp_Si P) 0 0 (fun _ => False) := by
  refine met_p R_Mo .boolean db_Mo_isOpen (by decide) rfl rfl (Nat.le_of_ble_eq_true rfl) ?_
  intro p e s m below meth c Z Q ls C h hl hret
  have hl : lv_has ls 3 [(0, .ref (ad 0)), (1, .int a1)] := hl
  refine i_aload_n (n := 1) C 0 rfl rfl rfl hl 0 rfl ?_
  refine i_iload_n (n := 2) C 1 rfl rfl rfl hl 1 rfl ?_
  refine i_callVp (rest := []) (ci := 11) (qc := (R_Mo, T_Mo, 50)) (n := 5) C 2 rfl rfl hl h rfl (wM_get (h := 0) (by decide)) (kV_Mo_143 ⟨by decide, by decide⟩) (m_Mo_valveOn hw) rfl rfl (Nat.le_of_ble_eq_true rfl) ⟨by decide, by decide⟩ (fun r1 hw => ?_)
  refine i_istore_n (lv' := [(2, .int r1), (0, .ref (ad 0)), (1, .int a1)]) (n := 6) C 3 rfl rfl rfl hl (by decide) rfl (fun ls hl => ?_)
  refine i_iload_n (n := 7) C 4 rfl rfl rfl hl 0 rfl ?_
  refine i_if_lt (tgt := 19) (n := 10) C 5 rfl rfl rfl (fun c2 => ?_) (fun c2 => ?_)
  · replace hw := hw.1 c2
    exact e_Mo_isOpen_19 C h hret   ls (lv_sub hl [] rfl) hw
  · replace hw := hw.2 c2
    refine i_aload_n (n := 11) C 6 rfl rfl rfl hl 1 rfl ?_
    refine fgM_Mo_68 (n := 14) C 7 rfl rfl h ?_
    refine i_iload_n (n := 15) C 8 rfl rfl rfl hl 0 rfl ?_
    obtain ⟨hb, hw⟩ := hw
    refine i_zald (n := 16) C 9 rfl rfl h (wM_arr 19 (by decide) rfl) hb ?_
    refine i_if_ne (tgt := 23) (n := 19) C 10 rfl rfl rfl (fun c3 => ?_) (fun c3 => ?_)
    · replace hw := hw.1 c3
      refine i_iconst (v := (0 : Int32)) (n := 24) C 13 rfl rfl rfl ?_
      exact hret _ _ _ rfl hw (C.dg (k := 14) rfl)
    · replace hw := hw.2 c3
      exact e_Mo_isOpen_19 C h hret   ls (lv_sub hl [] rfl) hw
end S184
theorem kV_Mo_153 {R : Room} {s : State} {args : Array Value} (hR : 1 + 1 ≤ R.frames ∧ 8 + (3 + 11) + 22 ≤ R.locals) (ht : ∀ w ∈ GW, w.before args s = true) : CallW R s args R_Mo R_Mo 153 y_Mo_isOpen c_Mo_isOpen 3 (some .boolean) (WL y_Mo_isOpen c_Mo_isOpen 3 (some .boolean)) { frames := 1, cells := 0, slots := 0, locals := 22 } 0 0 1 := cwV 1 ht (GW_v w_6_59 w_6_61 w_0_33 w_1_7 (GW_wl w_6_62)) rfl rfl rfl (by decide +kernel) hR
section S185
variable {p : Program} {l : Launch} {e : Env} {R : Room} {s : State} {m : MethodId} {args : Array Value} {below : List Frame} {meth : Method} {c : Code} {H : Heap} {locs : List Loc} {cells slots : Nat} {Q : State → Prop}
variable {cc : ByteArray} {pc n nL : Nat} {ls : Array Slot} {rest : List Value} {D : va_G} {cy : Nat → ClassId} {Z : Nat → Prop} {ad : Nat → Nat} {tb : List (Nat × Instr × Nat)} {lv : List (Nat × Value)}
set_option maxHeartbeats 4000000 in
set_option maxRecDepth 100000 in
theorem e_Mo_ofMain_81 {I : Nat → Int32} {A : Nat → Nat → Int32} {a1 : Int32} {a2 : Int32} {P : Int32 → Prop}  (C : CX D cy R_Mo c_Mo_ofMain tb_Mo_ofMain 4 p s m args c Z) (h : HXw D Z s.heap H locs (wM cy ad I A)) (hret : RetP p l e { frames := 2, cells := 0, slots := 0, locals := 44 } s m args below meth c c_Mo_ofMain .int H locs Q P) :
    ∀ (ls : Array Slot), lv_has ls 4 [] → g_Mo_ofMain_81 I A a1 a2 P   → W p l e { frames := 2, cells := 0, slots := 0, locals := 44 } s m args below meth c H locs 0 0 Q (F0 m 81 ls []) := by
  intro  ls hl hw
  refine i_iconst (v := (1 : Int32)) (n := 82) C 27 rfl rfl rfl ?_
  refine i_goto (tgt := 86) C 28 rfl rfl ?_
  exact hret _ _ _ rfl hw (C.dg (k := 30) rfl)
set_option maxHeartbeats 4000000 in
set_option maxRecDepth 100000 in
theorem m_Mo_ofMain {l : Launch} {D : va_G} {cy : Nat → ClassId} {ad : Nat → Nat} {I : Nat → Int32} {A : Nat → Nat → Int32} {a1 : Int32} {a2 : Int32} {P : Int32 → Prop} (hw : g_Mo_ofMain I A a1 a2 P) : ∀ sz, Met l y_Mo_ofMain (WL y_Mo_ofMain c_Mo_ofMain 4 (some .int)) { frames := 2, cells := 0, slots := 0, locals := 44 } (va_Pc [.ref (ad 0), .int a1, .int a2] (PreW D cy (wM cy ad I A) sz)) (vp_Si P) 0 0 (fun _ => False) := by
  refine met_p R_Mo .int db_Mo_ofMain (by decide) rfl rfl (Nat.le_of_ble_eq_true rfl) ?_
  intro p e s m below meth c Z Q ls C h hl hret
  have hl : lv_has ls 4 [(0, .ref (ad 0)), (1, .int a1), (2, .int a2)] := hl
  refine i_aload_n (n := 1) C 0 rfl rfl rfl hl 0 rfl ?_
  refine i_iload_n (n := 2) C 1 rfl rfl rfl hl 1 rfl ?_
  refine i_callVp (rest := []) (ci := 11) (qc := (R_Mo, T_Mo, 50)) (n := 5) C 2 rfl rfl hl h rfl (wM_get (h := 0) (by decide)) (kV_Mo_140 ⟨by decide, by decide⟩) (m_Mo_isMain hw) rfl rfl (Nat.le_of_ble_eq_true rfl) ⟨by decide, by decide⟩ (fun r1 hw => ?_)
  refine i_if_ne (tgt := 10) (n := 8) C 3 rfl rfl rfl (fun c2 => ?_) (fun c2 => ?_)
  · replace hw := hw.1 c2
    refine i_iload_n (n := 11) C 6 rfl rfl rfl hl 2 rfl ?_
    by_cases c3 : a2 = (0 : Int32)
    · replace hw := hw.1 c3
      refine i_tsw (tgt := 48) C 7 rfl c3 (by decide) (by decide) rfl rfl ?_
      refine i_aload_n (n := 49) C 8 rfl rfl rfl hl 0 rfl ?_
      refine i_iload_n (n := 50) C 9 rfl rfl rfl hl 1 rfl ?_
      refine i_callVp (rest := []) (ci := 11) (qc := (R_Mo, T_Mo, 50)) (n := 53) C 10 rfl rfl hl h rfl (wM_get (h := 0) (by decide)) (kV_Mo_153 ⟨by decide, by decide⟩) (m_Mo_isOpen hw) rfl rfl (Nat.le_of_ble_eq_true rfl) ⟨by decide, by decide⟩ (fun r4 hw => ?_)
      refine i_if_eq (tgt := 60) (n := 56) C 11 rfl rfl rfl (fun c5 => ?_) (fun c5 => ?_)
      · replace hw := hw.1 c5
        refine i_iconst (v := (0 : Int32)) (n := 61) C 14 rfl rfl rfl ?_
        exact hret _ _ _ rfl hw (C.dg (k := 15) rfl)
      · replace hw := hw.2 c5
        refine i_iconst (v := (1 : Int32)) (n := 57) C 12 rfl rfl rfl ?_
        refine i_goto (tgt := 61) C 13 rfl rfl ?_
        exact hret _ _ _ rfl hw (C.dg (k := 15) rfl)
    replace hw := hw.2
    by_cases c6 : a2 = (1 : Int32)
    · replace hw := hw.1 c6
      refine i_tsw (tgt := 62) C 7 rfl c6 (by decide) (by decide) rfl rfl ?_
      refine i_aload_n (n := 63) C 16 rfl rfl rfl hl 0 rfl ?_
      refine i_iload_n (n := 64) C 17 rfl rfl rfl hl 1 rfl ?_
      refine i_callVp (rest := []) (ci := 11) (qc := (R_Mo, T_Mo, 50)) (n := 67) C 18 rfl rfl hl h rfl (wM_get (h := 0) (by decide)) (kV_Mo_147 ⟨by decide, by decide⟩) (m_Mo_valveByMap hw) rfl rfl (Nat.le_of_ble_eq_true rfl) ⟨by decide, by decide⟩ (fun r7 hw => ?_)
      refine i_istore_n (lv' := [(3, .int r7), (0, .ref (ad 0)), (1, .int a1), (2, .int a2)]) (n := 68) C 19 rfl rfl rfl hl (by decide) rfl (fun ls hl => ?_)
      refine i_iload_n (n := 69) C 20 rfl rfl rfl hl 0 rfl ?_
      refine i_if_lt (tgt := 81) (n := 72) C 21 rfl rfl rfl (fun c8 => ?_) (fun c8 => ?_)
      · replace hw := hw.1 c8
        exact e_Mo_ofMain_81 C h hret   ls (lv_sub hl [] rfl) hw
      · replace hw := hw.2 c8
        refine i_aload_n (n := 73) C 22 rfl rfl rfl hl 1 rfl ?_
        refine fgM_Mo_68 (n := 76) C 23 rfl rfl h ?_
        refine i_iload_n (n := 77) C 24 rfl rfl rfl hl 0 rfl ?_
        obtain ⟨hb, hw⟩ := hw
        refine i_zald (n := 78) C 25 rfl rfl h (wM_arr 19 (by decide) rfl) hb ?_
        refine i_if_ne (tgt := 85) (n := 81) C 26 rfl rfl rfl (fun c9 => ?_) (fun c9 => ?_)
        · replace hw := hw.1 c9
          refine i_iconst (v := (0 : Int32)) (n := 86) C 29 rfl rfl rfl ?_
          exact hret _ _ _ rfl hw (C.dg (k := 30) rfl)
        · replace hw := hw.2 c9
          exact e_Mo_ofMain_81 C h hret   ls (lv_sub hl [] rfl) hw
    replace hw := hw.2
    by_cases c10 : a2 = (2 : Int32)
    · replace hw := hw.1 c10
      refine i_tsw (tgt := 87) C 7 rfl c10 (by decide) (by decide) rfl rfl ?_
      refine i_aload_n (n := 88) C 31 rfl rfl rfl hl 0 rfl ?_
      refine fgM_Mo_59 (n := 91) C 32 rfl rfl h ?_
      refine i_iload_n (n := 92) C 33 rfl rfl rfl hl 1 rfl ?_
      obtain ⟨hb, hw⟩ := hw
      refine i_iald (n := 93) C 34 rfl rfl h (wM_arr 16 (by decide) rfl) hb ?_
      exact hret _ _ _ rfl hw (C.dg (k := 35) rfl)
    replace hw := hw.2
    by_cases c11 : a2 = (3 : Int32)
    · replace hw := hw.1 c11
      refine i_tsw (tgt := 94) C 7 rfl c11 (by decide) (by decide) rfl rfl ?_
      refine i_aload_n (n := 95) C 36 rfl rfl rfl hl 0 rfl ?_
      refine fgM_Mo_53 (n := 98) C 37 rfl rfl h ?_
      refine i_iload_n (n := 99) C 38 rfl rfl rfl hl 1 rfl ?_
      obtain ⟨hb, hw⟩ := hw
      refine i_iald (n := 100) C 39 rfl rfl h (wM_arr 14 (by decide) rfl) hb ?_
      exact hret _ _ _ rfl hw (C.dg (k := 40) rfl)
    replace hw := hw.2
    by_cases c12 : a2 = (4 : Int32)
    · replace hw := hw.1 c12
      refine i_tsw (tgt := 101) C 7 rfl c12 (by decide) (by decide) rfl rfl ?_
      refine i_aload_n (n := 102) C 41 rfl rfl rfl hl 0 rfl ?_
      refine fgM_Mo_56 (n := 105) C 42 rfl rfl h ?_
      refine i_iload_n (n := 106) C 43 rfl rfl rfl hl 1 rfl ?_
      obtain ⟨hb, hw⟩ := hw
      refine i_iald (n := 107) C 44 rfl rfl h (wM_arr 15 (by decide) rfl) hb ?_
      exact hret _ _ _ rfl hw (C.dg (k := 45) rfl)
    replace hw := hw.2
    by_cases c13 : a2 = (5 : Int32)
    · replace hw := hw.1 c13
      refine i_tsw (tgt := 108) C 7 rfl c13 (by decide) (by decide) rfl rfl ?_
      refine i_aload_n (n := 109) C 46 rfl rfl rfl hl 0 rfl ?_
      refine i_iload_n (n := 110) C 47 rfl rfl rfl hl 1 rfl ?_
      refine i_callVp (rest := []) (ci := 11) (qc := (R_Mo, T_Mo, 50)) (n := 113) C 48 rfl rfl hl h rfl (wM_get (h := 0) (by decide)) (kV_Mo_143 ⟨by decide, by decide⟩) (m_Mo_valveOn hw) rfl rfl (Nat.le_of_ble_eq_true rfl) ⟨by decide, by decide⟩ (fun r14 hw => ?_)
      exact hret _ _ _ rfl hw (C.dg (k := 49) rfl)
    replace hw := hw.2
    replace hw := hw c3
    replace hw := hw c6
    replace hw := hw c10
    replace hw := hw c11
    replace hw := hw c12
    replace hw := hw c13
    refine i_tswd (tgt := 114) C 7 rfl (fun j hj => match j, hj with | 0, _ => lv_neT c3 rfl | 1, _ => lv_neT c6 rfl | 2, _ => lv_neT c10 rfl | 3, _ => lv_neT c11 rfl | 4, _ => lv_neT c12 rfl | 5, _ => lv_neT c13 rfl | j + 6, hj => absurd hj (by omega)) rfl ?_
    refine i_bipush (v := (-2 : Int32)) (n := 116) C 50 rfl rfl rfl ?_
    exact hret _ _ _ rfl hw (C.dg (k := 51) rfl)
  · replace hw := hw.2 c2
    refine i_iconst (v := (-1 : Int32)) (n := 9) C 4 rfl rfl rfl ?_
    exact hret _ _ _ rfl hw (C.dg (k := 5) rfl)
end S185
section S186
variable {p : Program} {l : Launch} {e : Env} {R : Room} {s : State} {m : MethodId} {args : Array Value} {below : List Frame} {meth : Method} {c : Code} {H : Heap} {locs : List Loc} {cells slots : Nat} {Q : State → Prop}
variable {cc : ByteArray} {pc n nL : Nat} {ls : Array Slot} {rest : List Value} {D : va_G} {cy : Nat → ClassId} {Z : Nat → Prop} {ad : Nat → Nat} {tb : List (Nat × Instr × Nat)} {lv : List (Nat × Value)}
set_option maxHeartbeats 4000000 in
set_option maxRecDepth 100000 in
theorem e_Mo_wrong_37 {I : Nat → Int32} {A : Nat → Nat → Int32} {a1 : Int32} {P : Int32 → Prop} {kb4 : Int32 → Int32 → Prop} (C : CX D cy R_Mo c_Mo_wrong tb_Mo_wrong 4 p s m args c Z) (h : HXw D Z s.heap H locs (wM cy ad I A)) (hret : RetP p l e { frames := 0, cells := 0, slots := 0, locals := 0 } s m args below meth c c_Mo_wrong .int H locs Q P)
    (hb4 : ∀ (x2 : Int32) (x3 : Int32) (ls : Array Slot), lv_has ls 4 [(0, .ref (ad 0)), (1, .int a1), (2, .int x2), (3, .int x3)] → kb4 x2 x3 → W p l e { frames := 0, cells := 0, slots := 0, locals := 0 } s m args below meth c H locs 0 0 Q (F0 m 4 ls [])) :
    ∀ (x2 : Int32) (x3 : Int32) (ls : Array Slot), lv_has ls 4 [(0, .ref (ad 0)), (1, .int a1), (2, .int x2), (3, .int x3)] → g_Mo_wrong_37 I A a1 P kb4 x2 x3 → W p l e { frames := 0, cells := 0, slots := 0, locals := 0 } s m args below meth c H locs 0 0 Q (F0 m 37 ls []) := by
  intro x2 x3 ls hl hw
  refine i_iinc (v := x3 + (1 : Int32)) (lv' := [(3, .int (x3 + (1 : Int32))), (0, .ref (ad 0)), (1, .int a1), (2, .int x2)]) (n := 40) C 23 rfl rfl hl 3 rfl rfl (by decide) rfl (fun ls hl => ?_)
  refine i_goto (tgt := 4) C 24 rfl rfl ?_
  exact hb4 x2 (x3 + (1 : Int32)) ls (lv_sub hl [1, 2, 3, 0] rfl) hw
set_option maxHeartbeats 4000000 in
set_option maxRecDepth 100000 in
theorem e_Mo_wrong_4 {I : Nat → Int32} {A : Nat → Nat → Int32} {a1 : Int32} {P : Int32 → Prop} {kx4 : Int32 → Prop} (C : CX D cy R_Mo c_Mo_wrong tb_Mo_wrong 4 p s m args c Z) (h : HXw D Z s.heap H locs (wM cy ad I A)) (hret : RetP p l e { frames := 0, cells := 0, slots := 0, locals := 0 } s m args below meth c c_Mo_wrong .int H locs Q P)
    (hx4 : ∀ (x2 : Int32) (ls : Array Slot), lv_has ls 4 [(1, .int a1), (2, .int x2)] → kx4 x2 → W p l e { frames := 0, cells := 0, slots := 0, locals := 0 } s m args below meth c H locs 0 0 Q (F0 m 43 ls [])) :
    ∀ (n : Nat) (x2 : Int32) (x3 : Int32) (ls : Array Slot), lv_has ls 4 [(0, .ref (ad 0)), (1, .int a1), (2, .int x2), (3, .int x3)] → g_Mo_wrong_4 I A a1 P kx4 n x2 x3 → W p l e { frames := 0, cells := 0, slots := 0, locals := 0 } s m args below meth c H locs 0 0 Q (F0 m 4 ls []) := by
  intro n
  induction n with
  | zero => intro x2 x3 ls hl hw; exact hw.elim
  | succ n ih =>
    intro x2 x3 ls hl hw
    refine i_iload_n (n := 5) C 4 rfl rfl rfl hl 3 rfl ?_
    refine i_aload_n (n := 6) C 5 rfl rfl rfl hl 0 rfl ?_
    refine fgM_Mo_133 (n := 9) C 6 rfl rfl h ?_
    refine i_icmp_ge (tgt := 43) (n := 12) C 7 rfl rfl rfl (fun c1 => ?_) (fun c1 => ?_)
    · replace hw := hw.1 c1
      exact hx4 x2 ls (lv_sub hl [1, 2] rfl) hw
    · replace hw := hw.2 c1
      refine i_aload_n (n := 13) C 8 rfl rfl rfl hl 0 rfl ?_
      refine fgM_Mo_62 (n := 16) C 9 rfl rfl h ?_
      refine i_iload_n (n := 17) C 10 rfl rfl rfl hl 3 rfl ?_
      obtain ⟨hb, hw⟩ := hw
      refine i_iald (n := 18) C 11 rfl rfl h (wM_arr 17 (by decide) rfl) hb ?_
      refine i_aload_n (n := 19) C 12 rfl rfl rfl hl 0 rfl ?_
      refine fgM_Mo_65 (n := 22) C 13 rfl rfl h ?_
      refine i_iload_n (n := 23) C 14 rfl rfl rfl hl 3 rfl ?_
      obtain ⟨hb, hw⟩ := hw
      refine i_iald (n := 24) C 15 rfl rfl h (wM_arr 18 (by decide) rfl) hb ?_
      refine i_icmp_eq (tgt := 37) (n := 27) C 16 rfl rfl rfl (fun c2 => ?_) (fun c2 => ?_)
      · replace hw := hw.1 c2
        exact e_Mo_wrong_37 C h hret ih x2 x3 ls hl hw
      · replace hw := hw.2 c2
        refine i_iload_n (n := 28) C 17 rfl rfl rfl hl 2 rfl ?_
        refine i_iload_n (n := 29) C 18 rfl rfl rfl hl 1 rfl ?_
        refine i_icmp_ne (tgt := 34) (n := 32) C 19 rfl rfl rfl (fun c3 => ?_) (fun c3 => ?_)
        · replace hw := hw.1 c3
          refine i_iinc (v := x2 + (1 : Int32)) (lv' := [(2, .int (x2 + (1 : Int32))), (0, .ref (ad 0)), (1, .int a1), (3, .int x3)]) (n := 37) C 22 rfl rfl hl 2 rfl rfl (by decide) rfl (fun ls hl => ?_)
          exact e_Mo_wrong_37 C h hret ih (x2 + (1 : Int32)) x3 ls (lv_sub hl [1, 2, 0, 3] rfl) hw
        · replace hw := hw.2 c3
          refine i_iload_n (n := 33) C 20 rfl rfl rfl hl 3 rfl ?_
          exact hret _ _ _ rfl hw (C.dg (k := 21) rfl)
set_option maxHeartbeats 4000000 in
set_option maxRecDepth 100000 in
theorem m_Mo_wrong {l : Launch} {D : va_G} {cy : Nat → ClassId} {ad : Nat → Nat} {I : Nat → Int32} {A : Nat → Nat → Int32} {a1 : Int32} {P : Int32 → Prop} (hw : g_Mo_wrong I A a1 P) : ∀ sz, Met l y_Mo_wrong (WL y_Mo_wrong c_Mo_wrong 4 (some .int)) { frames := 0, cells := 0, slots := 0, locals := 0 } (va_Pc [.ref (ad 0), .int a1] (PreW D cy (wM cy ad I A) sz)) (vp_Si P) 0 0 (fun _ => False) := by
  refine met_p R_Mo .int db_Mo_wrong (by decide) rfl rfl (Nat.le_of_ble_eq_true rfl) ?_
  intro p e s m below meth c Z Q ls C h hl hret
  have hl : lv_has ls 4 [(0, .ref (ad 0)), (1, .int a1)] := hl
  refine i_iconst (v := (0 : Int32)) (n := 1) C 0 rfl rfl rfl ?_
  refine i_istore_n (lv' := [(2, .int (0 : Int32)), (0, .ref (ad 0)), (1, .int a1)]) (n := 2) C 1 rfl rfl rfl hl (by decide) rfl (fun ls hl => ?_)
  refine i_iconst (v := (0 : Int32)) (n := 3) C 2 rfl rfl rfl ?_
  refine i_istore_n (lv' := [(3, .int (0 : Int32)), (2, .int (0 : Int32)), (0, .ref (ad 0)), (1, .int a1)]) (n := 4) C 3 rfl rfl rfl hl (by decide) rfl (fun ls hl => ?_)
  obtain ⟨n4, hw⟩ := hw
  refine e_Mo_wrong_4 C h hret (fun x2_4 ls hl hw => ?_) n4 (0 : Int32) (0 : Int32) ls (lv_sub hl [2, 3, 1, 0] rfl) hw
  have hl : lv_has ls 4 [(1, .int a1), (2, .int x2_4)] := hl
  refine i_iload_n (n := 44) C 25 rfl rfl rfl hl 0 rfl ?_
  refine i_iconst (v := (-1 : Int32)) (n := 45) C 26 rfl rfl rfl ?_
  refine i_icmp_ne (tgt := 52) (n := 48) C 27 rfl rfl rfl (fun c5 => ?_) (fun c5 => ?_)
  · replace hw := hw.1 c5
    refine i_bipush (v := (-6 : Int32)) (n := 54) C 30 rfl rfl rfl ?_
    exact hret _ _ _ rfl hw (C.dg (k := 31) rfl)
  · replace hw := hw.2 c5
    refine i_iload_n (n := 49) C 28 rfl rfl rfl hl 1 rfl ?_
    refine i_goto (tgt := 54) C 29 rfl rfl ?_
    exact hret _ _ _ rfl hw (C.dg (k := 31) rfl)
end S186
section S187
variable {p : Program} {l : Launch} {e : Env} {R : Room} {s : State} {m : MethodId} {args : Array Value} {below : List Frame} {meth : Method} {c : Code} {H : Heap} {locs : List Loc} {cells slots : Nat} {Q : State → Prop}
variable {cc : ByteArray} {pc n nL : Nat} {ls : Array Slot} {rest : List Value} {D : va_G} {cy : Nat → ClassId} {Z : Nat → Prop} {ad : Nat → Nat} {tb : List (Nat × Instr × Nat)} {lv : List (Nat × Value)}
set_option maxHeartbeats 4000000 in
set_option maxRecDepth 100000 in
theorem e_Mo_mend_33 {I : Nat → Int32} {a1 : Int32} {P : Int32 → ((Nat → Nat → Int32)) → Prop}  (C : CX D cy R_Mo c_Mo_mend tb_Mo_mend 4 p s m args c Z) (hret : RetI p l e { frames := 2, cells := 0, slots := 0, locals := 43 } s m args below meth c c_Mo_mend .int D Z Q (fun (u : (Nat → Nat → Int32)) => wM cy ad I u) P 0 0) :
    ∀ (A : Nat → Nat → Int32) (ls : Array Slot) (H : Heap) (locs : List Loc), lv_has ls 4 [(0, .ref (ad 0)), (1, .int a1)] → HXw D Z s.heap H locs (wM cy ad I A) → g_Mo_mend_33 I a1 P  A → W p l e { frames := 2, cells := 0, slots := 0, locals := 43 } s m args below meth c H locs 0 0 Q (F0 m 33 ls []) := by
  intro A ls H locs hl h hw
  refine i_aload_n (n := 34) C 20 rfl rfl rfl hl 0 rfl ?_
  refine fgM_Mo_65 (n := 37) C 21 rfl rfl h ?_
  refine i_iload_n (n := 38) C 22 rfl rfl rfl hl 1 rfl ?_
  obtain ⟨hb, hw⟩ := hw
  refine i_iald (n := 39) C 23 rfl rfl h (wM_arr 18 (by decide) rfl) hb ?_
  refine lv_topi (fun y5 ey5 => ?_)
  replace hw := hw y5 ey5
  refine i_istore_n (lv' := [(3, .int y5), (0, .ref (ad 0)), (1, .int a1)]) (n := 40) C 24 rfl rfl rfl hl (by decide) rfl (fun ls hl => ?_)
  refine i_aload_n (n := 41) C 25 rfl rfl rfl hl 1 rfl ?_
  refine fgM_Mo_65 (n := 44) C 26 rfl rfl h ?_
  refine i_iload_n (n := 45) C 27 rfl rfl rfl hl 2 rfl ?_
  refine i_aload_n (n := 46) C 28 rfl rfl rfl hl 1 rfl ?_
  refine fgM_Mo_62 (n := 49) C 29 rfl rfl h ?_
  refine i_iload_n (n := 50) C 30 rfl rfl rfl hl 2 rfl ?_
  obtain ⟨hb, hw⟩ := hw
  refine i_iald (n := 51) C 31 rfl rfl h (wM_arr 17 (by decide) rfl) hb ?_
  obtain ⟨hb, hw⟩ := hw
  refine i_iast (n := 52) C 32 rfl rfl h (wM_arr 18 (by decide) rfl) hb (wM_sA 18 (by decide) rfl _ _) (fun H locs h => ?_)
  refine i_iload_n (n := 53) C 33 rfl rfl rfl hl 0 rfl ?_
  exact hret _ (sA A 18 a1 (A 17 a1.toNatClampNeg)) _ _ _ _ rfl hw h (C.dg (k := 34) rfl)
set_option maxHeartbeats 4000000 in
set_option maxRecDepth 100000 in
theorem m_Mo_mend {l : Launch} {D : va_G} {cy : Nat → ClassId} {ad : Nat → Nat} {I : Nat → Int32} {A : Nat → Nat → Int32} {a1 : Int32} {P : Int32 → ((Nat → Nat → Int32)) → Prop} (hw : g_Mo_mend I A a1 P) : ∀ sz, Met l y_Mo_mend (WL y_Mo_mend c_Mo_mend 4 (some .int)) { frames := 2, cells := 0, slots := 0, locals := 43 } (va_Pc [.ref (ad 0), .int a1] (PreW D cy (wM cy ad I A) sz)) (va_Qi P (fun u t => PostW D (va_A (wM cy ad I A) sz) ((fun (u : (Nat → Nat → Int32)) => wM cy ad I u) u) t) (va_A (wM cy ad I A) sz)) 0 0 (va_A (wM cy ad I A) sz) := by
  refine met_i (wf := fun (u : (Nat → Nat → Int32)) => wM cy ad I u) R_Mo .int db_Mo_mend (by decide) rfl rfl (Nat.le_of_ble_eq_true rfl) ?_
  intro p e s m below meth c Z Q ls C h hl hret
  have hl : lv_has ls 4 [(0, .ref (ad 0)), (1, .int a1)] := hl
  refine i_aload_n (n := 1) C 0 rfl rfl rfl hl 0 rfl ?_
  refine i_iload_n (n := 2) C 1 rfl rfl rfl hl 1 rfl ?_
  refine i_callVp (rest := []) (ci := 11) (qc := (R_Mo, T_Mo, 50)) (n := 5) C 2 rfl rfl hl h rfl (wM_get (h := 0) (by decide)) (kV_Mo_150 ⟨by decide, by decide⟩) (m_Mo_isValve hw) rfl rfl (Nat.le_of_ble_eq_true rfl) ⟨by decide, by decide⟩ (fun r1 hw => ?_)
  refine i_if_ne (tgt := 10) (n := 8) C 3 rfl rfl rfl (fun c2 => ?_) (fun c2 => ?_)
  · replace hw := hw.1 c2
    refine i_aload_n (n := 11) C 6 rfl rfl rfl hl 0 rfl ?_
    refine i_aload_n (n := 12) C 7 rfl rfl rfl hl 0 rfl ?_
    refine fgM_Mo_62 (n := 15) C 8 rfl rfl h ?_
    refine i_iload_n (n := 16) C 9 rfl rfl rfl hl 1 rfl ?_
    obtain ⟨hb, hw⟩ := hw
    refine i_iald (n := 17) C 10 rfl rfl h (wM_arr 17 (by decide) rfl) hb ?_
    refine i_callVp (rest := []) (ci := 11) (qc := (R_Mo, T_Mo, 50)) (n := 20) C 11 rfl rfl hl h rfl (wM_get (h := 0) (by decide)) (kV_Mo_147 ⟨by decide, by decide⟩) (m_Mo_valveByMap hw) rfl rfl (Nat.le_of_ble_eq_true rfl) ⟨by decide, by decide⟩ (fun r3 hw => ?_)
    refine i_istore_n (lv' := [(2, .int r3), (0, .ref (ad 0)), (1, .int a1)]) (n := 21) C 12 rfl rfl rfl hl (by decide) rfl (fun ls hl => ?_)
    refine i_iload_n (n := 22) C 13 rfl rfl rfl hl 0 rfl ?_
    refine i_if_lt (tgt := 33) (n := 25) C 14 rfl rfl rfl (fun c4 => ?_) (fun c4 => ?_)
    · replace hw := hw.1 c4
      exact e_Mo_mend_33 C hret  A ls _ _ (lv_sub hl [1, 2] rfl) h hw
    · replace hw := hw.2 c4
      refine i_iload_n (n := 26) C 15 rfl rfl rfl hl 0 rfl ?_
      refine i_iload_n (n := 27) C 16 rfl rfl rfl hl 2 rfl ?_
      refine i_icmp_eq (tgt := 33) (n := 30) C 17 rfl rfl rfl (fun c6 => ?_) (fun c6 => ?_)
      · replace hw := hw.1 c6
        exact e_Mo_mend_33 C hret  A ls _ _ (lv_sub hl [1, 2] rfl) h hw
      · replace hw := hw.2 c6
        refine i_bipush (v := (-5 : Int32)) (n := 32) C 18 rfl rfl rfl ?_
        exact hret _ A _ _ _ _ rfl hw h (C.dg (k := 19) rfl)
  · replace hw := hw.2 c2
    refine i_iconst (v := (-1 : Int32)) (n := 9) C 4 rfl rfl rfl ?_
    exact hret _ A _ _ _ _ rfl hw h (C.dg (k := 5) rfl)
end S187
section S188
variable {p : Program} {l : Launch} {e : Env} {R : Room} {s : State} {m : MethodId} {args : Array Value} {below : List Frame} {meth : Method} {c : Code} {H : Heap} {locs : List Loc} {cells slots : Nat} {Q : State → Prop}
variable {cc : ByteArray} {pc n nL : Nat} {ls : Array Slot} {rest : List Value} {D : va_G} {cy : Nat → ClassId} {Z : Nat → Prop} {ad : Nat → Nat} {tb : List (Nat × Instr × Nat)} {lv : List (Nat × Value)}
set_option maxHeartbeats 4000000 in
set_option maxRecDepth 100000 in
theorem m_Mo_lay {l : Launch} {D : va_G} {cy : Nat → ClassId} {ad : Nat → Nat} {I : Nat → Int32} {A : Nat → Nat → Int32} {a1 : Int32} {a2 : Int32} {a3 : Int32} {a4 : Int32} {a5 : Int32} {a6 : Int32} {P : Int32 → ((Nat → Nat → Int32)) → Prop} (hw : g_Mo_lay A a1 a2 a3 a4 a5 a6 P) : ∀ sz, Met l y_Mo_lay (WL y_Mo_lay c_Mo_lay 7 (some .int)) { frames := 0, cells := 0, slots := 0, locals := 0 } (va_Pc [.ref (ad 0), .int a1, .int a2, .int a3, .int a4, .int a5, .int a6] (PreW D cy (wM cy ad I A) sz)) (va_Qi P (fun u t => PostW D (va_A (wM cy ad I A) sz) ((fun (u : (Nat → Nat → Int32)) => wM cy ad I u) u) t) (va_A (wM cy ad I A) sz)) 0 0 (va_A (wM cy ad I A) sz) := by
  refine met_i (wf := fun (u : (Nat → Nat → Int32)) => wM cy ad I u) R_Mo .int db_Mo_lay (by decide) rfl rfl (Nat.le_of_ble_eq_true rfl) ?_
  intro p e s m below meth c Z Q ls C h hl hret
  have hl : lv_has ls 7 [(0, .ref (ad 0)), (1, .int a1), (2, .int a2), (3, .int a3), (4, .int a4), (5, .int a5), (6, .int a6)] := hl
  refine i_aload_n (n := 1) C 0 rfl rfl rfl hl 0 rfl ?_
  refine fgM_Mo_16 (n := 4) C 1 rfl rfl h ?_
  refine i_iload_n (n := 5) C 2 rfl rfl rfl hl 1 rfl ?_
  obtain ⟨hb, hw⟩ := hw
  refine i_iald (n := 6) C 3 rfl rfl h (wM_arr 2 (by decide) rfl) hb ?_
  refine i_if_eq (tgt := 12) (n := 9) C 4 rfl rfl rfl (fun c1 => ?_) (fun c1 => ?_)
  · replace hw := hw.1 c1
    refine i_aload_n (n := 13) C 7 rfl rfl rfl hl 0 rfl ?_
    refine fgM_Mo_16 (n := 16) C 8 rfl rfl h ?_
    refine i_iload_n (n := 17) C 9 rfl rfl rfl hl 1 rfl ?_
    refine i_iload_n (n := 18) C 10 rfl rfl rfl hl 2 rfl ?_
    obtain ⟨hb, hw⟩ := hw
    refine i_iast (n := 19) C 11 rfl rfl h (wM_arr 2 (by decide) rfl) hb (wM_sA 2 (by decide) rfl _ _) (fun H locs h => ?_)
    refine i_aload_n (n := 20) C 12 rfl rfl rfl hl 0 rfl ?_
    refine fgM_Mo_19 (n := 23) C 13 rfl rfl h ?_
    refine i_iload_n (n := 24) C 14 rfl rfl rfl hl 1 rfl ?_
    refine i_iload_n (n := 25) C 15 rfl rfl rfl hl 3 rfl ?_
    obtain ⟨hb, hw⟩ := hw
    refine i_iast (n := 26) C 16 rfl rfl h (wM_arr 3 (by decide) rfl) hb (wM_sA 3 (by decide) rfl _ _) (fun H locs h => ?_)
    refine i_aload_n (n := 27) C 17 rfl rfl rfl hl 0 rfl ?_
    refine fgM_Mo_22 (n := 30) C 18 rfl rfl h ?_
    refine i_iload_n (n := 31) C 19 rfl rfl rfl hl 1 rfl ?_
    refine i_iload (n := 33) C 20 rfl rfl hl 4 rfl ?_
    obtain ⟨hb, hw⟩ := hw
    refine i_iast (n := 34) C 21 rfl rfl h (wM_arr 4 (by decide) rfl) hb (wM_sA 4 (by decide) rfl _ _) (fun H locs h => ?_)
    refine i_aload_n (n := 35) C 22 rfl rfl rfl hl 0 rfl ?_
    refine fgM_Mo_25 (n := 38) C 23 rfl rfl h ?_
    refine i_iload_n (n := 39) C 24 rfl rfl rfl hl 1 rfl ?_
    refine i_iload (n := 41) C 25 rfl rfl hl 5 rfl ?_
    obtain ⟨hb, hw⟩ := hw
    refine i_iast (n := 42) C 26 rfl rfl h (wM_arr 5 (by decide) rfl) hb (wM_sA 5 (by decide) rfl _ _) (fun H locs h => ?_)
    refine i_aload_n (n := 43) C 27 rfl rfl rfl hl 0 rfl ?_
    refine fgM_Mo_28 (n := 46) C 28 rfl rfl h ?_
    refine i_iload_n (n := 47) C 29 rfl rfl rfl hl 1 rfl ?_
    refine i_iload (n := 49) C 30 rfl rfl hl 6 rfl ?_
    obtain ⟨hb, hw⟩ := hw
    refine i_iast (n := 50) C 31 rfl rfl h (wM_arr 6 (by decide) rfl) hb (wM_sA 6 (by decide) rfl _ _) (fun H locs h => ?_)
    refine i_aload_n (n := 51) C 32 rfl rfl rfl hl 0 rfl ?_
    refine fgM_Mo_31 (n := 54) C 33 rfl rfl h ?_
    refine i_iload_n (n := 55) C 34 rfl rfl rfl hl 1 rfl ?_
    refine i_iconst (v := (0 : Int32)) (n := 56) C 35 rfl rfl rfl ?_
    obtain ⟨hb, hw⟩ := hw
    refine i_iast (n := 57) C 36 rfl rfl h (wM_arr 7 (by decide) rfl) hb (wM_sA 7 (by decide) rfl _ _) (fun H locs h => ?_)
    refine i_aload_n (n := 58) C 37 rfl rfl rfl hl 0 rfl ?_
    refine fgM_Mo_34 (n := 61) C 38 rfl rfl h ?_
    refine i_iload_n (n := 62) C 39 rfl rfl rfl hl 1 rfl ?_
    refine i_iconst (v := (0 : Int32)) (n := 63) C 40 rfl rfl rfl ?_
    obtain ⟨hb, hw⟩ := hw
    refine i_zast (n := 64) C 41 rfl rfl h (wM_arr 8 (by decide) rfl) hb (wM_sA 8 (by decide) rfl _ _) (fun H locs h => ?_)
    refine i_iconst (v := (1 : Int32)) (n := 65) C 42 rfl rfl rfl ?_
    exact hret _ (sA (sA (sA (sA (sA (sA (sA A 2 a1 a2) 3 a1 a3) 4 a1 a4) 5 a1 a5) 6 a1 a6) 7 a1 (0 : Int32)) 8 a1 (vp_nar .boolean (0 : Int32))) _ _ _ _ rfl hw h (C.dg (k := 43) rfl)
  · replace hw := hw.2 c1
    refine i_bipush (v := (-5 : Int32)) (n := 11) C 5 rfl rfl rfl ?_
    exact hret _ A _ _ _ _ rfl hw h (C.dg (k := 6) rfl)
end S188
section S189
variable {p : Program} {l : Launch} {e : Env} {R : Room} {s : State} {m : MethodId} {args : Array Value} {below : List Frame} {meth : Method} {c : Code} {H : Heap} {locs : List Loc} {cells slots : Nat} {Q : State → Prop}
variable {cc : ByteArray} {pc n nL : Nat} {ls : Array Slot} {rest : List Value} {D : va_G} {cy : Nat → ClassId} {Z : Nat → Prop} {ad : Nat → Nat} {tb : List (Nat × Instr × Nat)} {lv : List (Nat × Value)}
set_option maxHeartbeats 4000000 in
set_option maxRecDepth 100000 in
theorem m_Mo_isSpan {l : Launch} {D : va_G} {cy : Nat → ClassId}   {a1 : Int32} {a2 : Int32} {w : va_W} {P : Int32 → Prop} (hw : g_Mo_isSpan a1 a2 P) : ∀ sz, Met l y_Mo_isSpan (WL y_Mo_isSpan c_Mo_isSpan 2 (some .boolean)) { frames := 1, cells := 0, slots := 0, locals := 22 } (va_Pc [.int a1, .int a2] (PreW D cy (w) sz)) (vp_Si P) 0 0 (fun _ => False) := by
  refine met_p R_Mo .boolean db_Mo_isSpan (by decide) rfl rfl (Nat.le_of_ble_eq_true rfl) ?_
  intro p e s m below meth c Z Q ls C h hl hret
  have hl : lv_has ls 2 [(0, .int a1), (1, .int a2)] := hl
  refine i_iload_n (n := 1) C 0 rfl rfl rfl hl 0 rfl ?_
  refine i_iconst (v := (0 : Int32)) (n := 2) C 1 rfl rfl rfl ?_
  refine i_sipush (v := (1440 : Int32)) (n := 5) C 2 rfl rfl rfl ?_
  refine i_callSp (rest := []) (n := 8) C 3 rfl rfl hl h (kS_Mo_126 ⟨by decide, by decide⟩) (m_Mo_in hw) rfl rfl (Nat.le_of_ble_eq_true rfl) ⟨by decide, by decide⟩ (fun r1 hw => ?_)
  refine i_if_eq (tgt := 31) (n := 11) C 4 rfl rfl rfl (fun c2 => ?_) (fun c2 => ?_)
  · replace hw := hw.1 c2
    refine i_iconst (v := (0 : Int32)) (n := 32) C 15 rfl rfl rfl ?_
    exact hret _ _ _ rfl hw (C.dg (k := 16) rfl)
  · replace hw := hw.2 c2
    refine i_iload_n (n := 12) C 5 rfl rfl rfl hl 1 rfl ?_
    refine i_iconst (v := (0 : Int32)) (n := 13) C 6 rfl rfl rfl ?_
    refine i_sipush (v := (1440 : Int32)) (n := 16) C 7 rfl rfl rfl ?_
    refine i_callSp (rest := []) (n := 19) C 8 rfl rfl hl h (kS_Mo_126 ⟨by decide, by decide⟩) (m_Mo_in hw) rfl rfl (Nat.le_of_ble_eq_true rfl) ⟨by decide, by decide⟩ (fun r3 hw => ?_)
    refine i_if_eq (tgt := 31) (n := 22) C 9 rfl rfl rfl (fun c4 => ?_) (fun c4 => ?_)
    · replace hw := hw.1 c4
      refine i_iconst (v := (0 : Int32)) (n := 32) C 15 rfl rfl rfl ?_
      exact hret _ _ _ rfl hw (C.dg (k := 16) rfl)
    · replace hw := hw.2 c4
      refine i_iload_n (n := 23) C 10 rfl rfl rfl hl 0 rfl ?_
      refine i_iload_n (n := 24) C 11 rfl rfl rfl hl 1 rfl ?_
      refine i_icmp_gt (tgt := 31) (n := 27) C 12 rfl rfl rfl (fun c5 => ?_) (fun c5 => ?_)
      · replace hw := hw.1 c5
        refine i_iconst (v := (0 : Int32)) (n := 32) C 15 rfl rfl rfl ?_
        exact hret _ _ _ rfl hw (C.dg (k := 16) rfl)
      · replace hw := hw.2 c5
        refine i_iconst (v := (1 : Int32)) (n := 28) C 13 rfl rfl rfl ?_
        refine i_goto (tgt := 32) C 14 rfl rfl ?_
        exact hret _ _ _ rfl hw (C.dg (k := 16) rfl)
end S189
theorem kS_Mo_156 {R : Room} {s : State} {args : Array Value} (hR : 1 + 1 ≤ R.frames ∧ 8 + (2 + 11) + 22 ≤ R.locals) (ht : ∀ w ∈ GW, w.before args s = true) : CallB R s args R_Mo 156 y_Mo_isSpan c_Mo_isSpan 2 (some .boolean) (WL y_Mo_isSpan c_Mo_isSpan 2 (some .boolean)) { frames := 1, cells := 0, slots := 0, locals := 22 } 0 0 2 ∧ (Cond.static y_Mo_isSpan).before args s = true := cwS 2 ht (GW_s w_6_75 w_6_76 w_1_7 (GW_wl w_6_77)) rfl rfl rfl (by decide +kernel) hR
theorem kV_Mo_160 {R : Room} {s : State} {args : Array Value} (hR : 0 + 1 ≤ R.frames ∧ 8 + (7 + 11) + 0 ≤ R.locals) (ht : ∀ w ∈ GW, w.before args s = true) : CallW R s args R_Mo R_Mo 160 y_Mo_lay c_Mo_lay 7 (some .int) (WL y_Mo_lay c_Mo_lay 7 (some .int)) { frames := 0, cells := 0, slots := 0, locals := 0 } 0 0 6 := cwV 6 ht (GW_v w_6_78 w_6_80 w_0_34 w_1_7 (GW_wl w_6_81)) rfl rfl rfl (by decide +kernel) hR
section S190
variable {p : Program} {l : Launch} {e : Env} {R : Room} {s : State} {m : MethodId} {args : Array Value} {below : List Frame} {meth : Method} {c : Code} {H : Heap} {locs : List Loc} {cells slots : Nat} {Q : State → Prop}
variable {cc : ByteArray} {pc n nL : Nat} {ls : Array Slot} {rest : List Value} {D : va_G} {cy : Nat → ClassId} {Z : Nat → Prop} {ad : Nat → Nat} {tb : List (Nat × Instr × Nat)} {lv : List (Nat × Value)}
set_option maxHeartbeats 4000000 in
set_option maxRecDepth 100000 in
theorem m_Mo_draw {l : Launch} {D : va_G} {cy : Nat → ClassId} {ad : Nat → Nat} {I : Nat → Int32} {A : Nat → Nat → Int32} {a1 : Int32} {a2 : Int32} {a3 : Int32} {a4 : Int32} {P : Int32 → ((Nat → Nat → Int32)) → Prop} (hw : g_Mo_draw I A a1 a2 a3 a4 P) : ∀ sz, Met l y_Mo_draw (WL y_Mo_draw c_Mo_draw 5 (some .int)) { frames := 2, cells := 0, slots := 0, locals := 43 } (va_Pc [.ref (ad 0), .int a1, .int a2, .int a3, .int a4] (PreW D cy (wM cy ad I A) sz)) (va_Qi P (fun u t => PostW D (va_A (wM cy ad I A) sz) ((fun (u : (Nat → Nat → Int32)) => wM cy ad I u) u) t) (va_A (wM cy ad I A) sz)) 0 0 (va_A (wM cy ad I A) sz) := by
  refine met_i (wf := fun (u : (Nat → Nat → Int32)) => wM cy ad I u) R_Mo .int db_Mo_draw (by decide) rfl rfl (Nat.le_of_ble_eq_true rfl) ?_
  intro p e s m below meth c Z Q ls C h hl hret
  have hl : lv_has ls 5 [(0, .ref (ad 0)), (1, .int a1), (2, .int a2), (3, .int a3), (4, .int a4)] := hl
  refine i_aload_n (n := 1) C 0 rfl rfl rfl hl 0 rfl ?_
  refine i_iload_n (n := 2) C 1 rfl rfl rfl hl 1 rfl ?_
  refine i_callVp (rest := []) (ci := 11) (qc := (R_Mo, T_Mo, 50)) (n := 5) C 2 rfl rfl hl h rfl (wM_get (h := 0) (by decide)) (kV_Mo_136 ⟨by decide, by decide⟩) (m_Mo_isNode hw) rfl rfl (Nat.le_of_ble_eq_true rfl) ⟨by decide, by decide⟩ (fun r1 hw => ?_)
  refine i_if_ne (tgt := 10) (n := 8) C 3 rfl rfl rfl (fun c2 => ?_) (fun c2 => ?_)
  · replace hw := hw.1 c2
    refine i_iload_n (n := 11) C 6 rfl rfl rfl hl 2 rfl ?_
    refine i_iconst (v := (0 : Int32)) (n := 12) C 7 rfl rfl rfl ?_
    refine i_sipush (v := (1000 : Int32)) (n := 15) C 8 rfl rfl rfl ?_
    refine i_callSp (rest := []) (n := 18) C 9 rfl rfl hl h (kS_Mo_126 ⟨by decide, by decide⟩) (m_Mo_in hw) rfl rfl (Nat.le_of_ble_eq_true rfl) ⟨by decide, by decide⟩ (fun r3 hw => ?_)
    refine i_if_eq (tgt := 44) (n := 21) C 10 rfl rfl rfl (fun c4 => ?_) (fun c4 => ?_)
    · replace hw := hw.1 c4
      refine i_bipush (v := (-2 : Int32)) (n := 46) C 24 rfl rfl rfl ?_
      exact hret _ A _ _ _ _ rfl hw h (C.dg (k := 25) rfl)
    · replace hw := hw.2 c4
      refine i_iload_n (n := 22) C 11 rfl rfl rfl hl 3 rfl ?_
      refine i_iload (n := 24) C 12 rfl rfl hl 4 rfl ?_
      refine i_callSp (rest := []) (n := 27) C 13 rfl rfl hl h (kS_Mo_156 ⟨by decide, by decide⟩) (m_Mo_isSpan hw) rfl rfl (Nat.le_of_ble_eq_true rfl) ⟨by decide, by decide⟩ (fun r5 hw => ?_)
      refine i_if_eq (tgt := 44) (n := 30) C 14 rfl rfl rfl (fun c6 => ?_) (fun c6 => ?_)
      · replace hw := hw.1 c6
        refine i_bipush (v := (-2 : Int32)) (n := 46) C 24 rfl rfl rfl ?_
        exact hret _ A _ _ _ _ rfl hw h (C.dg (k := 25) rfl)
      · replace hw := hw.2 c6
        refine i_aload_n (n := 31) C 15 rfl rfl rfl hl 0 rfl ?_
        refine i_iload_n (n := 32) C 16 rfl rfl rfl hl 1 rfl ?_
        refine i_iconst (v := (1 : Int32)) (n := 33) C 17 rfl rfl rfl ?_
        refine i_iload_n (n := 34) C 18 rfl rfl rfl hl 2 rfl ?_
        refine i_iconst (v := (0 : Int32)) (n := 35) C 19 rfl rfl rfl ?_
        refine i_iload_n (n := 36) C 20 rfl rfl rfl hl 3 rfl ?_
        refine i_iload (n := 38) C 21 rfl rfl hl 4 rfl ?_
        refine i_callVi (rest := []) (ci := 11) (qc := (R_Mo, T_Mo, 50)) (n := 41) C 22 rfl rfl hl h rfl (wM_get (h := 0) (by decide)) (kV_Mo_160 ⟨by decide, by decide⟩) (m_Mo_lay hw) rfl rfl (Nat.le_of_ble_eq_true rfl) ⟨by decide, by decide⟩ (fun r7 u8 H locs hw h => ?_)
        refine i_goto (tgt := 46) C 23 rfl rfl ?_
        exact hret _ u8 _ _ _ _ rfl hw h (C.dg (k := 25) rfl)
  · replace hw := hw.2 c2
    refine i_iconst (v := (-1 : Int32)) (n := 9) C 4 rfl rfl rfl ?_
    exact hret _ A _ _ _ _ rfl hw h (C.dg (k := 5) rfl)
end S190
section S191
variable {p : Program} {l : Launch} {e : Env} {R : Room} {s : State} {m : MethodId} {args : Array Value} {below : List Frame} {meth : Method} {c : Code} {H : Heap} {locs : List Loc} {cells slots : Nat} {Q : State → Prop}
variable {cc : ByteArray} {pc n nL : Nat} {ls : Array Slot} {rest : List Value} {D : va_G} {cy : Nat → ClassId} {Z : Nat → Prop} {ad : Nat → Nat} {tb : List (Nat × Instr × Nat)} {lv : List (Nat × Value)}
set_option maxHeartbeats 4000000 in
set_option maxRecDepth 100000 in
theorem m_Mo_lift {l : Launch} {D : va_G} {cy : Nat → ClassId} {ad : Nat → Nat} {I : Nat → Int32} {A : Nat → Nat → Int32} {a1 : Int32} {a2 : Int32} {a3 : Int32} {a4 : Int32} {a5 : Int32} {P : Int32 → ((Nat → Nat → Int32)) → Prop} (hw : g_Mo_lift I A a1 a2 a3 a4 a5 P) : ∀ sz, Met l y_Mo_lift (WL y_Mo_lift c_Mo_lift 6 (some .int)) { frames := 2, cells := 0, slots := 0, locals := 43 } (va_Pc [.ref (ad 0), .int a1, .int a2, .int a3, .int a4, .int a5] (PreW D cy (wM cy ad I A) sz)) (va_Qi P (fun u t => PostW D (va_A (wM cy ad I A) sz) ((fun (u : (Nat → Nat → Int32)) => wM cy ad I u) u) t) (va_A (wM cy ad I A) sz)) 0 0 (va_A (wM cy ad I A) sz) := by
  refine met_i (wf := fun (u : (Nat → Nat → Int32)) => wM cy ad I u) R_Mo .int db_Mo_lift (by decide) rfl rfl (Nat.le_of_ble_eq_true rfl) ?_
  intro p e s m below meth c Z Q ls C h hl hret
  have hl : lv_has ls 6 [(0, .ref (ad 0)), (1, .int a1), (2, .int a2), (3, .int a3), (4, .int a4), (5, .int a5)] := hl
  refine i_aload_n (n := 1) C 0 rfl rfl rfl hl 0 rfl ?_
  refine i_iload_n (n := 2) C 1 rfl rfl rfl hl 1 rfl ?_
  refine i_callVp (rest := []) (ci := 11) (qc := (R_Mo, T_Mo, 50)) (n := 5) C 2 rfl rfl hl h rfl (wM_get (h := 0) (by decide)) (kV_Mo_136 ⟨by decide, by decide⟩) (m_Mo_isNode hw) rfl rfl (Nat.le_of_ble_eq_true rfl) ⟨by decide, by decide⟩ (fun r1 hw => ?_)
  refine i_if_ne (tgt := 10) (n := 8) C 3 rfl rfl rfl (fun c2 => ?_) (fun c2 => ?_)
  · replace hw := hw.1 c2
    refine i_iload_n (n := 11) C 6 rfl rfl rfl hl 2 rfl ?_
    refine i_iconst (v := (0 : Int32)) (n := 12) C 7 rfl rfl rfl ?_
    refine i_sipush (v := (1000 : Int32)) (n := 15) C 8 rfl rfl rfl ?_
    refine i_callSp (rest := []) (n := 18) C 9 rfl rfl hl h (kS_Mo_126 ⟨by decide, by decide⟩) (m_Mo_in hw) rfl rfl (Nat.le_of_ble_eq_true rfl) ⟨by decide, by decide⟩ (fun r3 hw => ?_)
    refine i_if_eq (tgt := 56) (n := 21) C 10 rfl rfl rfl (fun c4 => ?_) (fun c4 => ?_)
    · replace hw := hw.1 c4
      refine i_bipush (v := (-2 : Int32)) (n := 58) C 29 rfl rfl rfl ?_
      exact hret _ A _ _ _ _ rfl hw h (C.dg (k := 30) rfl)
    · replace hw := hw.2 c4
      refine i_iload_n (n := 22) C 11 rfl rfl rfl hl 3 rfl ?_
      refine i_iconst (v := (0 : Int32)) (n := 23) C 12 rfl rfl rfl ?_
      refine i_bipush (v := (6 : Int32)) (n := 25) C 13 rfl rfl rfl ?_
      refine i_callSp (rest := []) (n := 28) C 14 rfl rfl hl h (kS_Mo_126 ⟨by decide, by decide⟩) (m_Mo_in hw) rfl rfl (Nat.le_of_ble_eq_true rfl) ⟨by decide, by decide⟩ (fun r5 hw => ?_)
      refine i_if_eq (tgt := 56) (n := 31) C 15 rfl rfl rfl (fun c6 => ?_) (fun c6 => ?_)
      · replace hw := hw.1 c6
        refine i_bipush (v := (-2 : Int32)) (n := 58) C 29 rfl rfl rfl ?_
        exact hret _ A _ _ _ _ rfl hw h (C.dg (k := 30) rfl)
      · replace hw := hw.2 c6
        refine i_iload (n := 33) C 16 rfl rfl hl 4 rfl ?_
        refine i_iload (n := 35) C 17 rfl rfl hl 5 rfl ?_
        refine i_callSp (rest := []) (n := 38) C 18 rfl rfl hl h (kS_Mo_156 ⟨by decide, by decide⟩) (m_Mo_isSpan hw) rfl rfl (Nat.le_of_ble_eq_true rfl) ⟨by decide, by decide⟩ (fun r7 hw => ?_)
        refine i_if_eq (tgt := 56) (n := 41) C 19 rfl rfl rfl (fun c8 => ?_) (fun c8 => ?_)
        · replace hw := hw.1 c8
          refine i_bipush (v := (-2 : Int32)) (n := 58) C 29 rfl rfl rfl ?_
          exact hret _ A _ _ _ _ rfl hw h (C.dg (k := 30) rfl)
        · replace hw := hw.2 c8
          refine i_aload_n (n := 42) C 20 rfl rfl rfl hl 0 rfl ?_
          refine i_iload_n (n := 43) C 21 rfl rfl rfl hl 1 rfl ?_
          refine i_iconst (v := (2 : Int32)) (n := 44) C 22 rfl rfl rfl ?_
          refine i_iload_n (n := 45) C 23 rfl rfl rfl hl 2 rfl ?_
          refine i_iload_n (n := 46) C 24 rfl rfl rfl hl 3 rfl ?_
          refine i_iload (n := 48) C 25 rfl rfl hl 4 rfl ?_
          refine i_iload (n := 50) C 26 rfl rfl hl 5 rfl ?_
          refine i_callVi (rest := []) (ci := 11) (qc := (R_Mo, T_Mo, 50)) (n := 53) C 27 rfl rfl hl h rfl (wM_get (h := 0) (by decide)) (kV_Mo_160 ⟨by decide, by decide⟩) (m_Mo_lay hw) rfl rfl (Nat.le_of_ble_eq_true rfl) ⟨by decide, by decide⟩ (fun r9 u10 H locs hw h => ?_)
          refine i_goto (tgt := 58) C 28 rfl rfl ?_
          exact hret _ u10 _ _ _ _ rfl hw h (C.dg (k := 30) rfl)
  · replace hw := hw.2 c2
    refine i_iconst (v := (-1 : Int32)) (n := 9) C 4 rfl rfl rfl ?_
    exact hret _ A _ _ _ _ rfl hw h (C.dg (k := 5) rfl)
end S191
