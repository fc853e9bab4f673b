theorem kIN_Le_1 {R : Room} {s : State} {args : Array Value} (hR : 1 + 1 ≤ R.frames ∧ 8 + (1 + 11) + 20 ≤ R.locals) (ht : ∀ w ∈ GW, w.before args s = true) (hN : NX s) : va_CN R s args R_Le 1 y_Th_init R_Pw c_Th_init 1 none (WL y_Th_init c_Th_init 1 none) { frames := 1, cells := 0, slots := 0, locals := 20 } 0 0 0 ∧ y_Th_init.name = "<init>" ∧ (Cond.instanceMethod y_Th_init).before args s = true := ⟨va_cnB 0 ht (GW_in (GW_wl w_91)) rfl rfl rfl (hN.1 _ (by simp [nxW])) (ht _ w_92) (by decide +kernel) hR, rfl, ht _ w_93⟩
section S42
variable {p : Program} {l : Launch} {e : Env} {R : Room} {s : State} {m : MethodId} {args : Array Value} {below : List Frame} {meth : Method} {c : Code} {H : Heap} {locs : List Loc} {cells slots : Nat} {Q : State → Prop}
variable {cc : ByteArray} {pc n nL : Nat} {ls : Array Slot} {rest : List Value} {D : va_G} {cy : Nat → ClassId} {Z : Nat → Prop} {ad : Nat → Nat} {tb : List (Nat × Instr × Nat)} {lv : List (Nat × Value)}
def g_Le_init_Le (F : Nat → Nat → Int32) (b : Nat) (a1 : Int32) (a2 : Int32) (P : ((Nat → Nat → Int32)) → Prop) : Prop := g_Th_init  (fun u1 => (isB a2 ∧ (P (va_up (va_up F b (va_up (F b) 0 a1)) b (va_up ((va_up F b (va_up (F b) 0 a1)) b) 1 a2)))))
set_option maxHeartbeats 4000000 in
set_option maxRecDepth 100000 in
theorem m_Le_init_Le {l : Launch} {D : va_G} {cy : Nat → ClassId} {ad : Nat → Nat} {I : Nat → Int32} {A : Nat → Nat → Int32} {T : Nat → Option Nat} {L : List Nat} {K : Nat → Nat} {F : Nat → Nat → Int32} {b : Nat} {a1 : Int32} {a2 : Int32} {P : ((Nat → Nat → Int32)) → Prop} (hbq : b ∈ L) (hbk : K b = 3) (hw : g_Le_init_Le F b a1 a2 P) : ∀ sz, Met l y_Le_init (WL y_Le_init c_Le_init 3 none) { frames := 2, cells := 0, slots := 0, locals := 40 } (va_Pc [.ref b, .int a1, .int a2] (PreW D cy (wC cy ad I A T L K F) sz)) (va_Qv P (fun u t => PostW D (va_A (wC cy ad I A T L K F) sz) ((fun u => wC cy ad I A T L K u) u) t) (va_A (wC cy ad I A T L K F) sz)) 0 0 (va_A (wC cy ad I A T L K F) sz) := by
  refine met_v (wf := fun u => wC cy ad I A T L K u) R_Le db_Le_init (by decide) rfl (by decide) ?_
  intro p e s m below meth c Z Q ls hin C h hl hret
  have hl : lv_has ls 3 [(0, .ref b), (1, .int a1), (2, .int a2)] := hl
  refine i_aload_n C 0 rfl rfl rfl hl 0 rfl ?_
  refine i_callINv (rest := []) C 1 rfl rfl hl h (kIN_Le_1 ⟨by decide, by decide⟩) (m_Th_init hw) rfl rfl (by decide) ⟨by decide, by decide⟩ (fun u1 H locs hw h => ?_)
  refine i_aload_n C 2 rfl rfl rfl hl 0 rfl ?_
  refine i_iload_n C 3 rfl rfl rfl hl 1 rfl ?_
  refine tp_Le_7_Le C 4 rfl rfl h hbq hbk hin (fun H locs h => ?_)
  refine i_aload_n C 5 rfl rfl rfl hl 0 rfl ?_
  refine i_iload_n C 6 rfl rfl rfl hl 2 rfl ?_
  obtain ⟨hB, hw⟩ := hw
  refine tp_Le_13_Le C 7 rfl rfl h hbq hbk hin hB (fun H locs h => ?_)
  exact hret (va_up (va_up F b (va_up (F b) 0 a1)) b (va_up ((va_up F b (va_up (F b) 0 a1)) b) 1 a2)) _ _ _ _ hw h (C.dg (k := 8) rfl)
end S42
theorem kI_Pw_162 {R : Room} {s : State} {args : Array Value} (hR : 2 + 1 ≤ R.frames ∧ 8 + (3 + 11) + 40 ≤ R.locals) (ht : ∀ w ∈ GW, w.before args s = true) : CallB R s args R_Pw 162 y_Le_init c_Le_init 3 none (WL y_Le_init c_Le_init 3 none) { frames := 2, cells := 0, slots := 0, locals := 40 } 0 0 2 ∧ y_Le_init.name = "<init>" ∧ (Cond.instanceMethod y_Le_init).before args s = true := cwI 2 ht (GW_in (GW_wl w_157)) rfl rfl rfl (ht _ w_156) (ht _ w_158) (ht _ w_159) rfl (by decide +kernel) hR
section S43
variable {p : Program} {l : Launch} {e : Env} {R : Room} {s : State} {m : MethodId} {args : Array Value} {below : List Frame} {meth : Method} {c : Code} {H : Heap} {locs : List Loc} {cells slots : Nat} {Q : State → Prop}
variable {cc : ByteArray} {pc n nL : Nat} {ls : Array Slot} {rest : List Value} {D : va_G} {cy : Nat → ClassId} {Z : Nat → Prop} {ad : Nat → Nat} {tb : List (Nat × Instr × Nat)} {lv : List (Nat × Value)}
def g_Pw_leak (I : Nat → Int32) (T : Nat → Option Nat) (L : List Nat) (K : Nat → Nat) (F : Nat → Nat → Int32) (a1 : Int32) (a2 : Int32) (a3 : Int32) (P : Int32 → ((Nat → Option Nat) × (List Nat) × (Nat → Nat) × (Nat → Nat → Int32)) → Prop) : Prop := g_Pw_isWithin a2 (1 : Int32) (1000 : Int32) (fun r1 => (g_Pw_refusalToHang I T a1 r1 (fun r2 => ((0 ≤ r2 → (∀ q4 : Nat, (g_Le_init_Le (va_up F q4 (fun _ => 0)) q4 a2 a3 (fun u7 => (g_Ne_hang T a1 q4 (fun r8 u9 => (P r8 (u9, L ++ [q4], va_up K q4 3, u7)))))))) ∧ (¬ 0 ≤ r2 → (P r2 (T, L, K, F)))))))
set_option maxHeartbeats 4000000 in
set_option maxRecDepth 100000 in
theorem m_Pw_leak {l : Launch} {D : va_G} {cy : Nat → ClassId} {ad : Nat → Nat} {I : Nat → Int32} {A : Nat → Nat → Int32} {T : Nat → Option Nat} {L : List Nat} {K : Nat → Nat} {F : Nat → Nat → Int32} {a1 : Int32} {a2 : Int32} {a3 : Int32} {P : Int32 → ((Nat → Option Nat) × (List Nat) × (Nat → Nat) × (Nat → Nat → Int32)) → Prop} (hw : g_Pw_leak I T L K F a1 a2 a3 P) : ∀ sz, Met l y_Pw_leak (WL y_Pw_leak c_Pw_leak 5 (some .int)) { frames := 3, cells := 1, slots := 3, locals := 62 } (va_Pc [.ref (ad 0), .int a1, .int a2, .int a3] (PreW D cy (wC cy ad I A T L K F) sz)) (va_Qi P (fun u t => PostW D (va_A (wC cy ad I A T L K F) sz) ((fun u => wC cy ad I A u.1 u.2.1 u.2.2.1 u.2.2.2) u) t) (va_A (wC cy ad I A T L K F) sz)) 1 3 (va_A (wC cy ad I A T L K F) sz) := by
  refine met_i (wf := fun u => wC cy ad I A u.1 u.2.1 u.2.2.1 u.2.2.2) R_Pw .int db_Pw_leak (by decide) rfl rfl (by decide) ?_
  intro p e s m below meth c Z Q ls C h hl hret
  have hl : lv_has ls 5 [(0, .ref (ad 0)), (1, .int a1), (2, .int a2), (3, .int a3)] := hl
  refine i_aload_n C 0 rfl rfl rfl hl 0 rfl ?_
  refine i_iload_n C 1 rfl rfl rfl hl 1 rfl ?_
  refine i_iload_n C 2 rfl rfl rfl hl 2 rfl ?_
  refine i_iconst (v := (1 : Int32)) C 3 rfl rfl rfl ?_
  refine i_sipush (v := (1000 : Int32)) C 4 rfl rfl rfl ?_
  refine i_callSp (rest := [.int a1, .ref (ad 0)]) C 5 rfl rfl hl h (kS_Pw_69 ⟨by decide, by decide⟩) (m_Pw_isWithin hw) rfl rfl (by decide) ⟨by decide, by decide⟩ (fun r1 hw => ?_)
  refine i_callVp (rest := []) (ci := 10) (qc := (R_Pw, T_Pw, 16)) C 6 rfl rfl hl h rfl (wC_get (h := 0) (by decide)) (kV_Pw_132 ⟨by decide, by decide⟩) (m_Pw_refusalToHang hw) rfl rfl (by decide) ⟨by decide, by decide⟩ (fun r2 hw => ?_)
  refine i_istore (lv' := [(4, .int r2), (0, .ref (ad 0)), (1, .int a1), (2, .int a2), (3, .int a3)]) C 7 rfl rfl hl (by decide) rfl (fun ls hl => ?_)
  refine i_iload C 8 rfl rfl hl 0 rfl ?_
  refine i_if_ge (tgt := 25) C 9 rfl rfl rfl (fun c3 => ?_) (fun c3 => ?_)
  · replace hw := hw.1 c3
    refine i_aload_n C 12 rfl rfl rfl hl 1 rfl ?_
    refine fgC_Pw_10 C 13 rfl rfl h ?_
    refine i_iload_n C 14 rfl rfl rfl hl 2 rfl ?_
    refine nw_Pw_160 C 15 rfl rfl h (by decide) (by decide) (fun q4 H h => ?_)
    replace hw := hw q4
    have hq5 : q4 ∈ L ++ [q4] := List.mem_append_right _ List.mem_cons_self
    have hk6 : (va_up K q4 3) q4 = 3 := if_pos rfl
    refine i_dup C 16 rfl rfl rfl ?_
    refine i_iload_n C 17 rfl rfl rfl hl 3 rfl ?_
    refine i_iload_n C 18 rfl rfl rfl hl 4 rfl ?_
    refine i_callIv (rest := [.ref q4, .int a1, .ref (ad 1)]) C 19 rfl rfl hl h (kI_Pw_162 ⟨by decide, by decide⟩) (m_Le_init_Le hq5 hk6 hw) rfl rfl (by decide) ⟨by decide, by decide⟩ (fun u7 H locs hw h => ?_)
    refine i_callVi (rest := []) (ci := 5) (qc := (R_Ne, T_Ne, 17)) C 20 rfl rfl hl h rfl (wC_get (h := 1) (by decide)) (kV_Pw_141 ⟨by decide, by decide⟩) (m_Ne_hang hw) rfl rfl (by decide) ⟨by decide, by decide⟩ (fun r8 u9 H locs hw h => ?_)
    exact hret _ (u9, L ++ [q4], va_up K q4 3, u7) _ _ _ _ rfl hw h (C.dg (k := 21) rfl)
  · replace hw := hw.2 c3
    refine i_iload C 10 rfl rfl hl 0 rfl ?_
    refine i_goto (tgt := 42) C 11 rfl rfl ?_
    refine W.widen (k := 1) (n := 3) (by decide) (by decide) ?_
    exact hret _ (T, L, K, F) _ _ _ _ rfl hw h (C.dg (k := 21) rfl)
end S43
section S44
variable {p : Program} {l : Launch} {e : Env} {R : Room} {s : State} {m : MethodId} {args : Array Value} {below : List Frame} {meth : Method} {c : Code} {H : Heap} {locs : List Loc} {cells slots : Nat} {Q : State → Prop}
variable {cc : ByteArray} {pc n nL : Nat} {ls : Array Slot} {rest : List Value} {D : va_G} {cy : Nat → ClassId} {Z : Nat → Prop} {ad : Nat → Nat} {tb : List (Nat × Instr × Nat)} {lv : List (Nat × Value)}
def g_Br_kind  (P : Int32 → Prop) : Prop := P (3 : Int32)
set_option maxHeartbeats 4000000 in
set_option maxRecDepth 100000 in
theorem m_Br_kind {l : Launch} {D : va_G} {cy : Nat → ClassId} {ad : Nat → Nat}   {b : Nat} {w : va_W} {P : Int32 → Prop} (hw : g_Br_kind  P) : ∀ sz, Met l y_Br_kind (WL y_Br_kind c_Br_kind 1 (some .int)) { frames := 0, cells := 0, slots := 0, locals := 0 } (va_Pc [.ref b] (PreW D cy (w) sz)) (vp_Si P) 0 0 (fun _ => False) := by
  refine met_p R_Br .int db_Br_kind (by decide) rfl rfl (by decide) ?_
  intro p e s m below meth c Z Q ls C h hl hret
  have hl : lv_has ls 1 [(0, .ref b)] := hl
  refine i_iconst (v := (3 : Int32)) C 0 rfl rfl rfl ?_
  exact hret _ _ _ rfl hw (C.dg (k := 1) rfl)
end S44
section S45
variable {p : Program} {l : Launch} {e : Env} {R : Room} {s : State} {m : MethodId} {args : Array Value} {below : List Frame} {meth : Method} {c : Code} {H : Heap} {locs : List Loc} {cells slots : Nat} {Q : State → Prop}
variable {cc : ByteArray} {pc n nL : Nat} {ls : Array Slot} {rest : List Value} {D : va_G} {cy : Nat → ClassId} {Z : Nat → Prop} {ad : Nat → Nat} {tb : List (Nat × Instr × Nat)} {lv : List (Nat × Value)}
def g_Dr_kind  (P : Int32 → Prop) : Prop := P (1 : Int32)
set_option maxHeartbeats 4000000 in
set_option maxRecDepth 100000 in
theorem m_Dr_kind {l : Launch} {D : va_G} {cy : Nat → ClassId} {ad : Nat → Nat}   {b : Nat} {w : va_W} {P : Int32 → Prop} (hw : g_Dr_kind  P) : ∀ sz, Met l y_Dr_kind (WL y_Dr_kind c_Dr_kind 1 (some .int)) { frames := 0, cells := 0, slots := 0, locals := 0 } (va_Pc [.ref b] (PreW D cy (w) sz)) (vp_Si P) 0 0 (fun _ => False) := by
  refine met_p R_Dr .int db_Dr_kind (by decide) rfl rfl (by decide) ?_
  intro p e s m below meth c Z Q ls C h hl hret
  have hl : lv_has ls 1 [(0, .ref b)] := hl
  refine i_iconst (v := (1 : Int32)) C 0 rfl rfl rfl ?_
  exact hret _ _ _ rfl hw (C.dg (k := 1) rfl)
end S45
section S46
variable {p : Program} {l : Launch} {e : Env} {R : Room} {s : State} {m : MethodId} {args : Array Value} {below : List Frame} {meth : Method} {c : Code} {H : Heap} {locs : List Loc} {cells slots : Nat} {Q : State → Prop}
variable {cc : ByteArray} {pc n nL : Nat} {ls : Array Slot} {rest : List Value} {D : va_G} {cy : Nat → ClassId} {Z : Nat → Prop} {ad : Nat → Nat} {tb : List (Nat × Instr × Nat)} {lv : List (Nat × Value)}
def g_Ho_kind  (P : Int32 → Prop) : Prop := P (5 : Int32)
set_option maxHeartbeats 4000000 in
set_option maxRecDepth 100000 in
theorem m_Ho_kind {l : Launch} {D : va_G} {cy : Nat → ClassId} {ad : Nat → Nat}   {b : Nat} {w : va_W} {P : Int32 → Prop} (hw : g_Ho_kind  P) : ∀ sz, Met l y_Ho_kind (WL y_Ho_kind c_Ho_kind 1 (some .int)) { frames := 0, cells := 0, slots := 0, locals := 0 } (va_Pc [.ref b] (PreW D cy (w) sz)) (vp_Si P) 0 0 (fun _ => False) := by
  refine met_p R_Ho .int db_Ho_kind (by decide) rfl rfl (by decide) ?_
  intro p e s m below meth c Z Q ls C h hl hret
  have hl : lv_has ls 1 [(0, .ref b)] := hl
  refine i_iconst (v := (5 : Int32)) C 0 rfl rfl rfl ?_
  exact hret _ _ _ rfl hw (C.dg (k := 1) rfl)
end S46
section S47
variable {p : Program} {l : Launch} {e : Env} {R : Room} {s : State} {m : MethodId} {args : Array Value} {below : List Frame} {meth : Method} {c : Code} {H : Heap} {locs : List Loc} {cells slots : Nat} {Q : State → Prop}
variable {cc : ByteArray} {pc n nL : Nat} {ls : Array Slot} {rest : List Value} {D : va_G} {cy : Nat → ClassId} {Z : Nat → Prop} {ad : Nat → Nat} {tb : List (Nat × Instr × Nat)} {lv : List (Nat × Value)}
def g_Le_kind_Le (F : Nat → Nat → Int32) (b : Nat) (P : Int32 → Prop) : Prop := ((F b 1) = 0 → (P (6 : Int32))) ∧ (¬ (F b 1) = 0 → (P (7 : Int32)))
set_option maxHeartbeats 4000000 in
set_option maxRecDepth 100000 in
theorem m_Le_kind_Le {l : Launch} {D : va_G} {cy : Nat → ClassId} {ad : Nat → Nat} {I : Nat → Int32} {A : Nat → Nat → Int32} {T : Nat → Option Nat} {L : List Nat} {K : Nat → Nat} {F : Nat → Nat → Int32} {b : Nat} {P : Int32 → Prop} (hbq : b ∈ L) (hbk : K b = 3) (hw : g_Le_kind_Le F b P) : ∀ sz, Met l y_Le_kind (WL y_Le_kind c_Le_kind 1 (some .int)) { frames := 0, cells := 0, slots := 0, locals := 0 } (va_Pc [.ref b] (PreW D cy (wC cy ad I A T L K F) sz)) (vp_Si P) 0 0 (fun _ => False) := by
  refine met_p R_Le .int db_Le_kind (by decide) rfl rfl (by decide) ?_
  intro p e s m below meth c Z Q ls C h hl hret
  have hl : lv_has ls 1 [(0, .ref b)] := hl
  refine i_aload_n C 0 rfl rfl rfl hl 0 rfl ?_
  refine tg_Le_13_Le C 1 rfl rfl h hbq hbk ?_
  refine i_if_eq (tgt := 12) C 2 rfl rfl rfl (fun c1 => ?_) (fun c1 => ?_)
  · replace hw := hw.1 c1
    refine i_bipush (v := (6 : Int32)) C 5 rfl rfl rfl ?_
    exact hret _ _ _ rfl hw (C.dg (k := 6) rfl)
  · replace hw := hw.2 c1
    refine i_bipush (v := (7 : Int32)) C 3 rfl rfl rfl ?_
    refine i_goto (tgt := 14) C 4 rfl rfl ?_
    exact hret _ _ _ rfl hw (C.dg (k := 6) rfl)
end S47
section S48
variable {p : Program} {l : Launch} {e : Env} {R : Room} {s : State} {m : MethodId} {args : Array Value} {below : List Frame} {meth : Method} {c : Code} {H : Heap} {locs : List Loc} {cells slots : Nat} {Q : State → Prop}
variable {cc : ByteArray} {pc n nL : Nat} {ls : Array Slot} {rest : List Value} {D : va_G} {cy : Nat → ClassId} {Z : Nat → Prop} {ad : Nat → Nat} {tb : List (Nat × Instr × Nat)} {lv : List (Nat × Value)}
def g_Li_kind  (P : Int32 → Prop) : Prop := P (2 : Int32)
set_option maxHeartbeats 4000000 in
set_option maxRecDepth 100000 in
theorem m_Li_kind {l : Launch} {D : va_G} {cy : Nat → ClassId} {ad : Nat → Nat}   {b : Nat} {w : va_W} {P : Int32 → Prop} (hw : g_Li_kind  P) : ∀ sz, Met l y_Li_kind (WL y_Li_kind c_Li_kind 1 (some .int)) { frames := 0, cells := 0, slots := 0, locals := 0 } (va_Pc [.ref b] (PreW D cy (w) sz)) (vp_Si P) 0 0 (fun _ => False) := by
  refine met_p R_Li .int db_Li_kind (by decide) rfl rfl (by decide) ?_
  intro p e s m below meth c Z Q ls C h hl hret
  have hl : lv_has ls 1 [(0, .ref b)] := hl
  refine i_iconst (v := (2 : Int32)) C 0 rfl rfl rfl ?_
  exact hret _ _ _ rfl hw (C.dg (k := 1) rfl)
end S48
section S49
variable {p : Program} {l : Launch} {e : Env} {R : Room} {s : State} {m : MethodId} {args : Array Value} {below : List Frame} {meth : Method} {c : Code} {H : Heap} {locs : List Loc} {cells slots : Nat} {Q : State → Prop}
variable {cc : ByteArray} {pc n nL : Nat} {ls : Array Slot} {rest : List Value} {D : va_G} {cy : Nat → ClassId} {Z : Nat → Prop} {ad : Nat → Nat} {tb : List (Nat × Instr × Nat)} {lv : List (Nat × Value)}
def g_To_kind  (P : Int32 → Prop) : Prop := P (4 : Int32)
set_option maxHeartbeats 4000000 in
set_option maxRecDepth 100000 in
theorem m_To_kind {l : Launch} {D : va_G} {cy : Nat → ClassId} {ad : Nat → Nat}   {b : Nat} {w : va_W} {P : Int32 → Prop} (hw : g_To_kind  P) : ∀ sz, Met l y_To_kind (WL y_To_kind c_To_kind 1 (some .int)) { frames := 0, cells := 0, slots := 0, locals := 0 } (va_Pc [.ref b] (PreW D cy (w) sz)) (vp_Si P) 0 0 (fun _ => False) := by
  refine met_p R_To .int db_To_kind (by decide) rfl rfl (by decide) ?_
  intro p e s m below meth c Z Q ls C h hl hret
  have hl : lv_has ls 1 [(0, .ref b)] := hl
  refine i_iconst (v := (4 : Int32)) C 0 rfl rfl rfl ?_
  exact hret _ _ _ rfl hw (C.dg (k := 1) rfl)
end S49
theorem kU_Ne_60_Br {R : Room} {s : State} {args : Array Value} (hR : 0 + 1 ≤ R.frames ∧ 8 + (1 + 11) + 0 ≤ R.locals) (ht : ∀ w ∈ GW, w.before args s = true) (hN : NX s) : va_CU R s args R_Ne R_Br "PipeWorks$Thing" 60 ⟨"PipeWorks$Thing", "kind", "()I"⟩ y_Br_kind c_Br_kind 1 (some .int) (WL y_Br_kind c_Br_kind 1 (some .int)) { frames := 0, cells := 0, slots := 0, locals := 0 } 0 0 0 := va_cwA (x := ⟨"PipeWorks$Thing", "kind", "()I"⟩) 0 ht (GW_u (x := ⟨"PipeWorks$Thing", "kind", "()I"⟩) w_161 w_162 w_163 w_164 w_129 (GW_wl w_160)) rfl rfl rfl (hN.1 _ (by simp [nxW])) (by decide +kernel) hR
theorem kU_Ne_60_Dr {R : Room} {s : State} {args : Array Value} (hR : 0 + 1 ≤ R.frames ∧ 8 + (1 + 11) + 0 ≤ R.locals) (ht : ∀ w ∈ GW, w.before args s = true) (hN : NX s) : va_CU R s args R_Ne R_Dr "PipeWorks$Thing" 60 ⟨"PipeWorks$Thing", "kind", "()I"⟩ y_Dr_kind c_Dr_kind 1 (some .int) (WL y_Dr_kind c_Dr_kind 1 (some .int)) { frames := 0, cells := 0, slots := 0, locals := 0 } 0 0 0 := va_cwA (x := ⟨"PipeWorks$Thing", "kind", "()I"⟩) 0 ht (GW_u (x := ⟨"PipeWorks$Thing", "kind", "()I"⟩) w_161 w_162 w_166 w_167 w_104 (GW_wl w_165)) rfl rfl rfl (hN.1 _ (by simp [nxW])) (by decide +kernel) hR
theorem kU_Ne_60_Ho {R : Room} {s : State} {args : Array Value} (hR : 0 + 1 ≤ R.frames ∧ 8 + (1 + 11) + 0 ≤ R.locals) (ht : ∀ w ∈ GW, w.before args s = true) (hN : NX s) : va_CU R s args R_Ne R_Ho "PipeWorks$Thing" 60 ⟨"PipeWorks$Thing", "kind", "()I"⟩ y_Ho_kind c_Ho_kind 1 (some .int) (WL y_Ho_kind c_Ho_kind 1 (some .int)) { frames := 0, cells := 0, slots := 0, locals := 0 } 0 0 0 := va_cwA (x := ⟨"PipeWorks$Thing", "kind", "()I"⟩) 0 ht (GW_u (x := ⟨"PipeWorks$Thing", "kind", "()I"⟩) w_161 w_162 w_169 w_170 w_148 (GW_wl w_168)) rfl rfl rfl (hN.1 _ (by simp [nxW])) (by decide +kernel) hR
theorem kU_Ne_60_Le {R : Room} {s : State} {args : Array Value} (hR : 0 + 1 ≤ R.frames ∧ 8 + (1 + 11) + 0 ≤ R.locals) (ht : ∀ w ∈ GW, w.before args s = true) (hN : NX s) : va_CU R s args R_Ne R_Le "PipeWorks$Thing" 60 ⟨"PipeWorks$Thing", "kind", "()I"⟩ y_Le_kind c_Le_kind 1 (some .int) (WL y_Le_kind c_Le_kind 1 (some .int)) { frames := 0, cells := 0, slots := 0, locals := 0 } 0 0 0 := va_cwA (x := ⟨"PipeWorks$Thing", "kind", "()I"⟩) 0 ht (GW_u (x := ⟨"PipeWorks$Thing", "kind", "()I"⟩) w_161 w_162 w_172 w_173 w_156 (GW_wl w_171)) rfl rfl rfl (hN.1 _ (by simp [nxW])) (by decide +kernel) hR
theorem kU_Ne_60_Li {R : Room} {s : State} {args : Array Value} (hR : 0 + 1 ≤ R.frames ∧ 8 + (1 + 11) + 0 ≤ R.locals) (ht : ∀ w ∈ GW, w.before args s = true) (hN : NX s) : va_CU R s args R_Ne R_Li "PipeWorks$Thing" 60 ⟨"PipeWorks$Thing", "kind", "()I"⟩ y_Li_kind c_Li_kind 1 (some .int) (WL y_Li_kind c_Li_kind 1 (some .int)) { frames := 0, cells := 0, slots := 0, locals := 0 } 0 0 0 := va_cwA (x := ⟨"PipeWorks$Thing", "kind", "()I"⟩) 0 ht (GW_u (x := ⟨"PipeWorks$Thing", "kind", "()I"⟩) w_161 w_162 w_175 w_176 w_119 (GW_wl w_174)) rfl rfl rfl (hN.1 _ (by simp [nxW])) (by decide +kernel) hR
theorem kU_Ne_60_To {R : Room} {s : State} {args : Array Value} (hR : 0 + 1 ≤ R.frames ∧ 8 + (1 + 11) + 0 ≤ R.locals) (ht : ∀ w ∈ GW, w.before args s = true) (hN : NX s) : va_CU R s args R_Ne R_To "PipeWorks$Thing" 60 ⟨"PipeWorks$Thing", "kind", "()I"⟩ y_To_kind c_To_kind 1 (some .int) (WL y_To_kind c_To_kind 1 (some .int)) { frames := 0, cells := 0, slots := 0, locals := 0 } 0 0 0 := va_cwA (x := ⟨"PipeWorks$Thing", "kind", "()I"⟩) 0 ht (GW_u (x := ⟨"PipeWorks$Thing", "kind", "()I"⟩) w_161 w_162 w_178 w_179 w_138 (GW_wl w_177)) rfl rfl rfl (hN.1 _ (by simp [nxW])) (by decide +kernel) hR
section S50
variable {p : Program} {l : Launch} {e : Env} {R : Room} {s : State} {m : MethodId} {args : Array Value} {below : List Frame} {meth : Method} {c : Code} {H : Heap} {locs : List Loc} {cells slots : Nat} {Q : State → Prop}
variable {cc : ByteArray} {pc n nL : Nat} {ls : Array Slot} {rest : List Value} {D : va_G} {cy : Nat → ClassId} {Z : Nat → Prop} {ad : Nat → Nat} {tb : List (Nat × Instr × Nat)} {lv : List (Nat × Value)}
section G50
variable {I : Nat → Int32} {A : Nat → Nat → Int32} {T : Nat → Option Nat} {L : List Nat} {K : Nat → Nat} {F : Nat → Nat → Int32}
def gd_kind (L : List Nat) (K : Nat → Nat) (F : Nat → Nat → Int32) (q : Nat)  (P : Int32 → Prop) : Prop := q ∈ L ∧ ((K q = 0 ∧ g_Br_kind  P) ∨ (K q = 1 ∧ g_Dr_kind  P) ∨ (K q = 2 ∧ g_Ho_kind  P) ∨ (K q = 3 ∧ g_Le_kind_Le F q P) ∨ (K q = 4 ∧ g_Li_kind  P) ∨ (K q = 9 ∧ g_To_kind  P))
set_option maxHeartbeats 4000000 in
set_option maxRecDepth 100000 in
theorem gdc_Ne_60 {q : Nat}  {P : Int32 → Prop} (C : CX D cy R_Ne cc tb nL p s m args c Z) (k : Nat) (hk : tb[k]? = some (pc, .invokevirtual 60, 3)) (hn : pc + 3 = n) (hl : lv_has ls nL lv) (h : HXw D Z s.heap H locs (wC cy ad I A T L K F)) (hw : gd_kind L K F q  P) (hfr : 1 ≤ R.frames) (hlo : 20 ≤ R.locals) (hs : (rest.map fun v => v.category).sum ≤ 8) (hc : cells ≤ R.cells ∧ slots ≤ R.slots) (kk : ∀ r : Int32, P r → W p l e R s m args below meth c H locs cells slots Q (F0 m n ls (.int r :: rest))) : W p l e R s m args below meth c H locs cells slots Q (F0 m pc ls (.ref q :: rest)) := by
  obtain ⟨hq, hw⟩ := hw
  rcases hw with ⟨hk0, hw⟩ | ⟨hk0, hw⟩ | ⟨hk0, hw⟩ | ⟨hk0, hw⟩ | ⟨hk0, hw⟩ | ⟨hk0, hw⟩
  · obtain ⟨q0, he, -⟩ := wC_th (cy := cy) (ad := ad) (I := I) (A := A) (T := T) (F := F) hq hk0
    exact i_callUp (rest := rest) (ci := 0) (qc := (R_Br, T_Br, 6)) C k hk hn hl h rfl he (kU_Ne_60_Br ⟨by omega, by omega⟩) (m_Br_kind hw) rfl rfl hs hc kk
  · obtain ⟨q0, he, -⟩ := wC_th (cy := cy) (ad := ad) (I := I) (A := A) (T := T) (F := F) hq hk0
    exact i_callUp (rest := rest) (ci := 1) (qc := (R_Dr, T_Dr, 3)) C k hk hn hl h rfl he (kU_Ne_60_Dr ⟨by omega, by omega⟩) (m_Dr_kind hw) rfl rfl hs hc kk
  · obtain ⟨q0, he, -⟩ := wC_th (cy := cy) (ad := ad) (I := I) (A := A) (T := T) (F := F) hq hk0
    exact i_callUp (rest := rest) (ci := 2) (qc := (R_Ho, T_Ho, 7)) C k hk hn hl h rfl he (kU_Ne_60_Ho ⟨by omega, by omega⟩) (m_Ho_kind hw) rfl rfl hs hc kk
  · obtain ⟨q0, he, -⟩ := wC_th (cy := cy) (ad := ad) (I := I) (A := A) (T := T) (F := F) hq hk0
    exact i_callUp (rest := rest) (ci := 3) (qc := (R_Le, T_Le, 3)) C k hk hn hl h rfl he (kU_Ne_60_Le ⟨by omega, by omega⟩) (m_Le_kind_Le hq hk0 hw) rfl rfl hs hc kk
  · obtain ⟨q0, he, -⟩ := wC_th (cy := cy) (ad := ad) (I := I) (A := A) (T := T) (F := F) hq hk0
    exact i_callUp (rest := rest) (ci := 4) (qc := (R_Li, T_Li, 4)) C k hk hn hl h rfl he (kU_Ne_60_Li ⟨by omega, by omega⟩) (m_Li_kind hw) rfl rfl hs hc kk
  · obtain ⟨q0, he, -⟩ := wC_th (cy := cy) (ad := ad) (I := I) (A := A) (T := T) (F := F) hq hk0
    exact i_callUp (rest := rest) (ci := 9) (qc := (R_To, T_To, 3)) C k hk hn hl h rfl he (kU_Ne_60_To ⟨by omega, by omega⟩) (m_To_kind hw) rfl rfl hs hc kk
end G50
def g_Ne_unhang (T : Nat → Option Nat) (L : List Nat) (K : Nat → Nat) (F : Nat → Nat → Int32) (a1 : Int32) (P : Int32 → ((Nat → Option Nat)) → Prop) : Prop := vp_in a1 12 ∧ ((T a1.toNatClampNeg = none → (P (-5 : Int32) T)) ∧ (∀ q1 : Nat, T a1.toNatClampNeg = some q1 → (vp_in a1 12 ∧ (gd_kind L K F q1 (fun r3 => (P r3 (va_up T a1.toNatClampNeg none)))))))
set_option maxHeartbeats 4000000 in
set_option maxRecDepth 100000 in
theorem m_Ne_unhang {l : Launch} {D : va_G} {cy : Nat → ClassId} {ad : Nat → Nat} {I : Nat → Int32} {A : Nat → Nat → Int32} {T : Nat → Option Nat} {L : List Nat} {K : Nat → Nat} {F : Nat → Nat → Int32} {a1 : Int32} {P : Int32 → ((Nat → Option Nat)) → Prop} (hw : g_Ne_unhang T L K F a1 P) : ∀ sz, Met l y_Ne_unhang (WL y_Ne_unhang c_Ne_unhang 3 (some .int)) { frames := 1, cells := 0, slots := 0, locals := 20 } (va_Pc [.ref (ad 1), .int a1] (PreW D cy (wC cy ad I A T L K F) sz)) (va_Qi P (fun u t => PostW D (va_A (wC cy ad I A T L K F) sz) ((fun u => wC cy ad I A u L K F) u) t) (va_A (wC cy ad I A T L K F) sz)) 0 0 (va_A (wC cy ad I A T L K F) sz) := by
  refine met_i (wf := fun u => wC cy ad I A u L K F) R_Ne .int db_Ne_unhang (by decide) rfl rfl (by decide) ?_
  intro p e s m below meth c Z Q ls C h hl hret
  have hl : lv_has ls 3 [(0, .ref (ad 1)), (1, .int a1)] := hl
  refine i_aload_n C 0 rfl rfl rfl hl 0 rfl ?_
  refine fgC_Ne_30 C 1 rfl rfl h ?_
  refine i_iload_n C 2 rfl rfl rfl hl 1 rfl ?_
  obtain ⟨hb, hw⟩ := hw
  refine i_aldq C 3 rfl rfl h (wC_get (h := 5) (by decide)) hb (fun c2 => ?_) (fun q1 c2 => ?_)
  · replace hw := hw.1 c2
    refine i_astore_nN (lv' := [(2, .null), (0, .ref (ad 1)), (1, .int a1)]) C 4 rfl rfl rfl hl (by decide) rfl (fun ls hl => ?_)
    refine i_aload_nN C 5 rfl rfl rfl hl 0 rfl ?_
    refine i_ifnonnullN C 6 rfl rfl ?_
    refine i_bipush (v := (-5 : Int32)) C 7 rfl rfl rfl ?_
    exact hret _ T _ _ _ _ rfl hw h (C.dg (k := 8) rfl)
  · replace hw := hw.2 q1 c2
    refine i_astore_n (lv' := [(2, .ref q1), (0, .ref (ad 1)), (1, .int a1)]) C 4 rfl rfl rfl hl (by decide) rfl (fun ls hl => ?_)
    refine i_aload_n C 5 rfl rfl rfl hl 0 rfl ?_
    refine i_ifnonnull (tgt := 14) C 6 rfl rfl ?_
    refine i_aload_n C 9 rfl rfl rfl hl 1 rfl ?_
    refine fgC_Ne_30 C 10 rfl rfl h ?_
    refine i_iload_n C 11 rfl rfl rfl hl 2 rfl ?_
    refine i_null C 12 rfl rfl ?_
    obtain ⟨hb, hw⟩ := hw
    refine i_astN C 13 rfl rfl h hb (fun H locs h => ?_)
    refine i_aload_n C 14 rfl rfl rfl hl 0 rfl ?_
    refine gdc_Ne_60 (rest := []) C 15 rfl rfl hl h hw (by decide) (by decide) (by decide) ⟨by decide, by decide⟩ (fun r3 hw => ?_)
    exact hret _ (va_up T a1.toNatClampNeg none) _ _ _ _ rfl hw h (C.dg (k := 16) rfl)
end S50
theorem kV_Pw_165 {R : Room} {s : State} {args : Array Value} (hR : 1 + 1 ≤ R.frames ∧ 8 + (3 + 11) + 20 ≤ R.locals) (ht : ∀ w ∈ GW, w.before args s = true) : CallW R s args R_Pw R_Ne 165 y_Ne_unhang c_Ne_unhang 3 (some .int) (WL y_Ne_unhang c_Ne_unhang 3 (some .int)) { frames := 1, cells := 0, slots := 0, locals := 20 } 0 0 1 := cwV 1 ht (GW_v w_181 w_182 w_183 w_13 (GW_wl w_180)) rfl rfl rfl (by decide +kernel) hR
section S51
variable {p : Program} {l : Launch} {e : Env} {R : Room} {s : State} {m : MethodId} {args : Array Value} {below : List Frame} {meth : Method} {c : Code} {H : Heap} {locs : List Loc} {cells slots : Nat} {Q : State → Prop}
variable {cc : ByteArray} {pc n nL : Nat} {ls : Array Slot} {rest : List Value} {D : va_G} {cy : Nat → ClassId} {Z : Nat → Prop} {ad : Nat → Nat} {tb : List (Nat × Instr × Nat)} {lv : List (Nat × Value)}
def g_Pw_clear (I : Nat → Int32) (T : Nat → Option Nat) (L : List Nat) (K : Nat → Nat) (F : Nat → Nat → Int32) (a1 : Int32) (P : Int32 → ((Nat → Option Nat)) → Prop) : Prop := g_Ne_has I a1 (fun r1 => ((r1 = 0 → (P (-1 : Int32) T)) ∧ (¬ r1 = 0 → (g_Ne_unhang T L K F a1 (fun r3 u4 => (P r3 u4))))))
set_option maxHeartbeats 4000000 in
set_option maxRecDepth 100000 in
theorem m_Pw_clear {l : Launch} {D : va_G} {cy : Nat → ClassId} {ad : Nat → Nat} {I : Nat → Int32} {A : Nat → Nat → Int32} {T : Nat → Option Nat} {L : List Nat} {K : Nat → Nat} {F : Nat → Nat → Int32} {a1 : Int32} {P : Int32 → ((Nat → Option Nat)) → Prop} (hw : g_Pw_clear I T L K F a1 P) : ∀ sz, Met l y_Pw_clear (WL y_Pw_clear c_Pw_clear 2 (some .int)) { frames := 2, cells := 0, slots := 0, locals := 42 } (va_Pc [.ref (ad 0), .int a1] (PreW D cy (wC cy ad I A T L K F) sz)) (va_Qi P (fun u t => PostW D (va_A (wC cy ad I A T L K F) sz) ((fun u => wC cy ad I A u L K F) u) t) (va_A (wC cy ad I A T L K F) sz)) 0 0 (va_A (wC cy ad I A T L K F) sz) := by
  refine met_i (wf := fun u => wC cy ad I A u L K F) R_Pw .int db_Pw_clear (by decide) rfl rfl (by decide) ?_
  intro p e s m below meth c Z Q ls C h hl hret
  have hl : lv_has ls 2 [(0, .ref (ad 0)), (1, .int a1)] := hl
  refine i_aload_n C 0 rfl rfl rfl hl 0 rfl ?_
  refine fgC_Pw_10 C 1 rfl rfl h ?_
  refine i_iload_n C 2 rfl rfl rfl hl 1 rfl ?_
  refine i_callVp (rest := []) (ci := 5) (qc := (R_Ne, T_Ne, 17)) C 3 rfl rfl hl h rfl (wC_get (h := 1) (by decide)) (kV_Pw_77 ⟨by decide, by decide⟩) (m_Ne_has hw) rfl rfl (by decide) ⟨by decide, by decide⟩ (fun r1 hw => ?_)
  refine i_if_eq (tgt := 22) C 4 rfl rfl rfl (fun c2 => ?_) (fun c2 => ?_)
  · replace hw := hw.1 c2
    refine i_iconst (v := (-1 : Int32)) C 10 rfl rfl rfl ?_
    exact hret _ T _ _ _ _ rfl hw h (C.dg (k := 11) rfl)
  · replace hw := hw.2 c2
    refine i_aload_n C 5 rfl rfl rfl hl 0 rfl ?_
    refine fgC_Pw_10 C 6 rfl rfl h ?_
    refine i_iload_n C 7 rfl rfl rfl hl 1 rfl ?_
    refine i_callVi (rest := []) (ci := 5) (qc := (R_Ne, T_Ne, 17)) C 8 rfl rfl hl h rfl (wC_get (h := 1) (by decide)) (kV_Pw_165 ⟨by decide, by decide⟩) (m_Ne_unhang hw) rfl rfl (by decide) ⟨by decide, by decide⟩ (fun r3 u4 H locs hw h => ?_)
    refine i_goto (tgt := 23) C 9 rfl rfl ?_
    exact hret _ u4 _ _ _ _ rfl hw h (C.dg (k := 11) rfl)
end S51
section S52
variable {p : Program} {l : Launch} {e : Env} {R : Room} {s : State} {m : MethodId} {args : Array Value} {below : List Frame} {meth : Method} {c : Code} {H : Heap} {locs : List Loc} {cells slots : Nat} {Q : State → Prop}
variable {cc : ByteArray} {pc n nL : Nat} {ls : Array Slot} {rest : List Value} {D : va_G} {cy : Nat → ClassId} {Z : Nat → Prop} {ad : Nat → Nat} {tb : List (Nat × Instr × Nat)} {lv : List (Nat × Value)}
def g_Ne_pressAt (A : Nat → Nat → Int32) (a1 : Int32) (P : Int32 → Prop) : Prop := vp_in a1 12 ∧ (vp_in a1 12 ∧ (P ((A 9 a1.toNatClampNeg) - ((10 : Int32) * (A 7 a1.toNatClampNeg)))))
set_option maxHeartbeats 4000000 in
set_option maxRecDepth 100000 in
theorem m_Ne_pressAt {l : Launch} {D : va_G} {cy : Nat → ClassId} {ad : Nat → Nat} {I : Nat → Int32} {A : Nat → Nat → Int32} {T : Nat → Option Nat} {L : List Nat} {K : Nat → Nat} {F : Nat → Nat → Int32} {a1 : Int32} {P : Int32 → Prop} (hw : g_Ne_pressAt A a1 P) : ∀ sz, Met l y_Ne_pressAt (WL y_Ne_pressAt c_Ne_pressAt 2 (some .int)) { frames := 0, cells := 0, slots := 0, locals := 0 } (va_Pc [.ref (ad 1), .int a1] (PreW D cy (wC cy ad I A T L K F) sz)) (vp_Si P) 0 0 (fun _ => False) := by
  refine met_p R_Ne .int db_Ne_pressAt (by decide) rfl rfl (by decide) ?_
  intro p e s m below meth c Z Q ls C h hl hret
  have hl : lv_has ls 2 [(0, .ref (ad 1)), (1, .int a1)] := hl
  refine i_aload_n C 0 rfl rfl rfl hl 0 rfl ?_
  refine fgC_Ne_25 C 1 rfl rfl h ?_
  refine i_iload_n C 2 rfl rfl rfl hl 1 rfl ?_
  obtain ⟨hb, hw⟩ := hw
  refine i_iald C 3 rfl rfl h (wC_arr 9 (by decide) rfl) hb ?_
  refine i_bipush (v := (10 : Int32)) C 4 rfl rfl rfl ?_
  refine i_aload_n C 5 rfl rfl rfl hl 0 rfl ?_
  refine fgC_Ne_18 C 6 rfl rfl h ?_
  refine i_iload_n C 7 rfl rfl rfl hl 1 rfl ?_
  obtain ⟨hb, hw⟩ := hw
  refine i_iald C 8 rfl rfl h (wC_arr 7 (by decide) rfl) hb ?_
  refine i_imul C 9 rfl rfl ?_
  refine i_isub C 10 rfl rfl ?_
  exact hret _ _ _ rfl hw (C.dg (k := 11) rfl)
end S52
section S53
variable {p : Program} {l : Launch} {e : Env} {R : Room} {s : State} {m : MethodId} {args : Array Value} {below : List Frame} {meth : Method} {c : Code} {H : Heap} {locs : List Loc} {cells slots : Nat} {Q : State → Prop}
variable {cc : ByteArray} {pc n nL : Nat} {ls : Array Slot} {rest : List Value} {D : va_G} {cy : Nat → ClassId} {Z : Nat → Prop} {ad : Nat → Nat} {tb : List (Nat × Instr × Nat)} {lv : List (Nat × Value)}
def g_Br_takesIn_Br (F : Nat → Nat → Int32) (b : Nat) (a1 : Int32) (P : Int32 → Prop) : Prop := ¬ (F b 3) = 0 ∧ (((F b 5) ≤ ((a1 + (F b 4)) - (a1 + (F b 4)) / (F b 3) * (F b 3)) → (P (0 : Int32))) ∧ (¬ (F b 5) ≤ ((a1 + (F b 4)) - (a1 + (F b 4)) / (F b 3) * (F b 3)) → (P (F b 0))))
set_option maxHeartbeats 4000000 in
set_option maxRecDepth 100000 in
theorem m_Br_takesIn_Br {l : Launch} {D : va_G} {cy : Nat → ClassId} {ad : Nat → Nat} {I : Nat → Int32} {A : Nat → Nat → Int32} {T : Nat → Option Nat} {L : List Nat} {K : Nat → Nat} {F : Nat → Nat → Int32} {b : Nat} {a1 : Int32} {P : Int32 → Prop} (hbq : b ∈ L) (hbk : K b = 0) (hw : g_Br_takesIn_Br F b a1 P) : ∀ sz, Met l y_Br_takesIn (WL y_Br_takesIn c_Br_takesIn 2 (some .int)) { frames := 0, cells := 0, slots := 0, locals := 0 } (va_Pc [.ref b, .int a1] (PreW D cy (wC cy ad I A T L K F) sz)) (vp_Si P) 0 0 (fun _ => False) := by
  refine met_p R_Br .int db_Br_takesIn (by decide) rfl rfl (by decide) ?_
  intro p e s m below meth c Z Q ls C h hl hret
  have hl : lv_has ls 2 [(0, .ref b), (1, .int a1)] := hl
  refine i_iload_n C 0 rfl rfl rfl hl 1 rfl ?_
  refine i_aload_n C 1 rfl rfl rfl hl 0 rfl ?_
  refine tg_Br_15_Br C 2 rfl rfl h hbq hbk ?_
  refine i_iadd C 3 rfl rfl ?_
  refine i_aload_n C 4 rfl rfl rfl hl 0 rfl ?_
  refine tg_Br_9_Br C 5 rfl rfl h hbq hbk ?_
  obtain ⟨hd, hw⟩ := hw
  refine i_irem C 6 rfl rfl hd ?_
  refine i_aload_n C 7 rfl rfl rfl hl 0 rfl ?_
  refine tg_Br_18_Br C 8 rfl rfl h hbq hbk ?_
  refine i_icmp_ge (tgt := 25) C 9 rfl rfl rfl (fun c1 => ?_) (fun c1 => ?_)
  · replace hw := hw.1 c1
    refine i_iconst (v := (0 : Int32)) C 13 rfl rfl rfl ?_
    exact hret _ _ _ rfl hw (C.dg (k := 14) rfl)
  · replace hw := hw.2 c1
    refine i_aload_n C 10 rfl rfl rfl hl 0 rfl ?_
    refine tg_Br_21_Br C 11 rfl rfl h hbq hbk ?_
    refine i_goto (tgt := 26) C 12 rfl rfl ?_
    exact hret _ _ _ rfl hw (C.dg (k := 14) rfl)
end S53
theorem kU_Dr_21_Br {R : Room} {s : State} {args : Array Value} (hR : 0 + 1 ≤ R.frames ∧ 8 + (2 + 11) + 0 ≤ R.locals) (ht : ∀ w ∈ GW, w.before args s = true) (hN : NX s) : va_CU R s args R_Dr R_Br "PipeWorks$Draw" 21 ⟨"PipeWorks$Draw", "takesIn", "(I)I"⟩ y_Br_takesIn c_Br_takesIn 2 (some .int) (WL y_Br_takesIn c_Br_takesIn 2 (some .int)) { frames := 0, cells := 0, slots := 0, locals := 0 } 0 0 1 := va_cwO (x := ⟨"PipeWorks$Draw", "takesIn", "(I)I"⟩) 1 ht (GW_o (x := ⟨"PipeWorks$Draw", "takesIn", "(I)I"⟩) w_187 w_188 w_191 w_189 w_190 w_129 (GW_wl w_186)) rfl rfl rfl (by decide +kernel) hR
section S54
variable {p : Program} {l : Launch} {e : Env} {R : Room} {s : State} {m : MethodId} {args : Array Value} {below : List Frame} {meth : Method} {c : Code} {H : Heap} {locs : List Loc} {cells slots : Nat} {Q : State → Prop}
variable {cc : ByteArray} {pc n nL : Nat} {ls : Array Slot} {rest : List Value} {D : va_G} {cy : Nat → ClassId} {Z : Nat → Prop} {ad : Nat → Nat} {tb : List (Nat × Instr × Nat)} {lv : List (Nat × Value)}
def g_Dr_takes_Br (F : Nat → Nat → Int32) (b : Nat) (a1 : Int32) (a2 : Int32) (P : Int32 → Prop) : Prop := ∀ y1 : Int32, y1 = a1 / (4 : Int32) → (((y1 - y1 / (1440 : Int32) * (1440 : Int32)) < (F b 1) → (P (0 : Int32))) ∧ (¬ (y1 - y1 / (1440 : Int32) * (1440 : Int32)) < (F b 1) → (((F b 2) ≤ (y1 - y1 / (1440 : Int32) * (1440 : Int32)) → (P (0 : Int32))) ∧ (¬ (F b 2) ≤ (y1 - y1 / (1440 : Int32) * (1440 : Int32)) → (g_Br_takesIn_Br F b y1 (fun r6 => (P r6)))))))
set_option maxHeartbeats 4000000 in
set_option maxRecDepth 100000 in
theorem m_Dr_takes_Br {l : Launch} {D : va_G} {cy : Nat → ClassId} {ad : Nat → Nat} {I : Nat → Int32} {A : Nat → Nat → Int32} {T : Nat → Option Nat} {L : List Nat} {K : Nat → Nat} {F : Nat → Nat → Int32} {b : Nat} {a1 : Int32} {a2 : Int32} {P : Int32 → Prop} (hbq : b ∈ L) (hbk : K b = 0) (hw : g_Dr_takes_Br F b a1 a2 P) : ∀ sz, Met l y_Dr_takes (WL y_Dr_takes c_Dr_takes 4 (some .int)) { frames := 1, cells := 0, slots := 0, locals := 21 } (va_Pc [.ref b, .int a1, .int a2] (PreW D cy (wC cy ad I A T L K F) sz)) (vp_Si P) 0 0 (fun _ => False) := by
  refine met_p R_Dr .int db_Dr_takes (by decide) rfl rfl (by decide) ?_
  intro p e s m below meth c Z Q ls C h hl hret
  have hl : lv_has ls 4 [(0, .ref b), (1, .int a1), (2, .int a2)] := hl
  refine i_iload_n C 0 rfl rfl rfl hl 1 rfl ?_
  refine i_iconst (v := (4 : Int32)) C 1 rfl rfl rfl ?_
  refine i_idiv C 2 rfl rfl (by decide) ?_
  refine lv_topi (fun y1 ey1 => ?_)
  replace hw := hw y1 ey1
  refine i_istore_n (lv' := [(3, .int y1), (0, .ref b), (1, .int a1), (2, .int a2)]) C 3 rfl rfl rfl hl (by decide) rfl (fun ls hl => ?_)
  refine i_iload_n C 4 rfl rfl rfl hl 0 rfl ?_
  refine i_sipush (v := (1440 : Int32)) C 5 rfl rfl rfl ?_
  refine i_irem C 6 rfl rfl (by decide) ?_
  refine i_aload_n C 7 rfl rfl rfl hl 1 rfl ?_
  refine tg_Dr_15_Br C 8 rfl rfl h hbq hbk ?_
  refine i_icmp_lt (tgt := 36) C 9 rfl rfl rfl (fun c2 => ?_) (fun c2 => ?_)
  · replace hw := hw.1 c2
    refine i_iconst (v := (0 : Int32)) C 20 rfl rfl rfl ?_
    exact hret _ _ _ rfl hw (C.dg (k := 21) rfl)
  · replace hw := hw.2 c2
    refine i_iload_n C 10 rfl rfl rfl hl 0 rfl ?_
    refine i_sipush (v := (1440 : Int32)) C 11 rfl rfl rfl ?_
    refine i_irem C 12 rfl rfl (by decide) ?_
    refine i_aload_n C 13 rfl rfl rfl hl 1 rfl ?_
    refine tg_Dr_18_Br C 14 rfl rfl h hbq hbk ?_
    refine i_icmp_ge (tgt := 36) C 15 rfl rfl rfl (fun c3 => ?_) (fun c3 => ?_)
    · replace hw := hw.1 c3
      refine i_iconst (v := (0 : Int32)) C 20 rfl rfl rfl ?_
      exact hret _ _ _ rfl hw (C.dg (k := 21) rfl)
    · replace hw := hw.2 c3
      refine i_aload_n C 16 rfl rfl rfl hl 1 rfl ?_
      refine i_iload_n C 17 rfl rfl rfl hl 0 rfl ?_
      obtain ⟨q04, he5, -⟩ := wC_th (cy := cy) (ad := ad) (I := I) (A := A) (T := T) (F := F) hbq hbk
      refine i_callUp (rest := []) (ci := 0) (qc := (R_Br, T_Br, 6)) C 18 rfl rfl hl h rfl he5 (kU_Dr_21_Br ⟨by decide, by decide⟩) (m_Br_takesIn_Br hbq hbk hw) rfl rfl (by decide) ⟨by decide, by decide⟩ (fun r6 hw => ?_)
      refine i_goto (tgt := 37) C 19 rfl rfl ?_
      exact hret _ _ _ rfl hw (C.dg (k := 21) rfl)
end S54
section S55
variable {p : Program} {l : Launch} {e : Env} {R : Room} {s : State} {m : MethodId} {args : Array Value} {below : List Frame} {meth : Method} {c : Code} {H : Heap} {locs : List Loc} {cells slots : Nat} {Q : State → Prop}
variable {cc : ByteArray} {pc n nL : Nat} {ls : Array Slot} {rest : List Value} {D : va_G} {cy : Nat → ClassId} {Z : Nat → Prop} {ad : Nat → Nat} {tb : List (Nat × Instr × Nat)} {lv : List (Nat × Value)}
def g_Dr_takesIn_Dr (F : Nat → Nat → Int32) (b : Nat) (a1 : Int32) (P : Int32 → Prop) : Prop := P (F b 0)
set_option maxHeartbeats 4000000 in
set_option maxRecDepth 100000 in
theorem m_Dr_takesIn_Dr {l : Launch} {D : va_G} {cy : Nat → ClassId} {ad : Nat → Nat} {I : Nat → Int32} {A : Nat → Nat → Int32} {T : Nat → Option Nat} {L : List Nat} {K : Nat → Nat} {F : Nat → Nat → Int32} {b : Nat} {a1 : Int32} {P : Int32 → Prop} (hbq : b ∈ L) (hbk : K b = 1) (hw : g_Dr_takesIn_Dr F b a1 P) : ∀ sz, Met l y_Dr_takesIn (WL y_Dr_takesIn c_Dr_takesIn 2 (some .int)) { frames := 0, cells := 0, slots := 0, locals := 0 } (va_Pc [.ref b, .int a1] (PreW D cy (wC cy ad I A T L K F) sz)) (vp_Si P) 0 0 (fun _ => False) := by
  refine met_p R_Dr .int db_Dr_takesIn (by decide) rfl rfl (by decide) ?_
  intro p e s m below meth c Z Q ls C h hl hret
  have hl : lv_has ls 2 [(0, .ref b), (1, .int a1)] := hl
  refine i_aload_n C 0 rfl rfl rfl hl 0 rfl ?_
  refine tg_Dr_9_Dr C 1 rfl rfl h hbq hbk ?_
  exact hret _ _ _ rfl hw (C.dg (k := 2) rfl)
end S55
theorem kV_Dr_21_Dr {R : Room} {s : State} {args : Array Value} (hR : 0 + 1 ≤ R.frames ∧ 8 + (2 + 11) + 0 ≤ R.locals) (ht : ∀ w ∈ GW, w.before args s = true) : CallW R s args R_Dr R_Dr 21 y_Dr_takesIn c_Dr_takesIn 2 (some .int) (WL y_Dr_takesIn c_Dr_takesIn 2 (some .int)) { frames := 0, cells := 0, slots := 0, locals := 0 } 0 0 1 := cwV 1 ht (GW_v w_187 w_191 w_193 w_104 (GW_wl w_192)) rfl rfl rfl (by decide +kernel) hR
section S56
variable {p : Program} {l : Launch} {e : Env} {R : Room} {s : State} {m : MethodId} {args : Array Value} {below : List Frame} {meth : Method} {c : Code} {H : Heap} {locs : List Loc} {cells slots : Nat} {Q : State → Prop}
variable {cc : ByteArray} {pc n nL : Nat} {ls : Array Slot} {rest : List Value} {D : va_G} {cy : Nat → ClassId} {Z : Nat → Prop} {ad : Nat → Nat} {tb : List (Nat × Instr × Nat)} {lv : List (Nat × Value)}
def g_Dr_takes_Dr (F : Nat → Nat → Int32) (b : Nat) (a1 : Int32) (a2 : Int32) (P : Int32 → Prop) : Prop := ∀ y1 : Int32, y1 = a1 / (4 : Int32) → (((y1 - y1 / (1440 : Int32) * (1440 : Int32)) < (F b 1) → (P (0 : Int32))) ∧ (¬ (y1 - y1 / (1440 : Int32) * (1440 : Int32)) < (F b 1) → (((F b 2) ≤ (y1 - y1 / (1440 : Int32) * (1440 : Int32)) → (P (0 : Int32))) ∧ (¬ (F b 2) ≤ (y1 - y1 / (1440 : Int32) * (1440 : Int32)) → (g_Dr_takesIn_Dr F b y1 (fun r6 => (P r6)))))))
set_option maxHeartbeats 4000000 in
set_option maxRecDepth 100000 in
theorem m_Dr_takes_Dr {l : Launch} {D : va_G} {cy : Nat → ClassId} {ad : Nat → Nat} {I : Nat → Int32} {A : Nat → Nat → Int32} {T : Nat → Option Nat} {L : List Nat} {K : Nat → Nat} {F : Nat → Nat → Int32} {b : Nat} {a1 : Int32} {a2 : Int32} {P : Int32 → Prop} (hbq : b ∈ L) (hbk : K b = 1) (hw : g_Dr_takes_Dr F b a1 a2 P) : ∀ sz, Met l y_Dr_takes (WL y_Dr_takes c_Dr_takes 4 (some .int)) { frames := 1, cells := 0, slots := 0, locals := 21 } (va_Pc [.ref b, .int a1, .int a2] (PreW D cy (wC cy ad I A T L K F) sz)) (vp_Si P) 0 0 (fun _ => False) := by
  refine met_p R_Dr .int db_Dr_takes (by decide) rfl rfl (by decide) ?_
  intro p e s m below meth c Z Q ls C h hl hret
  have hl : lv_has ls 4 [(0, .ref b), (1, .int a1), (2, .int a2)] := hl
  refine i_iload_n C 0 rfl rfl rfl hl 1 rfl ?_
  refine i_iconst (v := (4 : Int32)) C 1 rfl rfl rfl ?_
  refine i_idiv C 2 rfl rfl (by decide) ?_
  refine lv_topi (fun y1 ey1 => ?_)
  replace hw := hw y1 ey1
  refine i_istore_n (lv' := [(3, .int y1), (0, .ref b), (1, .int a1), (2, .int a2)]) C 3 rfl rfl rfl hl (by decide) rfl (fun ls hl => ?_)
  refine i_iload_n C 4 rfl rfl rfl hl 0 rfl ?_
  refine i_sipush (v := (1440 : Int32)) C 5 rfl rfl rfl ?_
  refine i_irem C 6 rfl rfl (by decide) ?_
  refine i_aload_n C 7 rfl rfl rfl hl 1 rfl ?_
  refine tg_Dr_15_Dr C 8 rfl rfl h hbq hbk ?_
  refine i_icmp_lt (tgt := 36) C 9 rfl rfl rfl (fun c2 => ?_) (fun c2 => ?_)
  · replace hw := hw.1 c2
    refine i_iconst (v := (0 : Int32)) C 20 rfl rfl rfl ?_
    exact hret _ _ _ rfl hw (C.dg (k := 21) rfl)
  · replace hw := hw.2 c2
    refine i_iload_n C 10 rfl rfl rfl hl 0 rfl ?_
    refine i_sipush (v := (1440 : Int32)) C 11 rfl rfl rfl ?_
    refine i_irem C 12 rfl rfl (by decide) ?_
    refine i_aload_n C 13 rfl rfl rfl hl 1 rfl ?_
    refine tg_Dr_18_Dr C 14 rfl rfl h hbq hbk ?_
    refine i_icmp_ge (tgt := 36) C 15 rfl rfl rfl (fun c3 => ?_) (fun c3 => ?_)
    · replace hw := hw.1 c3
      refine i_iconst (v := (0 : Int32)) C 20 rfl rfl rfl ?_
      exact hret _ _ _ rfl hw (C.dg (k := 21) rfl)
    · replace hw := hw.2 c3
      refine i_aload_n C 16 rfl rfl rfl hl 1 rfl ?_
      refine i_iload_n C 17 rfl rfl rfl hl 0 rfl ?_
      obtain ⟨q04, he5, -⟩ := wC_th (cy := cy) (ad := ad) (I := I) (A := A) (T := T) (F := F) hbq hbk
      refine i_callVp (rest := []) (ci := 1) (qc := (R_Dr, T_Dr, 3)) C 18 rfl rfl hl h rfl he5 (kV_Dr_21_Dr ⟨by decide, by decide⟩) (m_Dr_takesIn_Dr hbq hbk hw) rfl rfl (by decide) ⟨by decide, by decide⟩ (fun r6 hw => ?_)
      refine i_goto (tgt := 37) C 19 rfl rfl ?_
      exact hret _ _ _ rfl hw (C.dg (k := 21) rfl)
end S56
section S57
variable {p : Program} {l : Launch} {e : Env} {R : Room} {s : State} {m : MethodId} {args : Array Value} {below : List Frame} {meth : Method} {c : Code} {H : Heap} {locs : List Loc} {cells slots : Nat} {Q : State → Prop}
variable {cc : ByteArray} {pc n nL : Nat} {ls : Array Slot} {rest : List Value} {D : va_G} {cy : Nat → ClassId} {Z : Nat → Prop} {ad : Nat → Nat} {tb : List (Nat × Instr × Nat)} {lv : List (Nat × Value)}
def g_Ho_takes (a1 : Int32) (a2 : Int32) (P : Int32 → Prop) : Prop := P (0 : Int32)
set_option maxHeartbeats 4000000 in
set_option maxRecDepth 100000 in
theorem m_Ho_takes {l : Launch} {D : va_G} {cy : Nat → ClassId} {ad : Nat → Nat}  {a1 : Int32} {a2 : Int32} {b : Nat} {w : va_W} {P : Int32 → Prop} (hw : g_Ho_takes a1 a2 P) : ∀ sz, Met l y_Ho_takes (WL y_Ho_takes c_Ho_takes 3 (some .int)) { frames := 0, cells := 0, slots := 0, locals := 0 } (va_Pc [.ref b, .int a1, .int a2] (PreW D cy (w) sz)) (vp_Si P) 0 0 (fun _ => False) := by
  refine met_p R_Ho .int db_Ho_takes (by decide) rfl rfl (by decide) ?_
  intro p e s m below meth c Z Q ls C h hl hret
  have hl : lv_has ls 3 [(0, .ref b), (1, .int a1), (2, .int a2)] := hl
  refine i_iconst (v := (0 : Int32)) C 0 rfl rfl rfl ?_
  exact hret _ _ _ rfl hw (C.dg (k := 1) rfl)
end S57
section S58
variable {p : Program} {l : Launch} {e : Env} {R : Room} {s : State} {m : MethodId} {args : Array Value} {below : List Frame} {meth : Method} {c : Code} {H : Heap} {locs : List Loc} {cells slots : Nat} {Q : State → Prop}
variable {cc : ByteArray} {pc n nL : Nat} {ls : Array Slot} {rest : List Value} {D : va_G} {cy : Nat → ClassId} {Z : Nat → Prop} {ad : Nat → Nat} {tb : List (Nat × Instr × Nat)} {lv : List (Nat × Value)}
def g_Le_takes_Le_18 (F : Nat → Nat → Int32) (b : Nat) (a1 : Int32) (a2 : Int32) (P : Int32 → Prop)  (s0 : Int32) : Prop := ((F b 1) = 0 → (P s0)) ∧ (¬ (F b 1) = 0 → (P ((2 : Int32) * s0)))
set_option maxHeartbeats 4000000 in
set_option maxRecDepth 100000 in
theorem e_Le_takes_Le_18 {I : Nat → Int32} {A : Nat → Nat → Int32} {T : Nat → Option Nat} {L : List Nat} {K : Nat → Nat} {F : Nat → Nat → Int32} {b : Nat} {a1 : Int32} {a2 : Int32} {P : Int32 → Prop}  (C : CX D cy R_Le c_Le_takes tb_Le_takes 4 p s m args c Z) (h : HXw D Z s.heap H locs (wC cy ad I A T L K F)) (hbq : b ∈ L) (hbk : K b = 3) (hret : RetP p l e { frames := 0, cells := 0, slots := 0, locals := 0 } s m args below meth c c_Le_takes .int H locs Q P) :
    ∀ (s0 : Int32) (ls : Array Slot), lv_has ls 4 [(0, .ref b)] → g_Le_takes_Le_18 F b a1 a2 P  s0 → W p l e { frames := 0, cells := 0, slots := 0, locals := 0 } s m args below meth c H locs 0 0 Q (F0 m 18 ls [.int s0]) := by
  intro s0 ls hl hw
  refine i_istore_n (lv' := [(3, .int s0), (0, .ref b)]) C 10 rfl rfl rfl hl (by decide) rfl (fun ls hl => ?_)
  refine i_aload_n C 11 rfl rfl rfl hl 1 rfl ?_
  refine tg_Le_13_Le C 12 rfl rfl h hbq hbk ?_
  refine i_if_eq (tgt := 32) C 13 rfl rfl rfl (fun c2 => ?_) (fun c2 => ?_)
  · replace hw := hw.1 c2
    refine i_iload_n C 18 rfl rfl rfl hl 0 rfl ?_
    exact hret _ _ _ rfl hw (C.dg (k := 19) rfl)
  · replace hw := hw.2 c2
    refine i_iconst (v := (2 : Int32)) C 14 rfl rfl rfl ?_
    refine i_iload_n C 15 rfl rfl rfl hl 0 rfl ?_
    refine i_imul C 16 rfl rfl ?_
    refine i_goto (tgt := 33) C 17 rfl rfl ?_
    exact hret _ _ _ rfl hw (C.dg (k := 19) rfl)
def g_Le_takes_Le (F : Nat → Nat → Int32) (b : Nat) (a1 : Int32) (a2 : Int32) (P : Int32 → Prop) : Prop := (0 ≤ a2 → (g_Le_takes_Le_18 F b a1 a2 P  (((F b 0) * a2) / (1000 : Int32)))) ∧ (¬ 0 ≤ a2 → (g_Le_takes_Le_18 F b a1 a2 P  (0 : Int32)))
set_option maxHeartbeats 4000000 in
set_option maxRecDepth 100000 in
theorem m_Le_takes_Le {l : Launch} {D : va_G} {cy : Nat → ClassId} {ad : Nat → Nat} {I : Nat → Int32} {A : Nat → Nat → Int32} {T : Nat → Option Nat} {L : List Nat} {K : Nat → Nat} {F : Nat → Nat → Int32} {b : Nat} {a1 : Int32} {a2 : Int32} {P : Int32 → Prop} (hbq : b ∈ L) (hbk : K b = 3) (hw : g_Le_takes_Le F b a1 a2 P) : ∀ sz, Met l y_Le_takes (WL y_Le_takes c_Le_takes 4 (some .int)) { frames := 0, cells := 0, slots := 0, locals := 0 } (va_Pc [.ref b, .int a1, .int a2] (PreW D cy (wC cy ad I A T L K F) sz)) (vp_Si P) 0 0 (fun _ => False) := by
  refine met_p R_Le .int db_Le_takes (by decide) rfl rfl (by decide) ?_
  intro p e s m below meth c Z Q ls C h hl hret
  have hl : lv_has ls 4 [(0, .ref b), (1, .int a1), (2, .int a2)] := hl
  refine i_iload_n C 0 rfl rfl rfl hl 2 rfl ?_
  refine i_if_ge (tgt := 8) C 1 rfl rfl rfl (fun c1 => ?_) (fun c1 => ?_)
  · replace hw := hw.1 c1
    refine i_aload_n C 4 rfl rfl rfl hl 0 rfl ?_
    refine tg_Le_7_Le C 5 rfl rfl h hbq hbk ?_
    refine i_iload_n C 6 rfl rfl rfl hl 2 rfl ?_
    refine i_imul C 7 rfl rfl ?_
    refine i_sipush (v := (1000 : Int32)) C 8 rfl rfl rfl ?_
    refine i_idiv C 9 rfl rfl (by decide) ?_
    exact e_Le_takes_Le_18 C h hbq hbk hret  (((F b 0) * a2) / (1000 : Int32)) ls (lv_sub hl [0] rfl) hw
  · replace hw := hw.2 c1
    refine i_iconst (v := (0 : Int32)) C 2 rfl rfl rfl ?_
    refine i_goto (tgt := 18) C 3 rfl rfl ?_
    exact e_Le_takes_Le_18 C h hbq hbk hret  (0 : Int32) ls (lv_sub hl [0] rfl) hw
end S58
section S59
variable {p : Program} {l : Launch} {e : Env} {R : Room} {s : State} {m : MethodId} {args : Array Value} {below : List Frame} {meth : Method} {c : Code} {H : Heap} {locs : List Loc} {cells slots : Nat} {Q : State → Prop}
variable {cc : ByteArray} {pc n nL : Nat} {ls : Array Slot} {rest : List Value} {D : va_G} {cy : Nat → ClassId} {Z : Nat → Prop} {ad : Nat → Nat} {tb : List (Nat × Instr × Nat)} {lv : List (Nat × Value)}
def g_Li_takesIn_Li (F : Nat → Nat → Int32) (b : Nat) (a1 : Int32) (P : Int32 → Prop) : Prop := ∀ y1 : Int32, y1 = (a1 - a1 / (1440 : Int32) * (1440 : Int32)) / (60 : Int32) → (P ((F b 0) * (((F b 3) + ((3 : Int32) * y1)) - ((F b 3) + ((3 : Int32) * y1)) / (7 : Int32) * (7 : Int32))))
set_option maxHeartbeats 4000000 in
set_option maxRecDepth 100000 in
theorem m_Li_takesIn_Li {l : Launch} {D : va_G} {cy : Nat → ClassId} {ad : Nat → Nat} {I : Nat → Int32} {A : Nat → Nat → Int32} {T : Nat → Option Nat} {L : List Nat} {K : Nat → Nat} {F : Nat → Nat → Int32} {b : Nat} {a1 : Int32} {P : Int32 → Prop} (hbq : b ∈ L) (hbk : K b = 4) (hw : g_Li_takesIn_Li F b a1 P) : ∀ sz, Met l y_Li_takesIn (WL y_Li_takesIn c_Li_takesIn 3 (some .int)) { frames := 0, cells := 0, slots := 0, locals := 0 } (va_Pc [.ref b, .int a1] (PreW D cy (wC cy ad I A T L K F) sz)) (vp_Si P) 0 0 (fun _ => False) := by
  refine met_p R_Li .int db_Li_takesIn (by decide) rfl rfl (by decide) ?_
  intro p e s m below meth c Z Q ls C h hl hret
  have hl : lv_has ls 3 [(0, .ref b), (1, .int a1)] := hl
  refine i_iload_n C 0 rfl rfl rfl hl 1 rfl ?_
  refine i_sipush (v := (1440 : Int32)) C 1 rfl rfl rfl ?_
  refine i_irem C 2 rfl rfl (by decide) ?_
  refine i_bipush (v := (60 : Int32)) C 3 rfl rfl rfl ?_
  refine i_idiv C 4 rfl rfl (by decide) ?_
  refine lv_topi (fun y1 ey1 => ?_)
  replace hw := hw y1 ey1
  refine i_istore_n (lv' := [(2, .int y1), (0, .ref b), (1, .int a1)]) C 5 rfl rfl rfl hl (by decide) rfl (fun ls hl => ?_)
  refine i_aload_n C 6 rfl rfl rfl hl 1 rfl ?_
  refine tg_Li_15_Li C 7 rfl rfl h hbq hbk ?_
  refine i_aload_n C 8 rfl rfl rfl hl 1 rfl ?_
  refine tg_Li_9_Li C 9 rfl rfl h hbq hbk ?_
  refine i_iconst (v := (3 : Int32)) C 10 rfl rfl rfl ?_
  refine i_iload_n C 11 rfl rfl rfl hl 0 rfl ?_
  refine i_imul C 12 rfl rfl ?_
  refine i_iadd C 13 rfl rfl ?_
  refine i_bipush (v := (7 : Int32)) C 14 rfl rfl rfl ?_
  refine i_irem C 15 rfl rfl (by decide) ?_
  refine i_imul C 16 rfl rfl ?_
  exact hret _ _ _ rfl hw (C.dg (k := 17) rfl)
end S59
theorem kU_Dr_21_Li {R : Room} {s : State} {args : Array Value} (hR : 0 + 1 ≤ R.frames ∧ 8 + (3 + 11) + 0 ≤ R.locals) (ht : ∀ w ∈ GW, w.before args s = true) (hN : NX s) : va_CU R s args R_Dr R_Li "PipeWorks$Draw" 21 ⟨"PipeWorks$Draw", "takesIn", "(I)I"⟩ y_Li_takesIn c_Li_takesIn 3 (some .int) (WL y_Li_takesIn c_Li_takesIn 3 (some .int)) { frames := 0, cells := 0, slots := 0, locals := 0 } 0 0 1 := va_cwO (x := ⟨"PipeWorks$Draw", "takesIn", "(I)I"⟩) 1 ht (GW_o (x := ⟨"PipeWorks$Draw", "takesIn", "(I)I"⟩) w_187 w_188 w_191 w_197 w_198 w_119 (GW_wl w_196)) rfl rfl rfl (by decide +kernel) hR
section S60
variable {p : Program} {l : Launch} {e : Env} {R : Room} {s : State} {m : MethodId} {args : Array Value} {below : List Frame} {meth : Method} {c : Code} {H : Heap} {locs : List Loc} {cells slots : Nat} {Q : State → Prop}
variable {cc : ByteArray} {pc n nL : Nat} {ls : Array Slot} {rest : List Value} {D : va_G} {cy : Nat → ClassId} {Z : Nat → Prop} {ad : Nat → Nat} {tb : List (Nat × Instr × Nat)} {lv : List (Nat × Value)}
def g_Dr_takes_Li (F : Nat → Nat → Int32) (b : Nat) (a1 : Int32) (a2 : Int32) (P : Int32 → Prop) : Prop := ∀ y1 : Int32, y1 = a1 / (4 : Int32) → (((y1 - y1 / (1440 : Int32) * (1440 : Int32)) < (F b 1) → (P (0 : Int32))) ∧ (¬ (y1 - y1 / (1440 : Int32) * (1440 : Int32)) < (F b 1) → (((F b 2) ≤ (y1 - y1 / (1440 : Int32) * (1440 : Int32)) → (P (0 : Int32))) ∧ (¬ (F b 2) ≤ (y1 - y1 / (1440 : Int32) * (1440 : Int32)) → (g_Li_takesIn_Li F b y1 (fun r6 => (P r6)))))))
set_option maxHeartbeats 4000000 in
set_option maxRecDepth 100000 in
theorem m_Dr_takes_Li {l : Launch} {D : va_G} {cy : Nat → ClassId} {ad : Nat → Nat} {I : Nat → Int32} {A : Nat → Nat → Int32} {T : Nat → Option Nat} {L : List Nat} {K : Nat → Nat} {F : Nat → Nat → Int32} {b : Nat} {a1 : Int32} {a2 : Int32} {P : Int32 → Prop} (hbq : b ∈ L) (hbk : K b = 4) (hw : g_Dr_takes_Li F b a1 a2 P) : ∀ sz, Met l y_Dr_takes (WL y_Dr_takes c_Dr_takes 4 (some .int)) { frames := 1, cells := 0, slots := 0, locals := 22 } (va_Pc [.ref b, .int a1, .int a2] (PreW D cy (wC cy ad I A T L K F) sz)) (vp_Si P) 0 0 (fun _ => False) := by
  refine met_p R_Dr .int db_Dr_takes (by decide) rfl rfl (by decide) ?_
  intro p e s m below meth c Z Q ls C h hl hret
  have hl : lv_has ls 4 [(0, .ref b), (1, .int a1), (2, .int a2)] := hl
  refine i_iload_n C 0 rfl rfl rfl hl 1 rfl ?_
  refine i_iconst (v := (4 : Int32)) C 1 rfl rfl rfl ?_
  refine i_idiv C 2 rfl rfl (by decide) ?_
  refine lv_topi (fun y1 ey1 => ?_)
  replace hw := hw y1 ey1
  refine i_istore_n (lv' := [(3, .int y1), (0, .ref b), (1, .int a1), (2, .int a2)]) C 3 rfl rfl rfl hl (by decide) rfl (fun ls hl => ?_)
  refine i_iload_n C 4 rfl rfl rfl hl 0 rfl ?_
  refine i_sipush (v := (1440 : Int32)) C 5 rfl rfl rfl ?_
  refine i_irem C 6 rfl rfl (by decide) ?_
  refine i_aload_n C 7 rfl rfl rfl hl 1 rfl ?_
  refine tg_Dr_15_Li C 8 rfl rfl h hbq hbk ?_
  refine i_icmp_lt (tgt := 36) C 9 rfl rfl rfl (fun c2 => ?_) (fun c2 => ?_)
  · replace hw := hw.1 c2
    refine i_iconst (v := (0 : Int32)) C 20 rfl rfl rfl ?_
    exact hret _ _ _ rfl hw (C.dg (k := 21) rfl)
  · replace hw := hw.2 c2
    refine i_iload_n C 10 rfl rfl rfl hl 0 rfl ?_
    refine i_sipush (v := (1440 : Int32)) C 11 rfl rfl rfl ?_
    refine i_irem C 12 rfl rfl (by decide) ?_
    refine i_aload_n C 13 rfl rfl rfl hl 1 rfl ?_
    refine tg_Dr_18_Li C 14 rfl rfl h hbq hbk ?_
    refine i_icmp_ge (tgt := 36) C 15 rfl rfl rfl (fun c3 => ?_) (fun c3 => ?_)
    · replace hw := hw.1 c3
      refine i_iconst (v := (0 : Int32)) C 20 rfl rfl rfl ?_
      exact hret _ _ _ rfl hw (C.dg (k := 21) rfl)
    · replace hw := hw.2 c3
      refine i_aload_n C 16 rfl rfl rfl hl 1 rfl ?_
      refine i_iload_n C 17 rfl rfl rfl hl 0 rfl ?_
      obtain ⟨q04, he5, -⟩ := wC_th (cy := cy) (ad := ad) (I := I) (A := A) (T := T) (F := F) hbq hbk
      refine i_callUp (rest := []) (ci := 4) (qc := (R_Li, T_Li, 4)) C 18 rfl rfl hl h rfl he5 (kU_Dr_21_Li ⟨by decide, by decide⟩) (m_Li_takesIn_Li hbq hbk hw) rfl rfl (by decide) ⟨by decide, by decide⟩ (fun r6 hw => ?_)
      refine i_goto (tgt := 37) C 19 rfl rfl ?_
      exact hret _ _ _ rfl hw (C.dg (k := 21) rfl)
end S60
section S61
variable {p : Program} {l : Launch} {e : Env} {R : Room} {s : State} {m : MethodId} {args : Array Value} {below : List Frame} {meth : Method} {c : Code} {H : Heap} {locs : List Loc} {cells slots : Nat} {Q : State → Prop}
variable {cc : ByteArray} {pc n nL : Nat} {ls : Array Slot} {rest : List Value} {D : va_G} {cy : Nat → ClassId} {Z : Nat → Prop} {ad : Nat → Nat} {tb : List (Nat × Instr × Nat)} {lv : List (Nat × Value)}
def g_To_takes_To (F : Nat → Nat → Int32) (b : Nat) (a1 : Int32) (a2 : Int32) (P : Int32 → Prop) : Prop := (¬ (F b 2) = 0 → (P (0 : Int32))) ∧ ((F b 2) = 0 → (P (10 : Int32)))
set_option maxHeartbeats 4000000 in
set_option maxRecDepth 100000 in
theorem m_To_takes_To {l : Launch} {D : va_G} {cy : Nat → ClassId} {ad : Nat → Nat} {I : Nat → Int32} {A : Nat → Nat → Int32} {T : Nat → Option Nat} {L : List Nat} {K : Nat → Nat} {F : Nat → Nat → Int32} {b : Nat} {a1 : Int32} {a2 : Int32} {P : Int32 → Prop} (hbq : b ∈ L) (hbk : K b = 9) (hw : g_To_takes_To F b a1 a2 P) : ∀ sz, Met l y_To_takes (WL y_To_takes c_To_takes 3 (some .int)) { frames := 0, cells := 0, slots := 0, locals := 0 } (va_Pc [.ref b, .int a1, .int a2] (PreW D cy (wC cy ad I A T L K F) sz)) (vp_Si P) 0 0 (fun _ => False) := by
  refine met_p R_To .int db_To_takes (by decide) rfl rfl (by decide) ?_
  intro p e s m below meth c Z Q ls C h hl hret
  have hl : lv_has ls 3 [(0, .ref b), (1, .int a1), (2, .int a2)] := hl
  refine i_aload_n C 0 rfl rfl rfl hl 0 rfl ?_
  refine tg_To_16_To C 1 rfl rfl h hbq hbk ?_
  refine i_if_ne (tgt := 12) C 2 rfl rfl rfl (fun c1 => ?_) (fun c1 => ?_)
  · replace hw := hw.1 c1
    refine i_iconst (v := (0 : Int32)) C 5 rfl rfl rfl ?_
    exact hret _ _ _ rfl hw (C.dg (k := 6) rfl)
  · replace hw := hw.2 c1
    refine i_bipush (v := (10 : Int32)) C 3 rfl rfl rfl ?_
    refine i_goto (tgt := 13) C 4 rfl rfl ?_
    exact hret _ _ _ rfl hw (C.dg (k := 6) rfl)
end S61
theorem kV_Ne_64 {R : Room} {s : State} {args : Array Value} (hR : 0 + 1 ≤ R.frames ∧ 8 + (2 + 11) + 0 ≤ R.locals) (ht : ∀ w ∈ GW, w.before args s = true) : CallW R s args R_Ne R_Ne 64 y_Ne_pressAt c_Ne_pressAt 2 (some .int) (WL y_Ne_pressAt c_Ne_pressAt 2 (some .int)) { frames := 0, cells := 0, slots := 0, locals := 0 } 0 0 1 := cwV 1 ht (GW_v w_200 w_201 w_202 w_13 (GW_wl w_199)) rfl rfl rfl (by decide +kernel) hR
theorem kU_Ne_68_Br {R : Room} {s : State} {args : Array Value} (hR : 1 + 1 ≤ R.frames ∧ 8 + (4 + 11) + 21 ≤ R.locals) (ht : ∀ w ∈ GW, w.before args s = true) (hN : NX s) : va_CU R s args R_Ne R_Br "PipeWorks$Thing" 68 ⟨"PipeWorks$Thing", "takes", "(II)I"⟩ y_Dr_takes c_Dr_takes 4 (some .int) (WL y_Dr_takes c_Dr_takes 4 (some .int)) { frames := 1, cells := 0, slots := 0, locals := 21 } 0 0 2 := va_cwO (x := ⟨"PipeWorks$Thing", "takes", "(II)I"⟩) 2 ht (GW_o (x := ⟨"PipeWorks$Thing", "takes", "(II)I"⟩) w_204 w_205 w_208 w_206 w_207 w_104 (GW_wl w_203)) rfl rfl rfl (by decide +kernel) hR
theorem kU_Ne_68_Dr {R : Room} {s : State} {args : Array Value} (hR : 1 + 1 ≤ R.frames ∧ 8 + (4 + 11) + 21 ≤ R.locals) (ht : ∀ w ∈ GW, w.before args s = true) (hN : NX s) : va_CU R s args R_Ne R_Dr "PipeWorks$Thing" 68 ⟨"PipeWorks$Thing", "takes", "(II)I"⟩ y_Dr_takes c_Dr_takes 4 (some .int) (WL y_Dr_takes c_Dr_takes 4 (some .int)) { frames := 1, cells := 0, slots := 0, locals := 21 } 0 0 2 := va_cwO (x := ⟨"PipeWorks$Thing", "takes", "(II)I"⟩) 2 ht (GW_o (x := ⟨"PipeWorks$Thing", "takes", "(II)I"⟩) w_204 w_205 w_208 w_209 w_207 w_104 (GW_wl w_203)) rfl rfl rfl (by decide +kernel) hR
theorem kU_Ne_68_Ho {R : Room} {s : State} {args : Array Value} (hR : 0 + 1 ≤ R.frames ∧ 8 + (3 + 11) + 0 ≤ R.locals) (ht : ∀ w ∈ GW, w.before args s = true) (hN : NX s) : va_CU R s args R_Ne R_Ho "PipeWorks$Thing" 68 ⟨"PipeWorks$Thing", "takes", "(II)I"⟩ y_Ho_takes c_Ho_takes 3 (some .int) (WL y_Ho_takes c_Ho_takes 3 (some .int)) { frames := 0, cells := 0, slots := 0, locals := 0 } 0 0 2 := va_cwO (x := ⟨"PipeWorks$Thing", "takes", "(II)I"⟩) 2 ht (GW_o (x := ⟨"PipeWorks$Thing", "takes", "(II)I"⟩) w_204 w_205 w_208 w_211 w_212 w_148 (GW_wl w_210)) rfl rfl rfl (by decide +kernel) hR
theorem kU_Ne_68_Le {R : Room} {s : State} {args : Array Value} (hR : 0 + 1 ≤ R.frames ∧ 8 + (4 + 11) + 0 ≤ R.locals) (ht : ∀ w ∈ GW, w.before args s = true) (hN : NX s) : va_CU R s args R_Ne R_Le "PipeWorks$Thing" 68 ⟨"PipeWorks$Thing", "takes", "(II)I"⟩ y_Le_takes c_Le_takes 4 (some .int) (WL y_Le_takes c_Le_takes 4 (some .int)) { frames := 0, cells := 0, slots := 0, locals := 0 } 0 0 2 := va_cwO (x := ⟨"PipeWorks$Thing", "takes", "(II)I"⟩) 2 ht (GW_o (x := ⟨"PipeWorks$Thing", "takes", "(II)I"⟩) w_204 w_205 w_208 w_214 w_215 w_156 (GW_wl w_213)) rfl rfl rfl (by decide +kernel) hR
theorem kU_Ne_68_Li {R : Room} {s : State} {args : Array Value} (hR : 1 + 1 ≤ R.frames ∧ 8 + (4 + 11) + 22 ≤ R.locals) (ht : ∀ w ∈ GW, w.before args s = true) (hN : NX s) : va_CU R s args R_Ne R_Li "PipeWorks$Thing" 68 ⟨"PipeWorks$Thing", "takes", "(II)I"⟩ y_Dr_takes c_Dr_takes 4 (some .int) (WL y_Dr_takes c_Dr_takes 4 (some .int)) { frames := 1, cells := 0, slots := 0, locals := 22 } 0 0 2 := va_cwO (x := ⟨"PipeWorks$Thing", "takes", "(II)I"⟩) 2 ht (GW_o (x := ⟨"PipeWorks$Thing", "takes", "(II)I"⟩) w_204 w_205 w_208 w_216 w_207 w_104 (GW_wl w_203)) rfl rfl rfl (by decide +kernel) hR
theorem kU_Ne_68_To {R : Room} {s : State} {args : Array Value} (hR : 0 + 1 ≤ R.frames ∧ 8 + (3 + 11) + 0 ≤ R.locals) (ht : ∀ w ∈ GW, w.before args s = true) (hN : NX s) : va_CU R s args R_Ne R_To "PipeWorks$Thing" 68 ⟨"PipeWorks$Thing", "takes", "(II)I"⟩ y_To_takes c_To_takes 3 (some .int) (WL y_To_takes c_To_takes 3 (some .int)) { frames := 0, cells := 0, slots := 0, locals := 0 } 0 0 2 := va_cwO (x := ⟨"PipeWorks$Thing", "takes", "(II)I"⟩) 2 ht (GW_o (x := ⟨"PipeWorks$Thing", "takes", "(II)I"⟩) w_204 w_205 w_208 w_218 w_219 w_138 (GW_wl w_217)) rfl rfl rfl (by decide +kernel) hR
section S62
variable {p : Program} {l : Launch} {e : Env} {R : Room} {s : State} {m : MethodId} {args : Array Value} {below : List Frame} {meth : Method} {c : Code} {H : Heap} {locs : List Loc} {cells slots : Nat} {Q : State → Prop}
variable {cc : ByteArray} {pc n nL : Nat} {ls : Array Slot} {rest : List Value} {D : va_G} {cy : Nat → ClassId} {Z : Nat → Prop} {ad : Nat → Nat} {tb : List (Nat × Instr × Nat)} {lv : List (Nat × Value)}
section G62
variable {I : Nat → Int32} {A : Nat → Nat → Int32} {T : Nat → Option Nat} {L : List Nat} {K : Nat → Nat} {F : Nat → Nat → Int32}
def gd_takes (L : List Nat) (K : Nat → Nat) (F : Nat → Nat → Int32) (q : Nat) (a1 : Int32) (a2 : Int32) (P : Int32 → Prop) : Prop := q ∈ L ∧ ((K q = 0 ∧ g_Dr_takes_Br F q a1 a2 P) ∨ (K q = 1 ∧ g_Dr_takes_Dr F q a1 a2 P) ∨ (K q = 2 ∧ g_Ho_takes a1 a2 P) ∨ (K q = 3 ∧ g_Le_takes_Le F q a1 a2 P) ∨ (K q = 4 ∧ g_Dr_takes_Li F q a1 a2 P) ∨ (K q = 9 ∧ g_To_takes_To F q a1 a2 P))
set_option maxHeartbeats 4000000 in
set_option maxRecDepth 100000 in
theorem gdc_Ne_68 {q : Nat} {a1 : Int32} {a2 : Int32} {P : Int32 → Prop} (C : CX D cy R_Ne cc tb nL p s m args c Z) (k : Nat) (hk : tb[k]? = some (pc, .invokevirtual 68, 3)) (hn : pc + 3 = n) (hl : lv_has ls nL lv) (h : HXw D Z s.heap H locs (wC cy ad I A T L K F)) (hw : gd_takes L K F q a1 a2 P) (hfr : 2 ≤ R.frames) (hlo : 45 ≤ R.locals) (hs : (rest.map fun v => v.category).sum ≤ 8) (hc : cells ≤ R.cells ∧ slots ≤ R.slots) (kk : ∀ r : Int32, P r → W p l e R s m args below meth c H locs cells slots Q (F0 m n ls (.int r :: rest))) : W p l e R s m args below meth c H locs cells slots Q (F0 m pc ls (.int a2 :: .int a1 :: .ref q :: rest)) := by
  obtain ⟨hq, hw⟩ := hw
  rcases hw with ⟨hk0, hw⟩ | ⟨hk0, hw⟩ | ⟨hk0, hw⟩ | ⟨hk0, hw⟩ | ⟨hk0, hw⟩ | ⟨hk0, hw⟩
  · obtain ⟨q0, he, -⟩ := wC_th (cy := cy) (ad := ad) (I := I) (A := A) (T := T) (F := F) hq hk0
    exact i_callUp (rest := rest) (ci := 0) (qc := (R_Br, T_Br, 6)) C k hk hn hl h rfl he (kU_Ne_68_Br ⟨by omega, by omega⟩) (m_Dr_takes_Br hq hk0 hw) rfl rfl hs hc kk
  · obtain ⟨q0, he, -⟩ := wC_th (cy := cy) (ad := ad) (I := I) (A := A) (T := T) (F := F) hq hk0
    exact i_callUp (rest := rest) (ci := 1) (qc := (R_Dr, T_Dr, 3)) C k hk hn hl h rfl he (kU_Ne_68_Dr ⟨by omega, by omega⟩) (m_Dr_takes_Dr hq hk0 hw) rfl rfl hs hc kk
  · obtain ⟨q0, he, -⟩ := wC_th (cy := cy) (ad := ad) (I := I) (A := A) (T := T) (F := F) hq hk0
    exact i_callUp (rest := rest) (ci := 2) (qc := (R_Ho, T_Ho, 7)) C k hk hn hl h rfl he (kU_Ne_68_Ho ⟨by omega, by omega⟩) (m_Ho_takes hw) rfl rfl hs hc kk
  · obtain ⟨q0, he, -⟩ := wC_th (cy := cy) (ad := ad) (I := I) (A := A) (T := T) (F := F) hq hk0
    exact i_callUp (rest := rest) (ci := 3) (qc := (R_Le, T_Le, 3)) C k hk hn hl h rfl he (kU_Ne_68_Le ⟨by omega, by omega⟩) (m_Le_takes_Le hq hk0 hw) rfl rfl hs hc kk
  · obtain ⟨q0, he, -⟩ := wC_th (cy := cy) (ad := ad) (I := I) (A := A) (T := T) (F := F) hq hk0
    exact i_callUp (rest := rest) (ci := 4) (qc := (R_Li, T_Li, 4)) C k hk hn hl h rfl he (kU_Ne_68_Li ⟨by omega, by omega⟩) (m_Dr_takes_Li hq hk0 hw) rfl rfl hs hc kk
  · obtain ⟨q0, he, -⟩ := wC_th (cy := cy) (ad := ad) (I := I) (A := A) (T := T) (F := F) hq hk0
    exact i_callUp (rest := rest) (ci := 9) (qc := (R_To, T_To, 3)) C k hk hn hl h rfl he (kU_Ne_68_To ⟨by omega, by omega⟩) (m_To_takes_To hq hk0 hw) rfl rfl hs hc kk
end G62
def g_Ne_taken (A : Nat → Nat → Int32) (T : Nat → Option Nat) (L : List Nat) (K : Nat → Nat) (F : Nat → Nat → Int32) (a1 : Int32) (a2 : Int32) (P : Int32 → Prop) : Prop := vp_in a1 12 ∧ ((T a1.toNatClampNeg = none → (P (0 : Int32))) ∧ (∀ q1 : Nat, T a1.toNatClampNeg = some q1 → (g_Ne_pressAt A a1 (fun r3 => (gd_takes L K F q1 a2 r3 (fun r4 => (P r4)))))))
set_option maxHeartbeats 4000000 in
set_option maxRecDepth 100000 in
theorem m_Ne_taken {l : Launch} {D : va_G} {cy : Nat → ClassId} {ad : Nat → Nat} {I : Nat → Int32} {A : Nat → Nat → Int32} {T : Nat → Option Nat} {L : List Nat} {K : Nat → Nat} {F : Nat → Nat → Int32} {a1 : Int32} {a2 : Int32} {P : Int32 → Prop} (hw : g_Ne_taken A T L K F a1 a2 P) : ∀ sz, Met l y_Ne_taken (WL y_Ne_taken c_Ne_taken 4 (some .int)) { frames := 2, cells := 0, slots := 0, locals := 45 } (va_Pc [.ref (ad 1), .int a1, .int a2] (PreW D cy (wC cy ad I A T L K F) sz)) (vp_Si P) 0 0 (fun _ => False) := by
  refine met_p R_Ne .int db_Ne_taken (by decide) rfl rfl (by decide) ?_
  intro p e s m below meth c Z Q ls C h hl hret
  have hl : lv_has ls 4 [(0, .ref (ad 1)), (1, .int a1), (2, .int a2)] := hl
  refine i_aload_n C 0 rfl rfl rfl hl 0 rfl ?_
  refine fgC_Ne_30 C 1 rfl rfl h ?_
  refine i_iload_n C 2 rfl rfl rfl hl 1 rfl ?_
  obtain ⟨hb, hw⟩ := hw
  refine i_aldq C 3 rfl rfl h (wC_get (h := 5) (by decide)) hb (fun c2 => ?_) (fun q1 c2 => ?_)
  · replace hw := hw.1 c2
    refine i_astore_nN (lv' := [(3, .null), (0, .ref (ad 1)), (1, .int a1), (2, .int a2)]) C 4 rfl rfl rfl hl (by decide) rfl (fun ls hl => ?_)
    refine i_aload_nN C 5 rfl rfl rfl hl 0 rfl ?_
    refine i_ifnonnullN C 6 rfl rfl ?_
    refine i_iconst (v := (0 : Int32)) C 7 rfl rfl rfl ?_
    refine i_goto (tgt := 25) C 8 rfl rfl ?_
    exact hret _ _ _ rfl hw (C.dg (k := 15) rfl)
  · replace hw := hw.2 q1 c2
    refine i_astore_n (lv' := [(3, .ref q1), (0, .ref (ad 1)), (1, .int a1), (2, .int a2)]) C 4 rfl rfl rfl hl (by decide) rfl (fun ls hl => ?_)
    refine i_aload_n C 5 rfl rfl rfl hl 0 rfl ?_
    refine i_ifnonnull (tgt := 15) C 6 rfl rfl ?_
    refine i_aload_n C 9 rfl rfl rfl hl 0 rfl ?_
    refine i_iload_n C 10 rfl rfl rfl hl 3 rfl ?_
    refine i_aload_n C 11 rfl rfl rfl hl 1 rfl ?_
    refine i_iload_n C 12 rfl rfl rfl hl 2 rfl ?_
    refine i_callVp (rest := [.int a2, .ref q1]) (ci := 5) (qc := (R_Ne, T_Ne, 17)) C 13 rfl rfl hl h rfl (wC_get (h := 1) (by decide)) (kV_Ne_64 ⟨by decide, by decide⟩) (m_Ne_pressAt hw) rfl rfl (by decide) ⟨by decide, by decide⟩ (fun r3 hw => ?_)
    refine gdc_Ne_68 (rest := []) C 14 rfl rfl hl h hw (by decide) (by decide) (by decide) ⟨by decide, by decide⟩ (fun r4 hw => ?_)
    exact hret _ _ _ rfl hw (C.dg (k := 15) rfl)
end S62
