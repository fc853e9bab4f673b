/-! ===== the start: all comes together ===== -/
theorem LT_1 {w : Cond} (h : w ∈ tables_1_1) : w ∈ lw_tbl := List.mem_append_right _ (List.mem_append_left _ h)
theorem LT_2 {w : Cond} (h : w ∈ tables_1_2) : w ∈ lw_tbl := List.mem_append_right _ (List.mem_append_right _ (List.mem_append_left _ h))
theorem LT_3 {w : Cond} (h : w ∈ tables_1_3) : w ∈ lw_tbl := List.mem_append_right _ (List.mem_append_right _ (List.mem_append_right _ (List.mem_append_left _ h)))
theorem LT_4 {w : Cond} (h : w ∈ tables_1_4) : w ∈ lw_tbl := List.mem_append_right _ (List.mem_append_right _ (List.mem_append_right _ (List.mem_append_right _ (List.mem_append_left _ h))))
theorem LT_5 {w : Cond} (h : w ∈ tables_1_5) : w ∈ lw_tbl := List.mem_append_right _ (List.mem_append_right _ (List.mem_append_right _ (List.mem_append_right _ (List.mem_append_right _ (List.mem_append_left _ h)))))
theorem LT_6 {w : Cond} (h : w ∈ tables_1_6) : w ∈ lw_tbl := List.mem_append_right _ (List.mem_append_right _ (List.mem_append_right _ (List.mem_append_right _ (List.mem_append_right _ (List.mem_append_right _ (List.mem_append_left _ h))))))
theorem LT_7 {w : Cond} (h : w ∈ tables_1_7) : w ∈ lw_tbl := List.mem_append_right _ (List.mem_append_right _ (List.mem_append_right _ (List.mem_append_right _ (List.mem_append_right _ (List.mem_append_right _ (List.mem_append_right _ h))))))
theorem zx_0 : Cond.methodLinkNest "PipeWorks" 9 ⟨"PipeWorks$Net", "<init>", "()V"⟩ "PipeWorks" ∈ lw_tbl := LT_1 (List.mem_of_getElem? (i := 28) (by decide +kernel))
theorem zx_1 : Cond.methodLinkNest "PipeWorks$Net" 11 ⟨"PipeWorks$Pipes", "<init>", "()V"⟩ "PipeWorks" ∈ lw_tbl := LT_1 (List.mem_of_getElem? (i := 34) (by decide +kernel))
theorem zx_2 : Cond.methodLinkNest "PipeWorks" 23 ⟨"PipeWorks$Orders", "<init>", "()V"⟩ "PipeWorks" ∈ lw_tbl := LT_1 (List.mem_of_getElem? (i := 139) (by decide +kernel))
theorem zx_3 : Cond.methodLinkNest "PipeWorks" 30 ⟨"PipeWorks$Plan", "<init>", "()V"⟩ "PipeWorks" ∈ lw_tbl := LT_1 (List.mem_of_getElem? (i := 168) (by decide +kernel))
theorem zx_4 : Cond.methodLinkNest "PipeWorks$Pipes" 48 ⟨"PipeWorks", "hasBit", "(II)Z"⟩ "PipeWorks" ∈ lw_tbl := LT_2 (List.mem_of_getElem? (i := 74) (by decide +kernel))
theorem zx_5 : Cond.methodLinkNest "PipeWorks$Pipes" 56 ⟨"PipeWorks", "bit", "(Z)I"⟩ "PipeWorks" ∈ lw_tbl := LT_2 (List.mem_of_getElem? (i := 77) (by decide +kernel))
theorem zx_6 : Cond.methodLinkNest "PipeWorks$Draw" 3 ⟨"PipeWorks$Thing", "<init>", "()V"⟩ "PipeWorks" ∈ lw_tbl := LT_2 (List.mem_of_getElem? (i := 126) (by decide +kernel))
theorem zx_7 : Cond.methodLinkNest "PipeWorks$Tower" 1 ⟨"PipeWorks$Thing", "<init>", "()V"⟩ "PipeWorks" ∈ lw_tbl := LT_2 (List.mem_of_getElem? (i := 198) (by decide +kernel))
theorem zx_8 : Cond.methodLinkNest "PipeWorks$Leak" 1 ⟨"PipeWorks$Thing", "<init>", "()V"⟩ "PipeWorks" ∈ lw_tbl := LT_3 (List.mem_of_getElem? (i := 4) (by decide +kernel))
theorem zx_9 : Cond.declares ⟨"PipeWorks$Thing", "kind", "()I"⟩ ∈ lw_tbl := LT_3 (List.mem_of_getElem? (i := 26) (by decide +kernel))
theorem zx_10 : Cond.methodLinkNest "PipeWorks$Net" 91 ⟨"PipeWorks", "hasBit", "(II)Z"⟩ "PipeWorks" ∈ lw_tbl := LT_3 (List.mem_of_getElem? (i := 193) (by decide +kernel))
theorem zx_11 : Cond.methodLinkNest "PipeWorks$Orders" 50 ⟨"PipeWorks", "isWithin", "(III)Z"⟩ "PipeWorks" ∈ lw_tbl := LT_4 (List.mem_of_getElem? (i := 123) (by decide +kernel))
theorem zx_12 : Cond.methodLinkNest "PipeWorks$Plan" 61 ⟨"PipeWorks", "hasBit", "(II)Z"⟩ "PipeWorks" ∈ lw_tbl := LT_5 (List.mem_of_getElem? (i := 55) (by decide +kernel))
theorem zx_13 : Cond.castable "PipeWorks$Draw" "PipeWorks$Thing" ∈ lw_tbl := LT_7 (List.mem_of_getElem? (i := 71) (by decide +kernel))
theorem zx_14 : Cond.castable "PipeWorks$Lift" "PipeWorks$Thing" ∈ lw_tbl := LT_7 (List.mem_of_getElem? (i := 72) (by decide +kernel))
theorem zx_15 : Cond.castable "PipeWorks$Bridge" "PipeWorks$Thing" ∈ lw_tbl := LT_7 (List.mem_of_getElem? (i := 73) (by decide +kernel))
theorem zx_16 : Cond.castable "PipeWorks$Tower" "PipeWorks$Thing" ∈ lw_tbl := LT_7 (List.mem_of_getElem? (i := 74) (by decide +kernel))
theorem zx_17 : Cond.castable "PipeWorks$House" "PipeWorks$Thing" ∈ lw_tbl := LT_7 (List.mem_of_getElem? (i := 75) (by decide +kernel))
theorem zx_18 : Cond.castable "PipeWorks$Leak" "PipeWorks$Thing" ∈ lw_tbl := LT_7 (List.mem_of_getElem? (i := 76) (by decide +kernel))
theorem zi_0 : Cond.instantiable R_Br 6 ∈ lw_tbl := LT_2 (List.mem_of_getElem? (i := 170) (by decide +kernel))
theorem zi_1 : Cond.instantiable R_Dr 3 ∈ lw_tbl := LT_2 (List.mem_of_getElem? (i := 122) (by decide +kernel))
theorem zi_2 : Cond.instantiable R_Ho 7 ∈ lw_tbl := LT_2 (List.mem_of_getElem? (i := 214) (by decide +kernel))
theorem zi_3 : Cond.instantiable R_Le 3 ∈ lw_tbl := LT_3 (List.mem_of_getElem? (i := 0) (by decide +kernel))
theorem zi_4 : Cond.instantiable R_Li 4 ∈ lw_tbl := LT_2 (List.mem_of_getElem? (i := 153) (by decide +kernel))
theorem zi_5 : Cond.instantiable R_Ne 17 ∈ lw_tbl := LT_1 (List.mem_of_getElem? (i := 27) (by decide +kernel))
theorem zi_6 : Cond.instantiable R_Or 6 ∈ lw_tbl := LT_1 (List.mem_of_getElem? (i := 138) (by decide +kernel))
theorem zi_7 : Cond.instantiable R_Pi 8 ∈ lw_tbl := LT_1 (List.mem_of_getElem? (i := 33) (by decide +kernel))
theorem zi_8 : Cond.instantiable R_Pl 8 ∈ lw_tbl := LT_1 (List.mem_of_getElem? (i := 167) (by decide +kernel))
theorem zi_9 : Cond.instantiable R_To 3 ∈ lw_tbl := LT_2 (List.mem_of_getElem? (i := 194) (by decide +kernel))
theorem zi_10 : Cond.instantiable R_Pw 16 ∈ lw_tbl := LT_1 (List.mem_of_getElem? (i := 19) (by decide +kernel))
theorem zi_11 : Cond.instantiable R_Mo 50 ∈ lw_tbl := LT_5 (List.mem_of_getElem? (i := 100) (by decide +kernel))
theorem zo_T : Cond.arrayOver (.object "PipeWorks$Thing") ∈ lw_tbl := LT_1 (List.mem_of_getElem? (i := 74) (by decide +kernel))
theorem zo_A : Cond.arrayOver (.array .int) ∈ lw_tbl := LT_1 (List.mem_of_getElem? (i := 144) (by decide +kernel))
theorem nx_on : ∀ w ∈ nxW, w.onTables = true := by decide +kernel
theorem nx_in : ∀ w ∈ nxW, w ∈ lw_tbl := by
  intro w hw
  simp only [nxW, List.mem_cons, List.not_mem_nil, or_false] at hw
  rcases hw with rfl | rfl | rfl | rfl | rfl | rfl | rfl | rfl | rfl | rfl | rfl | rfl | rfl | rfl | rfl | rfl | rfl | rfl | rfl
  · exact zx_0
  · exact zx_1
  · exact zx_2
  · exact zx_3
  · exact zx_4
  · exact zx_5
  · exact zx_6
  · exact zx_7
  · exact zx_8
  · exact zx_9
  · exact zx_10
  · exact zx_11
  · exact zx_12
  · exact zx_13
  · exact zx_14
  · exact zx_15
  · exact zx_16
  · exact zx_17
  · exact zx_18
theorem nc_start {s : State} {b : Nat} (hgv : (Jvm.Cond.and given_1 narrow_1).before #[Value.ref b] s = true) : ∀ q ∈ nxC, va_Nc q.1 q.2 s := by
  have hs := flat_of_before _ hgv
  intro q hq
  simp only [nxC, List.mem_cons, List.not_mem_nil, or_false] at hq
  rcases hq with rfl | rfl | rfl | rfl | rfl | rfl | rfl | rfl | rfl | rfl
  · exact va_Nc.of (hs (Cond.not (.castable R_Br R_Ho)) (by decide +kernel))
  · exact va_Nc.of (hs (Cond.not (.castable R_Dr R_Ho)) (by decide +kernel))
  · exact va_Nc.of (hs (Cond.not (.castable R_Le R_Ho)) (by decide +kernel))
  · exact va_Nc.of (hs (Cond.not (.castable R_Li R_Ho)) (by decide +kernel))
  · exact va_Nc.of (hs (Cond.not (.castable R_To R_Ho)) (by decide +kernel))
  · exact va_Nc.of (hs (Cond.not (.castable R_Br R_Le)) (by decide +kernel))
  · exact va_Nc.of (hs (Cond.not (.castable R_Dr R_Le)) (by decide +kernel))
  · exact va_Nc.of (hs (Cond.not (.castable R_Ho R_Le)) (by decide +kernel))
  · exact va_Nc.of (hs (Cond.not (.castable R_Li R_Le)) (by decide +kernel))
  · exact va_Nc.of (hs (Cond.not (.castable R_To R_Le)) (by decide +kernel))
theorem nx_start {s : State} {b : Nat} (hts : ∀ w ∈ lw_tbl, w.before #[Value.ref b] s = true) (hgv : (Jvm.Cond.and given_1 narrow_1).before #[Value.ref b] s = true) : NX s :=
  ⟨fun w hw => va_Nw.of (nx_on w hw) (hts w (nx_in w hw)), nc_start hgv, va_AO.of (hts _ zo_T), hts _ zo_A⟩
theorem arr_of {s : State} {cA comp : ClassId} {kA : Class} {ty : FieldType} (h2 : s.vm.classes[cA]? = some kA) (h3 : kA.kind = .array comp ty) : ArrOfT s cA ty := fun n z => ⟨fun k h => (by cases h), kA, h2, comp, h3⟩
theorem k_start {s : State} {b : Nat} (hts : ∀ w ∈ lw_tbl, w.before #[Value.ref b] s = true) : ∃ (D : va_G) (cy : Nat → ClassId), va_K D vwCl (tysF cy) s := by
  have hG : ∀ w ∈ GW, w.before #[Value.ref b] s = true := fun w hw => hts w (List.mem_filter.mp hw).1
  obtain ⟨c0, i0, k0⟩ := u_known (C := R_Br) (T := T_Br) (N := 6) (n := 6) hG in_Br (hts _ zi_0)
  obtain ⟨c1, i1, k1⟩ := u_known (C := R_Dr) (T := T_Dr) (N := 3) (n := 3) hG in_Dr (hts _ zi_1)
  obtain ⟨c2, i2, k2⟩ := u_known (C := R_Ho) (T := T_Ho) (N := 7) (n := 7) hG in_Ho (hts _ zi_2)
  obtain ⟨c3, i3, k3⟩ := u_known (C := R_Le) (T := T_Le) (N := 3) (n := 3) hG in_Le (hts _ zi_3)
  obtain ⟨c4, i4, k4⟩ := u_known (C := R_Li) (T := T_Li) (N := 4) (n := 4) hG in_Li (hts _ zi_4)
  obtain ⟨c5, i5, k5⟩ := u_known (C := R_Ne) (T := T_Ne) (N := 17) (n := 17) hG in_Ne (hts _ zi_5)
  obtain ⟨c6, i6, k6⟩ := u_known (C := R_Or) (T := T_Or) (N := 6) (n := 6) hG in_Or (hts _ zi_6)
  obtain ⟨c7, i7, k7⟩ := u_known (C := R_Pi) (T := T_Pi) (N := 8) (n := 8) hG in_Pi (hts _ zi_7)
  obtain ⟨c8, i8, k8⟩ := u_known (C := R_Pl) (T := T_Pl) (N := 8) (n := 8) hG in_Pl (hts _ zi_8)
  obtain ⟨c9, i9, k9⟩ := u_known (C := R_To) (T := T_To) (N := 3) (n := 3) hG in_To (hts _ zi_9)
  obtain ⟨c10, i10, k10⟩ := u_known (C := R_Pw) (T := T_Pw) (N := 16) (n := 16) hG in_Pw (hts _ zi_10)
  obtain ⟨c11, i11, k11⟩ := u_known (C := R_Mo) (T := T_Mo) (N := 50) (n := 50) hG in_Mo (hts _ zi_11)
  obtain ⟨aI, kI, pI, f1, f2, f3⟩ := Cond.arrayClass_spec (hG _ w_arrI)
  obtain ⟨aZ, kZ, pZ, g1, g2, g3⟩ := Cond.arrayClass_spec (hG _ w_arrZ)
  obtain ⟨pT, aT, kT, t1, t2, t3, t4, t5⟩ := Cond.arrayOver_spec (hts _ zo_T)
  obtain ⟨pA, aA, kA, r1, r2, r3, r4, r5⟩ := arrayOver_specB (hts _ zo_A)
  refine ⟨(fun k => match k with
    | 0 => c0
    | 1 => c1
    | 2 => c2
    | 3 => c3
    | 4 => c4
    | 5 => c5
    | 6 => c6
    | 7 => c7
    | 8 => c8
    | 9 => c9
    | 10 => c10
    | _ => c11, fun k => match k with
    | 0 => i0
    | 1 => i1
    | 2 => i2
    | 3 => i3
    | 4 => i4
    | 5 => i5
    | 6 => i6
    | 7 => i7
    | 8 => i8
    | 9 => i9
    | 10 => i10
    | _ => i11), fun k => match k with
    | 0 => aI
    | 1 => aZ
    | 2 => aT
    | _ => aA, fun k q hq => ?_, fun k q hq => ?_⟩
  · match k, hq with
    | 0, hq => cases hq; exact k0
    | 1, hq => cases hq; exact k1
    | 2, hq => cases hq; exact k2
    | 3, hq => cases hq; exact k3
    | 4, hq => cases hq; exact k4
    | 5, hq => cases hq; exact k5
    | 6, hq => cases hq; exact k6
    | 7, hq => cases hq; exact k7
    | 8, hq => cases hq; exact k8
    | 9, hq => cases hq; exact k9
    | 10, hq => cases hq; exact k10
    | 11, hq => cases hq; exact k11
    | k + 12, hq => simp [vwCl] at hq
  · match k, hq with
    | 0, hq => cases hq; exact ⟨arr_of f2 f3, f1⟩
    | 1, hq => cases hq; exact ⟨arr_of g2 g3, g1⟩
    | 2, hq => cases hq; exact ⟨arr_of t3 t4, kT, pT, t3, t4, t1, t5⟩
    | 3, hq => cases hq; exact ⟨arr_of r3 r4, r5⟩
    | k + 4, hq => simp [tysF] at hq
theorem tb_law_ok : tb_La_h.all (fun q => decide (decode code q.1 = .ok q.2)) = true := by decide +kernel
theorem whole_start {p : Program} {e : Env} {s : State} {m : MethodId} {below : List Frame} {meth : Method} {c : Code} (l : Launch) {b L : Nat} {xs : Nat → Int32} (hL : L ≤ 3072) (C0 : lw_At p s m meth c b L xs) : W p l e room_1 s m #[Value.ref b] below meth c s.heap [] 0 0 (lw_Z below #[Value.ref b] s) (entryFrame m ([Value.ref b] : List Value).toArray 4) := by
  obtain ⟨hx, hb, hr, hml, hown, hts, hX, hbl, hlocks, hgv⟩ := id C0
  obtain ⟨D, cy, hK⟩ := k_start hts
  have hG : ∀ w ∈ GW, w.before #[Value.ref b] s = true := fun w hw => hts w (List.mem_filter.mp hw).1
  have hl := lv_entry ([.ref b]) (n := 4) (Nat.le_of_ble_eq_true rfl)
  rw [lg_entry_eq]
  generalize (lg_sl ([.ref b]) ++ List.replicate (4 - (lg_sl ([.ref b])).length) Slot.unset).toArray = ls at hl ⊢
  have hl : lv_has ls 4 [(0, .ref b)] := hl
  have C : CX D cy R_La code tb_La_h 4 p s m #[Value.ref b] c (fun q => s.heap.size ≤ q) := ⟨⟨hx, hb, hml, hown, hG⟩, hK, nx_start hts hgv, fun _ h => h, tb_law_ok⟩
  exact law_start (Rel := Rel) C hX hbl hL hr hlocks op_init (fun _ _ _ _ _ _ _ _ _ hR => hR.up)
    (fun _ _ _ _ _ _ _ _ _ _ _ _ hR => op_node hR)
    (fun _ _ _ _ _ _ _ _ _ _ _ _ _ hR => op_main hR)
    (fun _ _ _ _ _ _ _ _ _ _ _ _ hR => op_valve hR)
    (fun _ _ _ _ _ _ _ _ _ _ _ hR => op_turn hR)
    (fun _ _ _ _ _ _ _ _ _ _ _ _ hR => op_ofMain hR)
    (fun _ _ _ _ _ _ _ _ _ _ _ hR => op_wrong hR)
    (fun _ _ _ _ _ _ _ _ _ _ _ hR => op_mend hR)
    (fun _ _ _ _ _ _ _ _ _ _ _ _ _ _ hR => op_draw hR)
    (fun _ _ _ _ _ _ _ _ _ _ _ _ _ _ _ hR => op_lift hR)
    (fun _ _ _ _ _ _ _ _ _ _ _ _ _ _ _ hR => op_bridge hR)
    (fun _ _ _ _ _ _ _ _ _ _ _ _ _ _ hR => op_tower hR)
    (fun _ _ _ _ _ _ _ _ _ _ _ _ _ _ hR => op_house hR)
    (fun _ _ _ _ _ _ _ _ _ _ _ _ _ hB hR => op_leak hB hR)
    (fun _ _ _ _ _ _ _ _ _ _ _ hR => op_clear hR)
    (fun _ _ _ _ _ _ _ _ _ _ _ hk hR => op_ofNode hk hR)
    (fun _ _ _ _ _ _ _ _ _ _ _ _ hB hR => op_light hB hR)
    (fun _ _ _ _ _ _ _ _ _ _ _ hR => op_found hR)
    (fun _ _ _ _ _ _ _ _ _ hk hR => op_work hk hR)
    (fun _ _ _ _ _ _ _ _ _ _ _ hR => op_near hR)
    (fun _ _ _ _ _ _ _ _ _ _ _ _ hR => op_press hR)
    (fun _ _ _ _ _ _ _ _ _ _ _ hR => op_flow hR)
    (fun _ _ _ _ _ _ _ _ _ _ hk hR => op_step hk hR)
    (fun _ _ _ _ _ _ _ _ _ _ _ hR => op_told hR)
    (fun _ _ _ _ _ _ _ _ _ _ _ _ hR => op_row hR)
    (fun _ _ _ _ _ _ _ _ _ _ _ _ _ hR => op_put hR)
    (fun _ _ _ _ _ _ _ _ _ _ _ _ hR => op_none hR)
    (fun _ _ _ _ _ _ _ _ _ _ _ _ hR => op_read hR)
    (fun _ _ _ _ _ _ _ _ _ _ _ hR => op_say hR)
    (fun _ _ _ _ _ _ _ _ _ _ hR => op_wipe hR)
    (fun _ _ _ _ _ _ _ _ _ _ hR => op_fault hR)
    (fun _ _ _ _ _ _ _ _ _ _ _ hR => op_order hR)
    (fun _ _ _ _ _ _ _ _ _ _ hR => op_does hR)
    (fun _ _ _ _ _ _ _ _ _ _ _ hR => op_why hR)
    (fun _ _ _ _ _ _ _ _ _ _ hk hR => op_cut hk hR)
    (fun _ _ _ _ _ _ _ _ _ _ hk hR => op_dry hk hR)
    (fun _ _ _ _ _ _ _ _ _ _ _ _ hk hR => op_seek hk hR)
    (fun _ _ _ _ _ _ _ _ _ _ _ hR => op_block hR)
    (fun _ _ _ _ _ _ _ _ _ _ hR => op_rest hR)
    (fun _ _ _ _ _ _ _ _ _ _ _ _ _ hR => op_plan hR)
    (fun _ _ _ _ _ _ _ _ _ _ _ _ hR => op_best hR)
    (fun _ _ _ _ _ _ _ _ _ _ _ hR => op_fails hR)
    (fun _ _ _ _ _ _ _ _ _ _ _ _ hR => op_term hR)
    (fun _ _ _ _ _ _ _ _ _ _ _ _ hB hR => op_meter hB hR)
    (fun _ _ _ _ _ _ _ _ _ _ _ hR => op_pay hR) ls hl
-- ===== YOUR PART ENDS =====
set_option maxHeartbeats 4000000 in
theorem lw_walk (l : Launch) (b : Addr) (xs : List Int32) : MetFree l x (headSpec (Jvm.Cond.code x code maxLocals ret :: tables_1) room_1) (lw_P b xs) (fun _ _ _ _ _ => True) lw_Q := by
  refine MetFree.of_bodyS (code := code) (maxLocals := maxLocals) (ret := ret) (by decide) ?_ ?_
  · intro args s m h hn
    obtain ⟨meth, c, h1, h2, h3, h4, h5, h6, -, -⟩ := Cond.code_spec hn (atoms_spec (ws := Jvm.Cond.code x code maxLocals ret :: tables_1) h _ List.mem_cons_self)
    exact ⟨meth, c, h1, h2, h3, h4, h5, h6⟩
  · intro p e s m args below meth c s₁ B hml0 hP _
    obtain ⟨rfl, hx, hbd, hgv⟩ := hP
    obtain ⟨scr, harrAt, hlist, hof, hsmall⟩ := hx
    obtain ⟨hcb, hkn, -, -⟩ := State.arrayAt?_spec harrAt
    have hown : s.vm.findClass R_law = some m.cls := findClass_of_methodNamed B.named
    have hts0 : ∀ c ∈ (Jvm.Cond.code x code maxLocals ret :: tables_1), c.before #[Value.ref b] s = true := atoms_spec (ws := Jvm.Cond.code x code maxLocals ret :: tables_1) B.pre
    have hts : ∀ w ∈ lw_tbl, w.before #[Value.ref b] s = true := k2_hts_sels lw_privs (fun w hw => hts0 w (List.mem_cons_of_mem _ hw)) lw_privs_ok
    have hml : c.maxLocals = 4 := B.maxLocals_eq (hts0 _ List.mem_cons_self)
    have X₀ : Stand p l e room_1 s m #[Value.ref b] below meth c s₁ [] 0 0 := Stand.of_body B
    have hh0 : s₁.heap = s.heap := by rw [B.state]; rfl
    have hsz : scr.slots.size = xs.length := by rw [← Array.length_toList, hlist, List.length_map]
    have hval : ∀ j : Nat, j < xs.length → scr.slots[j]? = some (.int (xs.getD j 0)) := fun j hj => by
      rw [← Array.getElem?_toList, hlist]
      simp [hj]
    have hbl : b < s.heap.size := (Array.getElem?_eq_some_iff.mp hcb).1
    have hX : va_X b xs.length (fun j => xs.getD j 0) s s.heap := ⟨scr, hcb, hof, hkn, hsz, hval⟩
    have K : W p l e room_1 s m #[Value.ref b] below meth c s₁.heap [] 0 0 (lw_Z below #[Value.ref b] s) (entryFrame m ([Value.ref b] : List Value).toArray 4) := by
      rw [hh0]
      exact whole_start l hbd ⟨B.exec, B.bytes, B.returns, hml, hown, hts, hX, hbl, B.notSynchronized, hgv⟩
    obtain ⟨t, a1, o, b1, b2, b3⟩ := K s₁ rfl X₀
    exact ⟨t, o, a1, b1, b2, b3⟩
theorem lw_pre_spec {args : Array Value} {s : State} (h : (Jvm.Cond.and given_1 narrow_1).before args s = true) (hr : rest_1_c.before args s = true) : ∃ (b : Addr) (xs : List Int32), lw_P b xs args s := by
  have hs := flat_of_before _ h
  have hq := flat_of_before _ hr
  have hc : (Cond.count 1).before args s = true := hs _ (by decide +kernel)
  have harr : (Cond.arrayOf (.arg 0) .int).before args s = true := hs _ (by decide +kernel)
  have hle : (Cond.le (.length (.arg 0)) (.int 3072)).before args s = true := hs _ (by decide +kernel)
  have hlen : (Cond.isInt (.length (.arg 0))).before args s = true := hq _ (by decide +kernel)
  have hall : (Cond.all (.arg 0) (.isInt (.elem (.arg 0) (.index 0)))).before args s = true := hq _ (by decide +kernel)
  obtain ⟨b, xs, hb, hx⟩ := State.ints_of_pre rfl harr hlen hall
  have hsm : xs.length < 2 ^ 31 := hx.choose_spec.2.2.2
  have hev : (Term.length (.arg 0)).eval args s none [] s = some (.int xs.length.toInt32) := hx.length_eval hb
  have hv := Cond.le_ints hev (show (Term.int 3072).eval args s none [] s = some (.int 3072) from rfl)
  have hd : xs.length.toInt32 ≤ 3072 := by
    simpa [Cond.before, Cond.holds, hv] using hle
  have hN : xs.length ≤ 3072 := (Int32.ofNat_le_ofNat hsm (by decide)).mp (show Int32.ofNat xs.length ≤ Int32.ofNat 3072 from hd)
  exact ⟨b, xs, Cond.one_arg hc (show args[0]? = some (.ref b) from hb), hx, hN, h⟩
theorem lw_comes (l : Launch) : Comes l x (Jvm.Cond.code x code maxLocals ret :: tables_1) room_1 (fun tb e args s => Calls_1 tb e args s ∧ rest_1 tb e args s ∧ Pre_1 tb e args s)
    (fun _ _ args s o t => lw_Q args s o t) := by
  intro p e ha hc hk s m args below hf hfit hheap happ hpre
  obtain ⟨b, xs, hP⟩ := lw_pre_spec hpre.2.2 hpre.2.1
  obtain ⟨k, o, h1, h2, h3, hQ⟩ := lw_walk l b xs p e ha hc hk s m args below hf ((Spec.applies_iff_loose hf).mp happ).1 hP trivial
  exact ⟨k, o, h1, h2, h3, hQ⟩
theorem lw_frame {s t : State} {o : Outcome} {args : Array Value} (h : Framed s o t [] 600000 7302250) :
    Framed s o t (fieldLocs frame_1_writes args s ++ arrayLocs frame_1_arrays args s ++ staticLocs frame_1_statics s) 600000 7302250 := h
theorem lw_limb (L : Cond) (hL : ∀ (args : Array Value) (s t : State), L.after args s (.returned (some (.int 1))) t = true) :
    ArmFor flags0 classFile x code maxLocals ret World_1 tables_1 room_1 Calls_1 rest_1 Pre_1
      (fun tb e a s o t => postC L tb e a s o t ∧ Framed s o t (fieldLocs frame_1_writes a s ++ arrayLocs frame_1_arrays a s ++ staticLocs frame_1_statics s) 600000 7302250) := by
  intro l _ _ _ p e ha hc hk s m args below hf hfit hheap happ hpre
  obtain ⟨k, o, h1, h2, h3, rfl, hF⟩ := lw_comes l p e ha hc hk s m args below hf hfit hheap happ hpre
  exact ⟨k, _, h1, h2, h3, hL args s _, lw_frame hF⟩
theorem i_vc : Claimed_1_1 ∧ Claimed_1_2 := ⟨lw_limb limb_1_1 (fun args s t => by simp [limb_1_1, Cond.after, Cond.holds, Cond.value]), lw_limb limb_1_2 (fun args s t => Cond.after_iff.mpr (by
  first | (rw [show limb_1_2 = Cond.eq .result (.int 1) from rfl, Cond.eq_ints (x := 1) (y := 1) rfl rfl]; simp; done) | (simp [limb_1_2, Cond.value, Term.eval]; done)))⟩
