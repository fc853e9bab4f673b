/-! ===== layer 2: the plan, both sides ===== -/
theorem eight {P : Nat → Prop} {j : Nat} (h : j < 8) (h0 : P 0) (h1 : P 1) (h2 : P 2) (h3 : P 3) (h4 : P 4) (h5 : P 5) (h6 : P 6) (h7 : P 7) : P j := by
  rcases j with _ | _ | _ | _ | _ | _ | _ | _ | j
  all_goals first | assumption | omega
section PLAN2
variable {bk : Nat} {nd gv cl : Nat → Nat} {I J : Nat → Int32} {A B : Nat → Nat → Int32}
theorem C_prepare {j11 : Int32} {P : ((Nat → Int32) × (Nat → Nat → Int32)) → Prop} (hp : Rplan bk (I 14) (I 15) j11 (A 25) (A 26) (A 27) (A 28) (A 29) (A 30) (B 27) (B 28) (B 29))
    (hP : ∀ I' A', (∀ c, c ≠ 15 → I' c = I c) → ¬ I' 15 = 0 → (∀ c, c ≠ 28 → c ≠ 29 → c ≠ 30 → A' c = A c) →
      stt bk (fun i => (A 25 i).toNatClampNeg) (fun i => (A 26 i).toNatClampNeg) (fun i => (A 27 i).toNatClampNeg) I' A' → mem bk (fun i => (A 25 i).toNatClampNeg) (fun i => (A 26 i).toNatClampNeg) (fun i => (A 27 i).toNatClampNeg) (A' 30) → P (I', A')) : g_Pl_prepare I A P := by
  obtain ⟨b8, hi14, hj11, hbs, hgs, hpr⟩ := hp
  have q25 : ∀ i, i < bk → A 25 i = nI ((A 25 i).toNatClampNeg) ∧ (A 25 i).toNatClampNeg ≤ 100 := fun i hi => by
    obtain ⟨e, x, hx, e2⟩ := hbs i hi
    rw [e, e2, nI_clamp (by omega)]; exact ⟨rfl, hx⟩
  have q26 : ∀ i, i < 3 → A 26 i = nI ((A 26 i).toNatClampNeg) ∧ (A 26 i).toNatClampNeg ≤ 100 := fun i hi => by
    obtain ⟨e, -, ⟨x, hx, e2⟩, -⟩ := hgs i hi
    rw [e, e2, nI_clamp (by omega)]; exact ⟨rfl, hx⟩
  have q27 : ∀ i, i < 3 → A 27 i = nI ((A 27 i).toNatClampNeg) ∧ (A 27 i).toNatClampNeg ≤ 100 := fun i hi => by
    obtain ⟨-, e, -, x, hx, e2⟩ := hgs i hi
    rw [e, e2, nI_clamp (by omega)]; exact ⟨rfl, hx⟩
  refine ⟨fun h0 => ⟨9, ?_⟩, fun h1 => ?_⟩
  · have e0 : prA (fun i => (A 26 i).toNatClampNeg) (fun i => (A 27 i).toNatClampNeg) A 0 = A := by
      unfold prA
      rw [fa_fill_0, fa_fill_0]
      funext c
      by_cases c9 : c = 29
      · subst c9; rw [vu_at]
      · rw [va_un c9]
        by_cases c8 : c = 28
        · subst c8; rw [vu_at]
        · rw [va_un c8]
    have := C_prep_l (I := I) (A := A) (gv := fun i => (A 26 i).toNatClampNeg) (cl := fun i => (A 27 i).toNatClampNeg) (P := P) (X := fun I_5 A_5 => g_JArr_fill A_5 30 (-1 : Int32) (fun u6 => (P (va_up I_5 15 (1 : Int32), u6)))) (fun i hi => (q26 i hi).1) (fun i hi => (q27 i hi).1) 8 0 (by omega)
    rw [e0] at this
    refine this (C_fill (by decide) ?_)
    refine hP _ _ (fun c hc => va_un hc) (by rw [vu_at]; decide) (fun c h1 h2 h3 => ?_) ?_ ?_
    · rw [va_un h3]; unfold prA; rw [va_un h2, va_un h1]
    · refine ⟨b8, by rw [va_un (by omega)]; exact hi14, ?_, ?_, fun i hi => ⟨(q26 i hi).2, (q27 i hi).2⟩⟩
      · exact q25
      · intro s hs
        rw [va_un (by omega), va_un (by omega)]
        unfold prA
        rw [va_un (show 28 ≠ 29 by omega), vu_at, vu_at]
        rw [fa_fill_in hs, fa_fill_in hs]
        exact ⟨rfl, rfl⟩
    · intro b s w hb hs hw
      left
      rw [vu_at]; exact fa_fill_in (show (b * 8 + s) * 201 + w < 12864 by omega)
  · obtain ⟨p1, p2⟩ := hpr h1
    exact hP I A (fun _ _ => rfl) h1 (fun _ _ _ _ => rfl) ⟨b8, hi14, q25, p1, fun i hi => ⟨(q26 i hi).2, (q27 i hi).2⟩⟩ p2
/-- the reference's tables -/
def mtt (bk : Nat) (nd gv cl : Nat → Nat) (B : Nat → Nat → Int32) : Prop :=
  bk ≤ 8 ∧ (∀ i, i < bk → B 27 i = nI (nd i) ∧ nd i ≤ 100) ∧ ∀ i, i < 3 → B 28 i = nI (gv i) ∧ B 29 i = nI (cl i) ∧ gv i ≤ 100 ∧ cl i ≤ 100
theorem mtt.fr {B' : Nat → Nat → Int32} (h : mtt bk nd gv cl B) (e : ∀ c, c ≠ 36 → B' c = B c) : mtt bk nd gv cl B' := by
  unfold mtt
  rw [e 27 (by omega), e 28 (by omega), e 29 (by omega)]
  exact h
theorem M_after {b a lit w : Nat} {P : Int32 → Prop} (h : mtt bk nd gv cl B) (hb : b < bk) (hw : w ≤ 200) (p : P (nI (wb gv a lit w) - nI (nd b))) : g_Mo_after B (nI b) (nI w) (nI a) (nI lit) P := by
  obtain ⟨b8, hn, hg⟩ := h
  have stp : ∀ (n j x : Nat) (X : Int32 → Prop), j < 3 → g_Mo_after_6 B (nI b) (nI w) (nI a) (nI lit) P X n (nI (x + (if (a &&& lit).testBit j then gv j else 0))) (nI (j + 1)) → g_Mo_after_6 B (nI b) (nI w) (nI a) (nI lit) P X (n + 1) (nI x) (nI j) := by
    intro n j x X hj q
    refine c2f (nI_ge (b := 3) hj (by omega)) ?_
    rw [fa_and, shr_bit _ (by omega), bt_nI (by omega)]
    cases hbt : (a &&& lit).testBit j
    · rw [hbt] at q
      refine n2f (by decide) (y1 ?_)
      rw [nI_1]
      show g_Mo_after_6 B (nI b) (nI w) (nI a) (nI lit) P X n (nI x + nI 0) _
      rw [nI_add]; exact q
    · rw [hbt] at q
      refine n2t rfl ⟨vin hj (by omega), y1 ?_⟩
      rw [nI_1, nI_clamp (by omega), (hg j hj).1, nI_add]; exact q
  refine ⟨4, stp 3 0 w _ (by omega) (stp 2 1 _ _ (by omega) (stp 1 2 _ _ (by omega) (c2t (by decide) ?_)))⟩
  have e : w + (if (a &&& lit).testBit 0 then gv 0 else 0) + (if (a &&& lit).testBit 1 then gv 1 else 0) + (if (a &&& lit).testBit 2 then gv 2 else 0) = w + sm3 gv (a &&& lit) := by unfold sm3; omega
  rw [e]
  have hl : sm3 gv (a &&& lit) ≤ 300 := sm3_le (fun i hi => (hg i hi).2.2.1)
  have fin : ∀ x, x = wb gv a lit w → g_Mo_after_63 B (nI b) (nI w) (nI a) (nI lit) P (nI x) := by
    intro x hx
    refine ⟨vin (by omega) (by omega), ?_⟩
    rw [nI_clamp (by omega), (hn b hb).1, hx]; exact p
  by_cases c : w + sm3 gv (a &&& lit) ≤ 200
  · exact c2t (nI_le (b := 200) c (by omega)) (fin _ (by unfold wb; omega))
  · exact c2f (nI_ge (a := 200) (by omega) (by omega)) (fin 200 (by unfold wb; omega))
theorem M_coalOf {lit : Nat} {P : Int32 → Prop} (h : mtt bk nd gv cl B) (p : P (nI (sm3 cl lit))) : g_Mo_coalOf B (nI lit) P := by
  obtain ⟨b8, hn, hg⟩ := h
  have stp : ∀ (n j x : Nat) (X : Int32 → Prop), j < 3 → g_Mo_coalOf_4 B (nI lit) P X n (nI (x + (if lit.testBit j then cl j else 0))) (nI (j + 1)) → g_Mo_coalOf_4 B (nI lit) P X (n + 1) (nI x) (nI j) := by
    intro n j x X hj q
    refine c2f (nI_ge (b := 3) hj (by omega)) ⟨vin hj (by omega), y1 ?_⟩
    rw [shr_bit _ (by omega), bt_nI (by omega), nI_1, nI_clamp (by omega), (hg j hj).2.1]
    cases hbt : lit.testBit j
    · rw [hbt] at q
      show g_Mo_coalOf_4 B (nI lit) P X n (nI x + nI 0 * nI (cl j)) _
      rw [pk_mul, nI_add, Nat.zero_mul]; exact q
    · rw [hbt] at q
      show g_Mo_coalOf_4 B (nI lit) P X n (nI x + nI 1 * nI (cl j)) _
      rw [pk_mul, nI_add, Nat.one_mul]; exact q
  refine ⟨4, stp 3 0 0 _ (by omega) (stp 2 1 _ _ (by omega) (stp 1 2 _ _ (by omega) (c2t (by decide) ?_)))⟩
  have e : 0 + (if lit.testBit 0 then cl 0 else 0) + (if lit.testBit 1 then cl 1 else 0) + (if lit.testBit 2 then cl 2 else 0) = sm3 cl lit := by unfold sm3; omega
  rw [e]; exact p
theorem at_eq (b w s : Nat) : (((1608 : Int32) * nI b) + ((8 : Int32) * nI w)) + nI s = nI (1608 * b + 8 * w + s) := by
  rw [show (1608 : Int32) = nI 1608 from rfl, show (8 : Int32) = nI 8 from rfl, pk_mul, pk_mul, nI_add, nI_add]
/-- the rows from c on are laid -/
def tab (bk : Nat) (nd gv cl : Nat → Nat) (c : Nat) (f : Nat → Int32) : Prop := ∀ b w s, c ≤ b → b ≤ bk → w ≤ 200 → s < 8 → f (1608 * b + 8 * w + s) = nI (lc nd gv cl (bk - b) b s w)
theorem M_lay57 {b x2 : Nat} {P : (Nat → Nat → Int32) → Prop} {X : (Nat → Nat → Int32) → Int32 → Int32 → Int32 → Prop} (h : mtt bk nd gv cl B) (hb : b < bk) (hx : x2 < 1608) (ht : tab bk nd gv cl (b + 1) (B 36)) : ∀ (r j best : Nat), j + r = 8 → best ≤ 1000000 →
    X B (nI b) (nI x2) (nI (lp (lstep nd gv cl (bk - (b + 1)) b (x2 % 8) (x2 / 8)) r j best)) → g_Mo_layLeast_57 J P X (r + 1) B (nI b) (nI x2) (nI best) (nI j)
  | 0, j, best, hj, hbest, hX => by
    have e : j = 8 := by omega
    subst e
    exact c2t (by decide) hX
  | r + 1, j, best, hj, hbest, hX => by
    have b8 := h.1
    refine c2f (nI_ge (b := 8) (by omega) (by omega)) ?_
    rw [show (8 : Int32) = nI 8 from rfl, pk_rem (by omega) (by omega) (by omega), pk_div (by omega) (by omega) (by omega)]
    refine M_after h hb (by omega) ?_
    have hnd := (h.2.1 b hb).2
    have hl : sm3 cl j ≤ 300 := sm3_le (fun i hi => (h.2.2 i hi).2.2.2)
    have nx : ∀ s0, s0 ≤ 1000300 → lstep nd gv cl (bk - (b + 1)) b (x2 % 8) (x2 / 8) j best = min best s0 → g_Mo_layLeast_113 J P (g_Mo_layLeast_57 J P X (r + 1)) B (nI b) (nI x2) (nI best) (nI j) (nI s0) := by
      intro s0 hs0 e
      have e1 : lp (lstep nd gv cl (bk - (b + 1)) b (x2 % 8) (x2 / 8)) (r + 1) j best = lp (lstep nd gv cl (bk - (b + 1)) b (x2 % 8) (x2 / 8)) r (j + 1) (min best s0) := by rw [← e]; rfl
      rw [e1] at hX
      have := M_lay57 (P := P) h hb hx ht r (j + 1) (min best s0) (by omega) (by omega) hX
      by_cases c : best ≤ s0
      · refine c2t (nI_le c (by omega)) ?_
        show g_Mo_layLeast_57 J P X (r + 1) B (nI b) (nI x2) (nI best) (nI j + 1)
        rw [nI_1]; rw [Nat.min_eq_left c] at this; exact this
      · refine c2f (nI_ge (by omega) (by omega)) ?_
        show g_Mo_layLeast_57 J P X (r + 1) B (nI b) (nI x2) (nI s0) (nI j + 1)
        rw [nI_1]; rw [Nat.min_eq_right (by omega)] at this; exact this
    by_cases c : wb gv (x2 % 8) j (x2 / 8) < nd b
    · exact c2f (nI_sbn c (by omega)) (nx 1000000 (by omega) (by unfold lstep; rw [if_pos c]))
    · have hwb : wb gv (x2 % 8) j (x2 / 8) ≤ 200 := by unfold wb; omega
      rw [nI_sb (by omega)]
      refine c2t (nI_pos' (by omega)) (M_coalOf h ?_)
      show vp_in _ _ ∧ _
      rw [nI_1, at_eq, nI_clamp (by omega), ht (b + 1) _ j (Nat.le_refl _) (by omega) (by omega) (by omega), nI_add]
      refine ⟨vin (by omega) (by omega), nx _ ?_ (by unfold lstep; rw [if_neg c])⟩
      have := lc_le nd gv cl (bk - (b + 1)) (b + 1) j (wb gv (x2 % 8) j (x2 / 8) - nd b)
      omega
def tabp (bk : Nat) (nd gv cl : Nat → Nat) (b x2 : Nat) (f : Nat → Int32) : Prop := ∀ x, x < x2 → f (1608 * b + x) = nI (lc nd gv cl (bk - b) b (x % 8) (x / 8))
theorem M_lay44 {b : Nat} {P : (Nat → Nat → Int32) → Prop} {X : (Nat → Nat → Int32) → Int32 → Prop} (hb : b < bk) : ∀ (d x2 : Nat) (B : Nat → Nat → Int32), x2 + d = 1608 → mtt bk nd gv cl B → tab bk nd gv cl (b + 1) (B 36) → tabp bk nd gv cl b x2 (B 36) →
    (∀ B', (∀ c, c ≠ 36 → B' c = B c) → tab bk nd gv cl b (B' 36) → X B' (nI b)) → g_Mo_layLeast_44 J P X (d + 1) B (nI b) (nI x2)
  | 0, x2, B, hx, h, ht, hq, hX => by
    have e : x2 = 1608 := by omega
    subst e
    refine c2t (by decide) (hX B (fun _ _ => rfl) fun b2 w s h1 h2 h3 h4 => ?_)
    rcases Nat.eq_or_lt_of_le h1 with c | c
    · subst c
      have := hq (8 * w + s) (by omega)
      rw [← Nat.add_assoc, show (8 * w + s) % 8 = s by omega, show (8 * w + s) / 8 = w by omega] at this
      exact this
    · exact ht b2 w s c h2 h3 h4
  | d + 1, x2, B, hx, h, ht, hq, hX => by
    have b8 := h.1
    refine c2f (nI_ge (b := 1608) (by omega) (by omega)) ⟨9, M_lay57 h hb (by omega) ht 8 0 1000000 (by omega) (Nat.le_refl _) ?_⟩
    rw [← lc_succ, show bk - (b + 1) + 1 = bk - b by omega]
    have hl := lc_le nd gv cl (bk - b) b (x2 % 8) (x2 / 8)
    refine c2t (nI_le (b := 1000000) hl (by omega)) ?_
    show vp_in _ _ ∧ _
    rw [show (1608 : Int32) = nI 1608 from rfl, pk_mul, nI_add, nI_1]
    refine ⟨vin (by omega) (by omega), ?_⟩
    have hat : sA B 36 (nI (1608 * b + x2)) (nI (lc nd gv cl (bk - b) b (x2 % 8) (x2 / 8))) 36 = upd (B 36) (1608 * b + x2) (nI (lc nd gv cl (bk - b) b (x2 % 8) (x2 / 8))) := by rw [sA_at, nI_clamp (by omega)]
    refine M_lay44 hb d (x2 + 1) _ (by omega) (h.fr fun c hc => sA_ne hc) ?_ ?_ fun B' e ht' => hX B' (fun c hc => (e c hc).trans (sA_ne hc)) ht'
    · rw [hat]
      intro b2 w s h1 h2 h3 h4
      rw [up_ne (by omega)]; exact ht b2 w s h1 h2 h3 h4
    · rw [hat]
      intro x hx'
      by_cases c : x = x2
      · subst c; rw [up_at]
      · rw [up_ne (by omega)]; exact hq x (by omega)
theorem M_lay38 {P X : (Nat → Nat → Int32) → Prop} : ∀ (c : Nat) (B : Nat → Nat → Int32), c ≤ bk → mtt bk nd gv cl B → tab bk nd gv cl c (B 36) →
    (∀ B', (∀ c, c ≠ 36 → B' c = B c) → tab bk nd gv cl 0 (B' 36) → X B') → g_Mo_layLeast_38 J P X (c + 1) B (nI c - 1)
  | 0, B, hc, h, ht, hX => c2t (by decide) (hX B (fun _ _ => rfl) ht)
  | c + 1, B, hc, h, ht, hX => by
    have b8 := h.1
    rw [nI_pred]
    refine c2f (nI_pos (by omega)) ⟨1609, M_lay44 (by omega) 1608 0 B (by omega) h ht (fun x hx => absurd hx (by omega)) fun B' e ht' => ?_⟩
    show g_Mo_layLeast_38 J P X (c + 1) B' (nI c + -1)
    rw [show nI c + (-1 : Int32) = nI c - 1 from (Int32.sub_eq_add_neg _ _).symm]
    exact M_lay38 c B' (by omega) (h.fr e) ht' fun B'' e' ht'' => hX B'' (fun k hk => (e' k hk).trans (e k hk)) ht''
theorem M_lay2 {P X : (Nat → Nat → Int32) → Prop} (hj : J 11 = nI bk) (hb : bk ≤ 8) : ∀ (d x : Nat) (B : Nat → Nat → Int32), x + d = 1608 → (∀ i, i < x → B 36 (1608 * bk + i) = 0) →
    (∀ B', (∀ c, c ≠ 36 → B' c = B c) → (∀ i, i < 1608 → B' 36 (1608 * bk + i) = 0) → X B') → g_Mo_layLeast_2 J P X (d + 1) B (nI x)
  | 0, x, B, hx, h, hX => by
    have e : x = 1608 := by omega
    subst e
    exact c2t (by decide) (hX B (fun _ _ => rfl) h)
  | d + 1, x, B, hx, h, hX => by
    refine c2f (nI_ge (b := 1608) (by omega) (by omega)) ?_
    rw [hj, show (1608 : Int32) = nI 1608 from rfl, pk_mul, nI_add, nI_1]
    refine ⟨vin (by omega) (by omega), M_lay2 hj hb d (x + 1) _ (by omega) (fun i hi => ?_) fun B' e h' => hX B' (fun c hc => (e c hc).trans (sA_ne hc)) h'⟩
    rw [sA_at, nI_clamp (by omega)]
    by_cases c : i = x
    · subst c; rw [up_at]
    · rw [up_ne (by omega)]; exact h i (by omega)
theorem M_lay {P : (Nat → Nat → Int32) → Prop} (hj : J 11 = nI bk) (h : mtt bk nd gv cl B) (hP : ∀ B', (∀ c, c ≠ 36 → B' c = B c) → tab bk nd gv cl 0 (B' 36) → P B') : g_Mo_layLeast J B P := by
  refine ⟨1609, M_lay2 hj h.1 1608 0 B (by omega) (fun i hi => absurd hi (by omega)) fun B' e h0 => y1 ?_⟩
  rw [hj]
  refine ⟨bk + 1, M_lay38 bk B' (Nat.le_refl _) (h.fr e) ?_ fun B'' e' ht => hP B'' (fun c hc => (e' c hc).trans (e c hc)) ht⟩
  intro b w s h1 h2 h3 h4
  have : b = bk := by omega
  subst this
  rw [Nat.add_assoc, h0 _ (by omega), Nat.sub_self]
  rfl
end PLAN2
