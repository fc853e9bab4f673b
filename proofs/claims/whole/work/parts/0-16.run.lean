/-! ===== layer 2: the class's sweeps ===== -/
section RUN
variable {I : Nat → Int32} {A A0 : Nat → Nat → Int32} {T : Nat → Option Nat} {L : List Nat} {K : Nat → Nat} {F : Nat → Nat → Int32} {tick : Int32} {n m : Nat} {S : Nat → Option Int32} {tk : Nat → Int32 → Int32} {H : Nat → Int32} {M : List (Nat × Nat × Int32)}
def cfgB (n : Nat) (H : Nat → Int32) (S : Nat → Option Int32) (tk : Nat → Int32 → Int32) (M : List (Nat × Nat × Int32)) : Prop :=
  n ≤ 12 ∧ okM n M ∧ M.length ≤ 18 ∧ (∀ i, i < n → ∃ x, x ≤ 200 ∧ H i = nI x) ∧ (∀ i p, i < n → S i = none → p.toInt ≤ 7000 → ∃ t, t ≤ 14000 ∧ tk i p = nI t) ∧ (∀ i x, i < n → S i = some x → ∃ y, y ≤ 5000 ∧ x = nI y)
theorem cfgB.sw (h : cfgB n H S tk M) : ∀ a, hdB n a → hdB n (sweepP n H S tk M a).1 := fun _ ha => sweep_bd h.2.1 h.2.2.1 h.2.2.2.1 h.2.2.2.2.1 ha
theorem cfgB.b0 (h : cfgB n H S tk M) : hdB n (beginP H S) := by
  intro i hi
  obtain ⟨x, hx, ex⟩ := h.2.2.2.1 i hi
  unfold beginP
  rw [ex, show (10 : Int32) = nI 10 from rfl, pk_mul]
  cases e : S i with
  | none => exact ⟨10 * x, by omega, by show nI (10 * x) + nI 0 = _; rw [nI_add]; rfl⟩
  | some w =>
    obtain ⟨y, hy, ey⟩ := h.2.2.2.2.2 i w hi e
    exact ⟨10 * x + y, by omega, by show nI (10 * x) + w = _; rw [ey, nI_add]⟩
theorem cfgB.it (h : cfgB n H S tk M) : ∀ p, hdB n (itH (sweepP n H S tk M) (beginP H S) p)
  | 0 => h.b0
  | p + 1 => h.sw _ (h.it p)
theorem cfgB.cg (h : cfgB n H S tk M) : ∀ a b, EqN n a b → EqN n (sweepP n H S tk M a).1 (sweepP n H S tk M b).1 ∧ (sweepP n H S tk M a).2 = (sweepP n H S tk M b).2 := fun _ _ e => sweep_cong h.2.1 EqN.rf (fun _ _ => rfl) (fun _ _ _ _ => rfl) e
theorem LK.fr (h : LK A0 M n) (hA : ∀ c, c ≠ 9 → c ≠ 12 → A c = A0 c) : LK A M n := by
  obtain ⟨h1, h2⟩ := h
  refine ⟨fun t p hp => ?_, fun i hi => ?_⟩
  · rw [hA 15 (by decide) (by decide), hA 16 (by decide) (by decide)]; exact h1 t p hp
  · rw [hA 14 (by decide) (by decide)]; exact h2 i hi
theorem hdB.cg {h h' : Nat → Int32} (hb : hdB n h) (e : EqN n h h') : hdB n h' := fun i hi => by
  obtain ⟨x, hx, ex⟩ := hb i hi
  exact ⟨x, hx, by rw [← e i hi]; exact ex⟩
theorem C_sweep_l {P : Int32 → (Nat → Nat → Int32) → Prop} {X : (Nat → Nat → Int32) → Int32 → Prop} (hV : clsV n T L K F tick S tk) (hc : cfgB n H S tk M) (hn : I 4 = nI n) (h10 : ∀ i, i < n → A0 10 i = bI (S i).isSome) (hK : LK A0 M n) (h7 : EqN n (A0 7) H) : ∀ (d j : Nat) (A : Nat → Nat → Int32) (h : Nat → Int32) (mx : Int32), j + d = n → (∀ c, c ≠ 9 → A c = A0 c) → EqN n (A 9) h → hdB n h →
    (∀ A2, (∀ c, c ≠ 9 → A2 c = A0 c) → EqN n (A2 9) (lp (sw1 H S tk M) d j (h, mx)).1 → X A2 (lp (sw1 H S tk M) d j (h, mx)).2) → g_Ne_sweep_4 I T L K F tick P X (d + 1) A mx (nI j)
  | 0, j, A, h, mx, hj, hf, he, hb, hX => by
    have n12 := hc.1
    have e : j = n := by omega
    subst e
    exact c2t (lit_le hn (Nat.le_refl _) (by omega)) (hX A hf he)
  | d + 1, j, A, h, mx, hj, hf, he, hb, hX => by
    have n12 := hc.1
    have hjn : j < n := by omega
    have hin : vp_in (nI j) 12 := vin (by omega) (by omega)
    have hcl : (nI j).toNatClampNeg = j := nI_clamp (by omega)
    refine c2f (lit_lt hn (by omega) (by omega)) ⟨hin, ?_⟩
    rw [hcl, hf 10 (by decide), h10 j hjn]
    have hX' : ∀ A2, (∀ c, c ≠ 9 → A2 c = A0 c) → EqN n (A2 9) (lp (sw1 H S tk M) d (j + 1) (sw1 H S tk M j (h, mx))).1 → X A2 (lp (sw1 H S tk M) d (j + 1) (sw1 H S tk M j (h, mx))).2 := hX
    cases e : S j with
    | some x =>
      refine n2f nz1 ?_
      show g_Ne_sweep_4 I T L K F tick P X (d + 1) A mx (nI j + 1)
      rw [nI_1]
      rw [show sw1 H S tk M j (h, mx) = (h, mx) by unfold sw1; rw [e]; rfl] at hX'
      exact C_sweep_l hV hc hn h10 hK h7 d (j + 1) A h mx (by omega) hf he hb hX'
    | none =>
      refine n2t rfl (hV.2.1 j A _ hjn e ?_)
      have hK2 : LK A M n := hK.fr (fun c c9 _ => hf c c9)
      have hA7 : A 7 j = H j := by rw [hf 7 (by decide)]; exact h7 j hjn
      refine C_next (H := H) hc.2.1 hc.2.2.1 n12 hjn hK2 (hb.cg he.sm) hA7 ⟨hin, y1 ⟨hin, ?_⟩⟩
      show g_Ne_sweep_4 I T L K F tick P X (d + 1) (sA A 9 (nI j) (nxt H tk M (A 9) j)) (if mx < absI (nxt H tk M (A 9) j - A 9 j) then absI (nxt H tk M (A 9) j - A 9 j) else mx) (nI j + 1)
      have en : nxt H tk M (A 9) j = nxt H tk M h j := nxt_cong hc.2.1 hjn he rfl (fun _ => rfl)
      rw [nI_1, en, he j hjn]
      have es : sw1 H S tk M j (h, mx) = (upd h j (nxt H tk M h j), if mx < absI (nxt H tk M h j - h j) then absI (nxt H tk M h j - h j) else mx) := by unfold sw1; rw [e]; rfl
      have hb2 : hdB n (upd h j (nxt H tk M h j)) := by
        obtain ⟨x, hx, ex⟩ := hc.2.2.2.1 j hjn
        obtain ⟨y, hy, ey⟩ := hb j hjn
        have hp : (h j - 10 * H j).toInt ≤ 7000 := by
          rw [ey, ex, show (10 : Int32) = nI 10 from rfl, pk_mul, fb_subI, nI_toInt (by omega), nI_toInt (by omega)]
          · omega
          · rw [nI_toInt (by omega), nI_toInt (by omega)]; omega
          · rw [nI_toInt (by omega), nI_toInt (by omega)]; omega
        obtain ⟨t, ht1, ht2⟩ := hc.2.2.2.2.1 j _ hjn e hp
        obtain ⟨z, hz, ez⟩ := nxt_bd (n := n) hc.2.1 hc.2.2.1 hb ex hx ht2 ht1
        intro i hi
        by_cases ei : i = j
        · subst ei; rw [up_at]; exact ⟨z, hz, ez⟩
        · rw [up_ne ei]; exact hb i hi
      rw [es] at hX'
      refine C_sweep_l hV hc hn h10 hK h7 d (j + 1) _ _ _ (by omega) (fun c c9 => ?_) (fun i hi => ?_) hb2 hX'
      · rw [sA_ne c9]; exact hf c c9
      · rw [sA_at, hcl]
        by_cases ei : i = j
        · subst ei; rw [up_at, up_at]
        · rw [up_ne ei, up_ne ei]; exact he i hi
theorem C_sweep {P : Int32 → (Nat → Nat → Int32) → Prop} {h : Nat → Int32} (hV : clsV n T L K F tick S tk) (hc : cfgB n H S tk M) (hn : I 4 = nI n) (h10 : ∀ i, i < n → A 10 i = bI (S i).isSome) (hK : LK A M n) (h7 : EqN n (A 7) H) (he : EqN n (A 9) h) (hb : hdB n h)
    (hP : ∀ A2, (∀ c, c ≠ 9 → A2 c = A c) → EqN n (A2 9) (sweepP n H S tk M h).1 → P (sweepP n H S tk M h).2 A2) : g_Ne_sweep I A T L K F tick P :=
  ⟨n + 1, C_sweep_l hV hc hn h10 hK h7 n 0 A h 0 (by omega) (fun _ _ => rfl) he hb hP⟩
theorem C_marked_l {P : Int32 → Prop} {X : Prop} (hn : I 4 = nI n) (n12 : n ≤ 12) : ∀ (d j : Nat), j + d = n → (∀ i, i < j → A 9 i = A 12 i) → (EqN n (A 9) (A 12) → X) → (¬ EqN n (A 9) (A 12) → P 0) → g_Ne_isAsMarked_2 I A P X (d + 1) (nI j)
  | 0, j, hj, hi, h1, h0 => by
    have e : j = n := by omega
    subst e
    exact c2t (lit_le hn (Nat.le_refl _) (by omega)) (h1 hi)
  | d + 1, j, hj, hi, h1, h0 => by
    have hin : vp_in (nI j) 12 := vin (by omega) (by omega)
    refine c2f (lit_lt hn (by omega) (by omega)) ⟨hin, hin, ?_⟩
    rw [nI_clamp (by omega)]
    by_cases c : A 9 j = A 12 j
    · refine c2t c ?_
      rw [nI_1]
      refine C_marked_l hn n12 d (j + 1) (by omega) (fun i hlt => ?_) h1 h0
      by_cases e : i = j
      · subst e; exact c
      · exact hi i (by omega)
    · exact c2f c (h0 (fun z => c (z j (by omega))))
theorem C_marked {P : Int32 → Prop} (hn : I 4 = nI n) (n12 : n ≤ 12) (h1 : EqN n (A 9) (A 12) → P 1) (h0 : ¬ EqN n (A 9) (A 12) → P 0) : g_Ne_isAsMarked I A P :=
  ⟨n + 1, C_marked_l hn n12 n 0 (by omega) (fun i hi => absurd hi (by omega)) h1 h0⟩
theorem C_mark {P : (Nat → Nat → Int32) → Prop} (h : ∀ A2, (∀ c, c ≠ 12 → A2 c = A c) → (∀ i, i < 12 → A2 12 i = A 9 i) → P A2) : g_Ne_markHeads A P := by
  refine h _ (fun c hc => va_un hc) (fun i hi => ?_)
  rw [vu_at, show (0 : Int32).toNatClampNeg = 0 from rfl, show (12 : Int32).toNatClampNeg = 12 from rfl]
  unfold va_cpy
  rw [if_pos (by omega), show 0 + (i - 0) = i by omega]
theorem nI_dec (l : Nat) : nI (l + 1) + (-1) = nI l := by
  have h := nI_pred l
  rw [Int32.sub_eq_add_neg] at h
  exact h
def resW (r : (Nat → Int32) × Nat × Bool) : Int32 := if r.2.2 then nI r.2.1 else -5
theorem C_run_l {P : Int32 → (Nat → Nat → Int32) → Prop} {nr : Int32} (hV : clsV n T L K F tick S tk) (hc : cfgB n H S tk M) (hn : I 4 = nI n) (hnr : I 5 = nr) (h10 : ∀ i, i < n → A0 10 i = bI (S i).isSome) (hK : LK A0 M n) (h7 : EqN n (A0 7) H)
    (hP : ∀ A2, (∀ c, c ≠ 9 → c ≠ 12 → A2 c = A0 c) → EqN n (A2 9) (workP n H S tk M nr).1 → P (resW (workP n H S tk M nr)) A2) : ∀ (f l a p : Nat) (A : Nat → Nat → Int32) (pt : Int32), l < f → p + l = 500 → a ≤ p → (∀ c, c ≠ 9 → c ≠ 12 → A c = A0 c) → EqN n (A 9) (itH (sweepP n H S tk M) (beginP H S) p) → EqN n (A 12) (itH (sweepP n H S tk M) (beginP H S) (p - a)) →
    (∀ s, s < p → ¬ (sweepP n H S tk M (itH (sweepP n H S tk M) (beginP H S) s)).2 ≤ nr) → g_Ne_runSweeps_22 I T L K F tick P (fun A2 => P (-5) A2) f A (nI l) (nI a) pt
  | 0, l, a, p, A, pt, h0, _, _, _, _, _, _ => by omega
  | f + 1, 0, a, p, A, pt, hlt, hpl, hap, hf, h9, h12, hs => by
    refine c2t (by decide) ?_
    have hp : p = 500 := by omega
    subst hp
    have e := wk_no (sw := sweepP n H S tk M) (nr := nr) 500 0 (beginP H S) hs
    have hP' := hP A hf
    unfold workP at hP'
    rw [e] at hP'
    exact hP' h9
  | f + 1, l + 1, a, p, A, pt, hlt, hpl, hap, hf, h9, h12, hs => by
    have n12 := hc.1
    refine c2f (nI_nle (by omega) (by omega)) ?_
    have hK2 : LK A M n := hK.fr hf
    refine C_sweep hV hc hn (fun i hi => by rw [hf 10 (by decide) (by decide)]; exact h10 i hi) hK2 (fun i hi => by rw [hf 7 (by decide) (by decide)]; exact h7 i hi) h9 (hc.it p) (fun A2 hf2 h92 => ?_)
    have hfr : ∀ c, c ≠ 9 → c ≠ 12 → A2 c = A0 c := fun c c9 c12 => by rw [hf2 c c9]; exact hf c c9 c12
    have h92' : EqN n (A2 9) (itH (sweepP n H S tk M) (beginP H S) (p + 1)) := h92
    rw [hnr]
    by_cases c : (sweepP n H S tk M (itH (sweepP n H S tk M) (beginP H S) p)).2 ≤ nr
    · refine c2f (fun z => (fa_of_lt z).2.1 c) ?_
      have e := wk_yes (sw := sweepP n H S tk M) (nr := nr) 500 0 p (beginP H S) (by omega) hs c
      have hP' := hP A2 hfr
      unfold workP at hP'
      rw [e] at hP'
      have er : (500 : Int32) - (nI (l + 1) + (-1)) = nI (0 + p + 1) := by
        rw [nI_dec, show (500 : Int32) = nI 500 from rfl, fa_eq, fb_subI, nI_toInt (by omega), nI_toInt (by omega), nI_toInt (by omega)]
        · omega
        · rw [nI_toInt (by omega), nI_toInt (by omega)]; omega
        · rw [nI_toInt (by omega), nI_toInt (by omega)]; omega
      rw [er]
      exact hP' h92'
    · refine c2t (fa_of_nle c) ?_
      rw [nI_dec, nI_1]
      have hs2 : ∀ s, s < p + 1 → ¬ (sweepP n H S tk M (itH (sweepP n H S tk M) (beginP H S) s)).2 ≤ nr := by
        intro s hsp
        rcases Nat.lt_succ_iff_lt_or_eq.mp hsp with h | h
        · exact hs s h
        · subst h; exact c
      have h122 : EqN n (A2 12) (itH (sweepP n H S tk M) (beginP H S) (p - a)) := by
        rw [hf2 12 (by decide)]; exact h12
      refine c2f (nI_nle (by omega) (by omega)) (C_marked hn n12 (fun hmk => ?_) (fun hmk => ?_))
      · refine c2f nz1 ⟨nI_ne0 (by omega) (by omega), y1 ?_⟩
        rw [pk_rem (by omega) (by omega) (by omega)]
        have hq := Nat.div_add_mod l (a + 1)
        have hring : EqN n (itH (sweepP n H S tk M) (beginP H S) (p - a + (a + 1))) (itH (sweepP n H S tk M) (beginP H S) (p - a)) := by
          rw [show p - a + (a + 1) = p + 1 by omega]
          exact (h92'.sm.tr hmk).tr h122
        have hm1 := ring_mul hc.cg hring (l / (a + 1)) (a + 1)
        have hm0 := ring_mul hc.cg hring (l / (a + 1)) 0
        rw [show p - a + (a + 1) = p + 1 by omega] at hm1
        rw [Nat.add_zero] at hm0
        have hmod : l % (a + 1) ≤ l := Nat.mod_le _ _
        refine C_run_l hV hc hn hnr h10 hK h7 hP f (l % (a + 1)) (a + 1) (p + 1 + (a + 1) * (l / (a + 1))) A2 pt (by omega) (by omega) (by omega) hfr (h92'.tr hm1.sm) ?_ (fun s hs3 => ?_)
        · rw [show p + 1 + (a + 1) * (l / (a + 1)) - (a + 1) = p - a + (a + 1) * (l / (a + 1)) by omega]
          exact h122.tr hm0.sm
        · rcases Nat.lt_or_ge s (p + 1) with h | h
          · exact hs2 s h
          · have ht := Nat.div_add_mod (s - (p - a)) (a + 1)
            have hlt2 := Nat.mod_lt (s - (p - a)) (show 0 < a + 1 by omega)
            have hm := ring_mul hc.cg hring ((s - (p - a)) / (a + 1)) ((s - (p - a)) % (a + 1))
            rw [show p - a + (s - (p - a)) % (a + 1) + (a + 1) * ((s - (p - a)) / (a + 1)) = s by omega] at hm
            rw [(hc.cg _ _ hm).2]
            exact hs2 _ (by omega)
      · refine c2t rfl ⟨fun _ => ?_, fun _ => C_mark (fun A3 hf3 h3 => y1 ?_)⟩
        · refine C_run_l hV hc hn hnr h10 hK h7 hP f l (a + 1) (p + 1) A2 pt (by omega) (by omega) (by omega) hfr h92' ?_ hs2
          rw [show p + 1 - (a + 1) = p - a by omega]
          exact h122
        · refine C_run_l hV hc hn hnr h10 hK h7 hP f l 0 (p + 1) A3 _ (by omega) (by omega) (by omega) (fun c c9 c12 => by rw [hf3 c c12]; exact hfr c c9 c12) ?_ ?_ hs2
          · rw [hf3 9 (by decide)]; exact h92'
          · intro i hi
            rw [h3 i (by omega), Nat.sub_zero]
            exact h92' i hi
/-- SWEEPS from the beginning -/
theorem C_run {P : Int32 → (Nat → Nat → Int32) → Prop} {nr : Int32} {v sh : Nat} (hV : clsV n T L K F tick S tk) (hc : cfgB n H S tk (mlist m (omB (A 20) sh v m) (A 17) (A 18) (A 19))) (hn : I 4 = nI n) (hnr : I 5 = nr) (hm : I 9 = nI m) (m18 : m ≤ 18) (hv : I 10 = nI v) (v12 : v ≤ 12) (hsh : I 11 = nI sh) (ho : ∀ i, i < v → inN (A 20 i) m) (he : ∀ j, j < m → ∃ x y, x < n ∧ y < n ∧ A 17 j = nI x ∧ A 18 j = nI y) (h7 : EqN n (A 7) H)
    (hP : ∀ A2, (∀ c, c ≠ 9 → c ≠ 10 → c ≠ 12 → c ≠ 14 → c ≠ 15 → c ≠ 16 → A2 c = A c) → EqN n (A2 9) (workP n H S tk (mlist m (omB (A 20) sh v m) (A 17) (A 18) (A 19)) nr).1 → P (resW (workP n H S tk (mlist m (omB (A 20) sh v m) (A 17) (A 18) (A 19)) nr)) A2) : g_Ne_runSweeps I A T L K F tick P := by
  have n12 := hc.1
  refine ⟨n + 1, C_begin_l (A0 := A) hV hn n12 n 0 A (by omega) (fun _ _ _ => rfl) (fun i hi => absurd hi (by omega)) (fun A1 hf1 h1 => ?_)⟩
  refine C_open (A := A1) (bs := 0) hm hv v12 hsh (fun i hi => by rw [hf1 20 (by decide) (by decide)]; exact ho i hi) m18 ?_
  rw [Nat.or_zero, hf1 20 (by decide) (by decide)]
  refine ⟨n + 1, ?_⟩
  refine C_list_out (A0 := A1) (bits := omB (A 20) sh v m) (e1 := A 17) (e2 := A 18) (w := A 19) hm m18 hn n12 he n 0 A1 (by omega) (fun _ _ _ _ => rfl) (hf1 17 (by decide) (by decide)) (hf1 18 (by decide) (by decide)) (hf1 19 (by decide) (by decide)) (fun t p hp => by simp [flat] at hp) (fun i' hi' => absurd hi' (by omega)) (fun A2 hf2 hok h14 => ?_)
  refine ⟨by rw [hn]; exact vin (by omega) (by omega), ?_⟩
  rw [hn]
  refine C_mark (fun A3 hf3 h3 => ?_)
  have e3 : ∀ c, c ≠ 12 → c ≠ 14 → A3 c = A2 c := fun c c12 c14 => by rw [hf3 c c12, sA_ne c14]
  have e14 : ∀ i, i ≤ n → A3 14 i = nI (flat (mlist m (omB (A 20) sh v m) (A 17) (A 18) (A 19)) i).length := by
    intro i hi
    rw [hf3 14 (by decide), sA_at, nI_clamp (by omega)]
    by_cases e : i = n
    · subst e; rw [up_at]
    · rw [up_ne e]; exact h14 i (by omega)
  have hK : LK A3 (mlist m (omB (A 20) sh v m) (A 17) (A 18) (A 19)) n := by
    refine ⟨fun t p hp => ?_, e14⟩
    rw [e3 15 (by decide) (by decide), e3 16 (by decide) (by decide)]
    exact hok t p hp
  have eA : ∀ c, c ≠ 9 → c ≠ 10 → c ≠ 12 → c ≠ 14 → c ≠ 15 → c ≠ 16 → A3 c = A c := fun c c9 c10 c12 c14 c15 c16 => by rw [e3 c c12 c14, hf2 c c14 c15 c16, hf1 c c9 c10]
  have h9 : EqN n (A3 9) (beginP H S) := by
    intro i hi
    rw [e3 9 (by decide) (by decide), hf2 9 (by decide) (by decide) (by decide), (h1 i hi).2]
    unfold beginP
    rw [h7 i hi]
  refine ⟨501, C_run_l (A0 := A3) hV hc hn hnr (fun i hi => ?_) hK (fun i hi => ?_) (fun A4 hf4 h4 => ?_) 501 500 0 0 A3 _ (by omega) (by omega) (by omega) (fun _ _ _ => rfl) h9 ?_ (fun s hs => absurd hs (by omega))⟩
  · rw [e3 10 (by decide) (by decide), hf2 10 (by decide) (by decide) (by decide)]; exact (h1 i hi).1
  · rw [eA 7 (by decide) (by decide) (by decide) (by decide) (by decide) (by decide)]; exact h7 i hi
  · exact hP A4 (fun c c9 c10 c12 c14 c15 c16 => by rw [hf4 c c9 c12]; exact eA c c9 c10 c12 c14 c15 c16) h4
  · intro i hi
    rw [h3 i (by omega), sA_ne (by decide)]
    have := h9 i hi
    rw [e3 9 (by decide) (by decide)] at this
    exact this
end RUN
