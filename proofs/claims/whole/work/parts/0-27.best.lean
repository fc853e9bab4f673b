/-! ===== layer 2: best, fails ===== -/
section PLAN3
variable {bk : Nat} {nd gv cl : Nat → Nat} {I J : Nat → Int32} {A B : Nat → Nat → Int32}
def fbst (nd gv cl : Nat → Nat) (d b a w : Nat) : Nat := (fd (fun lit => decide (cv nd gv cl d b a lit w = lc nd gv cl (d + 1) b a w)) 8 0).getD 0
theorem fbst_spec {d b a w : Nat} (h : lc nd gv cl (d + 1) b a w < 1000000) : fbst nd gv cl d b a w < 8 ∧ cv nd gv cl d b a (fbst nd gv cl d b a w) w = lc nd gv cl (d + 1) b a w ∧ (∀ k, k < fbst nd gv cl d b a w → ¬ cv nd gv cl d b a k w = lc nd gv cl (d + 1) b a w) ∧
    nd b ≤ wb gv a (fbst nd gv cl d b a w) w ∧ lc nd gv cl d (b + 1) (fbst nd gv cl d b a w) (wb gv a (fbst nd gv cl d b a w) w - nd b) < 1000000 := by
  obtain ⟨-, -, h3⟩ := lp_min (nd := nd) (gv := gv) (cl := cl) (d := d) (b := b) (a := a) (w := w) 8 0 1000000 (Nat.le_refl _)
  rw [← lc_succ] at h3
  have hx : ∃ x, fd (fun lit => decide (cv nd gv cl d b a lit w = lc nd gv cl (d + 1) b a w)) 8 0 = some x := by
    cases e : fd (fun lit => decide (cv nd gv cl d b a lit w = lc nd gv cl (d + 1) b a w)) 8 0 with
    | some x => exact ⟨x, rfl⟩
    | none =>
      rcases h3 with q | ⟨i, q1, q2, q3⟩
      · omega
      · have := fd_none e i q1 q2
        simp only [decide_eq_false_iff_not] at this
        exact absurd q3.symm this
  obtain ⟨x, e⟩ := hx
  have ef : fbst nd gv cl d b a w = x := by unfold fbst; rw [e]; rfl
  obtain ⟨-, p2, p3, p4⟩ := fd_some e
  simp only [decide_eq_true_eq] at p3
  rw [ef]
  refine ⟨by omega, p3, fun k hk => ?_, ?_⟩
  · have := p4 k (by omega) hk
    simp only [decide_eq_false_iff_not] at this
    exact this
  · rw [← p3] at h
    unfold cv at h
    split at h
    · omega
    · exact ⟨by omega, by omega⟩
def pth (nd gv cl : Nat → Nat) (bk : Nat) : Nat → Nat → Nat → Nat → Nat
  | 0, b, a, w => fbst nd gv cl (bk - (b + 1)) b a w
  | r + 1, b, a, w => pth nd gv cl bk r (b + 1) (fbst nd gv cl (bk - (b + 1)) b a w) (wb gv a (fbst nd gv cl (bk - (b + 1)) b a w) w - nd b)
theorem C_first_l {b a w : Nat} {P : Int32 → (Nat → Nat → Int32) → Prop} {X : (Nat → Nat → Int32) → Prop} (hb : b < bk) (b8 : bk ≤ 8) (ha : a < 8) (hw : w ≤ 200) (hl : lc nd gv cl (bk - (b + 1) + 1) b a w < 1000000) : ∀ (r j : Nat) (A : Nat → Nat → Int32), j + r = fbst nd gv cl (bk - (b + 1)) b a w → stt bk nd gv cl I A → mem bk nd gv cl (A 30) →
    (∀ A', (∀ c, c ≠ 30 → A' c = A c) → mem bk nd gv cl (A' 30) → P (nI (fbst nd gv cl (bk - (b + 1)) b a w)) A') → g_Pl_firstBest_12 I (nI b) (nI a) (nI w) P X (r + 1) A (nI (lc nd gv cl (bk - (b + 1) + 1) b a w)) (nI j)
  | r, j, A, hj, h, hm, hP => by
    obtain ⟨f1, f2, f3, f4, f5⟩ := fbst_spec hl
    refine c2f (nI_ge (b := 8) (by omega) (by omega)) (C_coal (C_least 10) hb (by omega) ha (by omega) hw h hm fun A' e hm' => ?_)
    have hcv : cv nd gv cl (bk - (b + 1)) b a j w ≤ 1000300 := by
      have h1 : sm3 cl j ≤ 300 := sm3_le (fun i hi => (h.2.2.2.2 i hi).2)
      have h2 := lc_le nd gv cl (bk - (b + 1)) (b + 1) j (wb gv a j w - nd b)
      unfold cv
      split <;> omega
    cases r with
    | zero =>
      have ej : j = fbst nd gv cl (bk - (b + 1)) b a w := by omega
      rw [ej, f2]
      exact n2t rfl (hP A' e hm')
    | succ r =>
      refine n2f (fun q => f3 j (by omega) ?_) ?_
      · rwa [nI_eq (by omega) (by omega)] at q
      rw [nI_1]
      exact C_first_l hb b8 ha hw hl r (j + 1) A' (by omega) (h.fr e) hm' fun A'' e' hm'' => hP A'' (fun c hc => (e' c hc).trans (e c hc)) hm''
theorem C_first {b a w : Nat} {P : Int32 → (Nat → Nat → Int32) → Prop} (hb : b < bk) (ha : a < 8) (hw : w ≤ 200) (hl : lc nd gv cl (bk - b) b a w < 1000000) (h : stt bk nd gv cl I A) (hm : mem bk nd gv cl (A 30))
    (hP : ∀ A', (∀ c, c ≠ 30 → A' c = A c) → mem bk nd gv cl (A' 30) → P (nI (fbst nd gv cl (bk - (b + 1)) b a w)) A') : g_Pl_firstBest I A (nI b) (nI a) (nI w) P := by
  have b8 := h.1
  refine C_least 10 A b a w _ (by omega) (by omega) ha hw h hm fun A' e hm' => ⟨fbst nd gv cl (bk - (b + 1)) b a w + 1, ?_⟩
  have eb : bk - b = bk - (b + 1) + 1 := by omega
  rw [eb] at hl ⊢
  exact C_first_l hb b8 ha hw hl _ 0 A' (by omega) (h.fr e) hm' fun A'' e' hm'' => hP A'' (fun c hc => (e' c hc).trans (e c hc)) hm''
theorem C_lit {wn : Nat} {a2 : Int32} {P : Int32 → ((Nat → Int32) × (Nat → Nat → Int32)) → Prop} {X : (Nat → Int32) → (Nat → Nat → Int32) → Int32 → Prop} (hwn : wn < bk) : ∀ (r b a w : Nat) (A : Nat → Nat → Int32), b + r = wn → a < 8 → w ≤ 200 → lc nd gv cl (bk - b) b a w < 1000000 → stt bk nd gv cl I A → mem bk nd gv cl (A 30) →
    (∀ A', (∀ c, c ≠ 30 → A' c = A c) → mem bk nd gv cl (A' 30) → X I A' (nI (pth nd gv cl bk r b a w))) → g_Pl_litIn_27 (nI wn) a2 P X (r + 2) I A (nI a) (nI w) (nI b)
  | r, b, a, w, A, hr, ha, hw, hl, h, hm, hX => by
    have b8 := h.1
    have eb : bk - b = bk - (b + 1) + 1 := by omega
    obtain ⟨f1, f2, f3, f4, f5⟩ := fbst_spec (eb ▸ hl)
    refine c2f (nI_nlt (by omega) (by omega)) (C_first (by omega) ha hw hl h hm fun A' e hm' => ?_)
    rw [fa_and]
    refine C_behind (h.fr e) (by omega) (and8 ha) hw ?_
    have f4' : nd b ≤ min 200 (w + sm3 gv (a &&& fbst nd gv cl (bk - (b + 1)) b a w)) := f4
    rw [nI_sb f4', nI_1]
    cases r with
    | zero =>
      refine c2t (nI_lt (by omega) (by omega)) ?_
      exact hX A' e hm'
    | succ r =>
      refine C_lit hwn r (b + 1) _ _ A' (by omega) f1 (by omega) f5 (h.fr e) hm' fun A'' e' hm'' => ?_
      exact hX A'' (fun c hc => (e' c hc).trans (e c hc)) hm''
theorem M_b77 {b a w : Nat} {a1 a2 : Int32} {P : Int32 → (Nat → Nat → Int32) → Prop} {X : (Nat → Nat → Int32) → Int32 → Int32 → Int32 → Int32 → Prop} (hb : b < bk) (ha : a < 8) (hw : w ≤ 200) (hl : lc nd gv cl (bk - (b + 1) + 1) b a w < 1000000) (h : mtt bk nd gv cl B) (ht : tab bk nd gv cl 0 (B 36))
    (hX : X B (nI w) (nI a) (nI b) (nI (fbst nd gv cl (bk - (b + 1)) b a w))) : ∀ (r j : Nat), j + r = fbst nd gv cl (bk - (b + 1)) b a w → g_Mo_best_77 J a1 a2 P X (r + 2) B (nI w) (nI a) (nI b) (nI j) 0
  | r, j, hj => by
    have b8 := h.1
    obtain ⟨f1, f2, f3, f4, f5⟩ := fbst_spec hl
    refine n2t rfl (M_after h hb hw ?_)
    have hnd := (h.2.1 b hb).2
    have hwb : wb gv a j w ≤ 200 := by unfold wb; omega
    have hsl : sm3 cl j ≤ 300 := sm3_le (fun i hi => (h.2.2 i hi).2.2.2)
    have go : ¬ cv nd gv cl (bk - (b + 1)) b a j w = lc nd gv cl (bk - (b + 1) + 1) b a w → g_Mo_best_143 J a1 a2 P (g_Mo_best_77 J a1 a2 P X (r + 1)) B (nI w) (nI a) (nI b) (nI j) := by
      intro hne
      refine c2t rfl (y1 ?_)
      rw [nI_1]
      cases r with
      | zero =>
        have ej : j = fbst nd gv cl (bk - (b + 1)) b a w := by omega
        rw [ej] at hne
        exact absurd f2 hne
      | succ r => exact M_b77 hb ha hw hl h ht hX r (j + 1) (by omega)
    by_cases c : wb gv a j w < nd b
    · refine c2t ?_ (go ?_)
      · exact fa_of_nle (nI_sbn c (by omega))
      · unfold cv; rw [if_pos c]; omega
    · have hcv : cv nd gv cl (bk - (b + 1)) b a j w = sm3 cl j + lc nd gv cl (bk - (b + 1)) (b + 1) j (wb gv a j w - nd b) := by unfold cv; rw [if_neg c]
      have hlc := lc_le nd gv cl (bk - (b + 1)) (b + 1) j (wb gv a j w - nd b)
      rw [nI_sb (by omega)]
      refine c2f (nI_pos (by omega)) (M_coalOf h ?_)
      show vp_in _ _ ∧ vp_in _ _ ∧ _
      rw [nI_1, at_eq, at_eq, nI_clamp (by omega), nI_clamp (by omega), ht (b + 1) _ j (by omega) (by omega) (by omega) (by omega), ht b w a (by omega) (by omega) hw ha, nI_add, ← hcv, show bk - b = bk - (b + 1) + 1 by omega]
      refine ⟨vin (by omega) (by omega), vin (by omega) (by omega), ?_⟩
      rw [nI_eq (by omega) (by omega)]
      refine ⟨fun q => go q, fun q => ?_⟩
      have ej : j = fbst nd gv cl (bk - (b + 1)) b a w := by
        rcases Nat.lt_or_ge j (fbst nd gv cl (bk - (b + 1)) b a w) with z | z
        · exact absurd q (f3 j z)
        · omega
      refine c2f nz1 (y1 ?_)
      show g_Mo_best_77 J a1 a2 P X (r + 1) B (nI w) (nI a) (nI b) (nI j + nI 0) 1
      rw [nI_add, Nat.add_zero]
      refine n2f nz1 ?_
      rw [ej]; exact hX
theorem M_b62 {a1 a2 : Int32} {P : Int32 → (Nat → Nat → Int32) → Prop} {X : (Nat → Nat → Int32) → Prop} (hj : J 11 = nI bk) (h : mtt bk nd gv cl B) (ht : tab bk nd gv cl 0 (B 36)) (hX : (∀ i, i < bk → ¬ a2 = nI i) → X B) : ∀ (r b a w : Nat), b + r = bk → a < 8 → w ≤ 200 → lc nd gv cl (bk - b) b a w < 1000000 → (∀ i, i < b → ¬ a2 = nI i) →
    (∀ i, i + b < bk → a2 = nI (i + b) → P (nI (pth nd gv cl bk i b a w)) B) → g_Mo_best_62 J a1 a2 P X (r + 1) B (nI w) (nI a) (nI b)
  | 0, b, a, w, hr, ha, hw, hl, hne, hP => by
    have b8 := h.1
    refine c2t (by rw [hj]; exact nI_le (by omega) (by omega)) (hX fun i hi => hne i (by omega))
  | r + 1, b, a, w, hr, ha, hw, hl, hne, hP => by
    have b8 := h.1
    have eb : bk - b = bk - (b + 1) + 1 := by omega
    have hl' := eb ▸ hl
    obtain ⟨f1, f2, f3, f4, f5⟩ := fbst_spec hl'
    refine c2f (by rw [hj]; exact nI_ge (by omega) (by omega)) ⟨fbst nd gv cl (bk - (b + 1)) b a w + 2, M_b77 (by omega) ha hw hl' h ht ?_ _ 0 (by omega)⟩
    by_cases c : nI b = a2
    · refine n2t c ?_
      have := hP 0 (by omega) (by rw [Nat.zero_add]; exact c.symm)
      exact this
    · refine n2f c (M_after h (by omega) hw ?_)
      have hwb : wb gv a (fbst nd gv cl (bk - (b + 1)) b a w) w ≤ 200 := by unfold wb; omega
      rw [nI_sb f4, nI_1]
      refine M_b62 hj h ht hX r (b + 1) _ _ (by omega) f1 (by omega) f5 (fun i hi => ?_) fun i hi e => ?_
      · rcases Nat.lt_succ_iff_lt_or_eq.mp hi with q | q
        · exact hne i q
        · subst q; exact fun z => c z.symm
      · have := hP (i + 1) (by omega) (by rw [e]; congr 1; omega)
        exact this
end PLAN3
theorem RelP.plan {k tk n m v sh nr sg od bk : Nat} {I I' J : Nat → Int32} {A A' B B' : Nat → Nat → Int32} {T : Nat → Option Nat} {L : List Nat} {K : Nat → Nat} {F : Nat → Nat → Int32} (hR : RelP k tk n m v sh nr sg od bk I A T L K F J B) (eI : ∀ c, c ≠ 15 → I' c = I c) (eA : ∀ c, c ≠ 28 → c ≠ 29 → c ≠ 30 → A' c = A c) (eB : ∀ c, c ≠ 36 → B' c = B c)
    (hs : stt bk (fun i => (A 25 i).toNatClampNeg) (fun i => (A 26 i).toNatClampNeg) (fun i => (A 27 i).toNatClampNeg) I' A') (hm : mem bk (fun i => (A 25 i).toNatClampNeg) (fun i => (A 26 i).toNatClampNeg) (fun i => (A 27 i).toNatClampNeg) (A' 30)) : Rel (k + 1) I' A' T L K F J B' := by
  refine ⟨tk, n, m, v, sh, nr, sg, od, bk, ?_⟩
  obtain ⟨ht, hc, hn, hm', hv, hnr, hmm, hs', ho, hp, hrw, htm, hmt, hkn, hth⟩ := hR
  unfold RelP
  rw [eI 0 (by decide), eI 1 (by decide), eI 2 (by decide), eI 3 (by decide), eI 4 (by decide), eI 5 (by decide), eI 6 (by decide), eI 7 (by decide), eI 8 (by decide), eI 9 (by decide), eI 10 (by decide), eI 11 (by decide), eI 12 (by decide), eI 13 (by decide), eI 14 (by decide), eA 0 (by decide) (by decide) (by decide), eA 1 (by decide) (by decide) (by decide), eA 2 (by decide) (by decide) (by decide), eA 3 (by decide) (by decide) (by decide), eA 4 (by decide) (by decide) (by decide), eA 7 (by decide) (by decide) (by decide), eA 8 (by decide) (by decide) (by decide), eA 9 (by decide) (by decide) (by decide), eA 13 (by decide) (by decide) (by decide), eA 17 (by decide) (by decide) (by decide), eA 18 (by decide) (by decide) (by decide), eA 19 (by decide) (by decide) (by decide), eA 20 (by decide) (by decide) (by decide), eA 21 (by decide) (by decide) (by decide), eA 22 (by decide) (by decide) (by decide), eA 23 (by decide) (by decide) (by decide), eA 24 (by decide) (by decide) (by decide), eA 25 (by decide) (by decide) (by decide), eA 26 (by decide) (by decide) (by decide), eA 27 (by decide) (by decide) (by decide), eA 31 (by decide) (by decide) (by decide), eA 32 (by decide) (by decide) (by decide), eA 33 (by decide) (by decide) (by decide), eA 34 (by decide) (by decide) (by decide), eA 35 (by decide) (by decide) (by decide), eA 36 (by decide) (by decide) (by decide), eA 37 (by decide) (by decide) (by decide), eA 38 (by decide) (by decide) (by decide), eA 39 (by decide) (by decide) (by decide), eA 40 (by decide) (by decide) (by decide), eB 0 (by decide), eB 1 (by decide), eB 2 (by decide), eB 3 (by decide), eB 4 (by decide), eB 5 (by decide), eB 6 (by decide), eB 7 (by decide), eB 8 (by decide), eB 9 (by decide), eB 10 (by decide), eB 11 (by decide), eB 12 (by decide), eB 13 (by decide), eB 14 (by decide), eB 15 (by decide), eB 16 (by decide), eB 17 (by decide), eB 18 (by decide), eB 19 (by decide), eB 20 (by decide), eB 21 (by decide), eB 22 (by decide), eB 23 (by decide), eB 24 (by decide), eB 25 (by decide), eB 26 (by decide), eB 27 (by decide), eB 28 (by decide), eB 29 (by decide), eB 30 (by decide)]
  refine ⟨ht.up, hc, hn, hm', hv, hnr, hmm, hs', ho, ?_, hrw, htm, hmt, hkn, hth⟩
  obtain ⟨b8, hi14, hj11, hbs, hgs, hpr⟩ := hp
  exact ⟨b8, hi14, hj11, hbs, hgs, fun _ => ⟨hs.2.2.2.1, hm⟩⟩
