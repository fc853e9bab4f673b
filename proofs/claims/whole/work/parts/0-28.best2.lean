/-! ===== layer 2: best, fails, put together ===== -/
section OPS28
variable {k : Nat} {I J : Nat → Int32} {A B : Nat → Nat → Int32} {T : Nat → Option Nat} {L : List Nat} {K : Nat → Nat} {F : Nat → Nat → Int32} {a1 a2 : Int32}
theorem Rplan.mtx {bk : Nat} {i14 i15 j11 : Int32} {a28 a29 a30 : Nat → Int32} (hp : Rplan bk i14 i15 j11 (A 25) (A 26) (A 27) a28 a29 a30 (B 27) (B 28) (B 29)) {B' : Nat → Nat → Int32} (e : ∀ c, c ≠ 36 → B' c = B c) :
    mtt bk (fun i => (A 25 i).toNatClampNeg) (fun i => (A 26 i).toNatClampNeg) (fun i => (A 27 i).toNatClampNeg) B' := by
  obtain ⟨b8, hi14, hj11, hbs, hgs, hpr⟩ := hp
  refine mtt.fr (B := B) ⟨b8, fun i hi => ?_, fun i hi => ?_⟩ e
  · obtain ⟨e, x, hx, e2⟩ := hbs i hi
    show B 27 i = nI ((A 25 i).toNatClampNeg) ∧ (A 25 i).toNatClampNeg ≤ 100
    rw [e, e2, nI_clamp (by omega)]; exact ⟨rfl, hx⟩
  · obtain ⟨e1, e2, ⟨x, hx, e3⟩, y, hy, e4⟩ := hgs i hi
    show B 28 i = nI ((A 26 i).toNatClampNeg) ∧ B 29 i = nI ((A 27 i).toNatClampNeg) ∧ (A 26 i).toNatClampNeg ≤ 100 ∧ (A 27 i).toNatClampNeg ≤ 100
    rw [e1, e2, e3, e4, nI_clamp (by omega), nI_clamp (by omega)]; exact ⟨rfl, rfl, hx, hy⟩
theorem op_best (hR : Rel k I A T L K F J B) : g_Pw_best I A a1 a2 (fun r u => g_Mo_best J B a1 a2 (fun r2 v => r = r2 ∧ Rel (k + 1) u.1 u.2 T L K F J v)) := by
  have hU := hR.up
  obtain ⟨tk, n, m, v, sh, nr, sg, od, bk, hR⟩ := hR
  have hp := hR.2.2.2.2.2.2.2.2.2.1
  have b8 := hp.1
  have hj11 := hp.2.2.1
  refine g_wi (fun h1 => n2f nz1 ?_) (fun h1 => n2t rfl (g_mf h1 (n2t rfl ⟨rfl, hU⟩)))
  have h1' := h1
  obtain ⟨w, -, hw, rfl⟩ := rg_nI (lo := 0) (hi := 200) h1 (by omega) (by omega)
  refine C_prepare hp fun I' A' eI hI15 eA hs hm => ?_
  generalize hnd : (fun i => (A 25 i).toNatClampNeg) = nd at hs hm
  generalize hgv : (fun i => (A 26 i).toNatClampNeg) = gv at hs hm
  generalize hcl : (fun i => (A 27 i).toNatClampNeg) = cl at hs hm
  have hmt : ∀ B', (∀ c, c ≠ 36 → B' c = B c) → mtt bk nd gv cl B' := by
    subst hnd hgv hcl
    exact fun B' e => hp.mtx e
  have fin : ∀ A'' B', (∀ c, c ≠ 30 → A'' c = A' c) → mem bk nd gv cl (A'' 30) → (∀ c, c ≠ 36 → B' c = B c) → Rel (k + 1) I' A'' T L K F J B' := by
    intro A'' B' e1 e2 e3
    have q := hs.fr e1
    subst hnd hgv hcl
    exact hR.plan eI (fun c h1 h2 h3 => (e1 c h3).trans (eA c h1 h2 h3)) e3 q e2
  have hmod : ∀ {P : Int32 → (Nat → Nat → Int32) → Prop}, (∀ B', (∀ c, c ≠ 36 → B' c = B c) → tab bk nd gv cl 0 (B' 36) → (nI (lc nd gv cl bk 0 0 w) < (1000000 : Int32) → ((¬ a2 = (-1 : Int32) → (∃ N : Nat, g_Mo_best_62 J (nI w) a2 P (fun (A_20 : Nat → Nat → Int32) => P (-6 : Int32) A_20) N B' (nI w) (0 : Int32) (0 : Int32))) ∧ (a2 = (-1 : Int32) → P (nI (lc nd gv cl bk 0 0 w)) B'))) ∧ (¬ nI (lc nd gv cl bk 0 0 w) < (1000000 : Int32) → (P (-5 : Int32) B'))) → g_Mo_best J B (nI w) a2 P := by
    intro P hP
    refine g_mt h1' (n2f nz1 (M_lay hj11 (hmt B fun _ _ => rfl) fun B' e ht => ?_))
    have hat : (((1608 : Int32) * (0 : Int32)) + ((8 : Int32) * nI w)) + (0 : Int32) = nI (1608 * 0 + 8 * w + 0) := at_eq 0 w 0
    show vp_in _ _ ∧ _
    rw [hat, nI_clamp (by omega), ht 0 w 0 (by omega) (by omega) hw (by omega)]
    refine ⟨vin (by omega) (by omega), ?_⟩
    obtain ⟨p1, p2⟩ := hP B' e ht
    refine ⟨fun h => ⟨(p1 h).1, fun h2 => ?_⟩, p2⟩
    show vp_in _ _ ∧ _
    rw [hat, nI_clamp (by omega), ht 0 w 0 (by omega) (by omega) hw (by omega)]
    exact ⟨vin (by omega) (by omega), (p1 h).2 h2⟩
  refine C_least 10 A' 0 0 w _ (by omega) (by omega) (by omega) hw hs hm fun A'' e hm' => ?_
  have hl := lc_le nd gv cl (bk - 0) 0 0 w
  rw [Nat.sub_zero] at hl ⊢
  by_cases hlt : lc nd gv cl bk 0 0 w < 1000000
  · have hlt' : nI (lc nd gv cl bk 0 0 w) < (1000000 : Int32) := nI_lt (b := 1000000) hlt (by omega)
    refine c2t hlt' ?_
    by_cases hq : a2 = -1
    · refine n2t hq (hmod fun B' e' ht => c2t hlt' (n2t hq ⟨rfl, fin _ _ e hm' e'⟩))
    · refine n2f hq ?_
      have hi14 : I' 14 = nI bk := hs.2.1
      by_cases hin : inN a2 bk
      · obtain ⟨i, hi, rfl⟩ := hin
        refine c2f (nI_pos (by omega)) (c2t (by show nI i < I' 14; rw [hi14]; exact nI_lt hi (by omega)) ⟨fun z => absurd z hI15, fun _ => ⟨i + 2, ?_⟩⟩)
        refine C_lit hi i 0 0 w A'' (by omega) (by omega) hw hlt (hs.fr e) hm' fun A3 e3 hm3 => ?_
        refine hmod fun B' e' ht => c2t hlt' (n2f hq ⟨bk + 1, ?_⟩)
        refine M_b62 hj11 (hmt B' e') ht (fun z => absurd rfl (z i hi)) bk 0 0 w (by omega) (by omega) hw hlt (fun i hi => absurd hi (by omega)) fun i2 hi2 e2 => ?_
        rw [Nat.add_zero, nI_eq (by omega) (by omega)] at e2
        subst e2
        exact ⟨rfl, fin _ _ (fun c hc => (e3 c hc).trans (e c hc)) hm3 e'⟩
      · have hno : ∀ i, i < bk → ¬ a2 = nI i := fun i hi z => hin ⟨i, hi, z⟩
        have gox : g_Mo_best J B (nI w) a2 (fun r2 v => (-6 : Int32) = r2 ∧ Rel (k + 1) I' A'' T L K F J v) :=
          hmod fun B' e' ht => c2t hlt' (n2f hq ⟨bk + 1, M_b62 hj11 (hmt B' e') ht (fun _ => ⟨rfl, fin _ _ e hm' e'⟩) bk 0 0 w (by omega) (by omega) hw hlt (fun i hi => absurd hi (by omega)) fun i2 hi2 e2 => absurd e2 (hno _ (by omega))⟩)
        by_cases hneg : a2 < 0
        · exact c2t hneg gox
        · refine c2f hneg (c2f (fun z => ?_) gox)
          have z : a2 < I' 14 := z
          rw [hi14] at z
          exact hin (inN_of (by omega) hneg fun q => (fa_of_lt z).2.1 q)
  · have hlt' : ¬ nI (lc nd gv cl bk 0 0 w) < (1000000 : Int32) := nI_nlt (b := 1000000) (by omega) (by omega)
    exact c2f hlt' (hmod fun B' e' ht => c2f hlt' ⟨rfl, fin _ _ e hm' e'⟩)
/-! fails -/
def gok (nd gv : Nat → Nat) : Nat → Nat → Nat → Nat → Bool
  | 0, _, _, _ => true
  | d + 1, b, a, w => decide (nd b ≤ wb gv a 7 w) && gok nd gv d (b + 1) 7 (wb gv a 7 w - nd b)
theorem gok_mono {nd gv : Nat → Nat} : ∀ (d b : Nat) {a a2 w w2 : Nat}, wb gv a 7 w ≤ wb gv a2 7 w2 → gok nd gv d b a w = true → gok nd gv d b a2 w2 = true
  | 0, _, _, _, _, _, _, _ => rfl
  | d + 1, b, a, a2, w, w2, h, hg => by
    unfold gok at hg ⊢
    simp only [Bool.and_eq_true, decide_eq_true_eq] at hg ⊢
    refine ⟨by omega, gok_mono d (b + 1) ?_ hg.2⟩
    unfold wb
    have h2 : wb gv a 7 w - nd b ≤ wb gv a2 7 w2 - nd b := by omega
    unfold wb at h2
    omega
theorem sm3_7 : ∀ lit, lit < 8 → (lit &&& 7) = lit := by decide
theorem sm3_and {g : Nat → Nat} {a lit : Nat} : sm3 g (a &&& lit) ≤ sm3 g (a &&& 7) := by
  unfold sm3
  simp only [Nat.testBit_and]
  have h0 : Nat.testBit 7 0 = true := by decide
  have h1 : Nat.testBit 7 1 = true := by decide
  have h2 : Nat.testBit 7 2 = true := by decide
  rw [h0, h1, h2]
  cases a.testBit 0 <;> cases a.testBit 1 <;> cases a.testBit 2 <;> cases lit.testBit 0 <;> cases lit.testBit 1 <;> cases lit.testBit 2 <;> simp <;> omega
theorem lc_gok {nd gv cl : Nat → Nat} : ∀ (d b a w : Nat), lc nd gv cl d b a w < 1000000 → gok nd gv d b a w = true
  | 0, _, _, _, _ => rfl
  | d + 1, b, a, w, h => by
    obtain ⟨f1, f2, f3, f4, f5⟩ := fbst_spec h
    have ih := lc_gok d (b + 1) _ _ f5
    have hw : wb gv a (fbst nd gv cl d b a w) w ≤ wb gv a 7 w := by
      have := sm3_and (g := gv) (a := a) (lit := fbst nd gv cl d b a w)
      unfold wb; omega
    unfold gok
    simp only [Bool.and_eq_true, decide_eq_true_eq]
    refine ⟨by omega, gok_mono d (b + 1) ?_ ih⟩
    have h2 : wb gv a (fbst nd gv cl d b a w) w - nd b ≤ wb gv a 7 w - nd b := by omega
    have h3 := sm3_and (g := gv) (a := 7) (lit := fbst nd gv cl d b a w)
    rw [Nat.and_comm] at h3
    generalize fbst nd gv cl d b a w = lit at *
    have h4 : sm3 gv (lit &&& 7) ≤ sm3 gv (7 &&& 7) := h3
    have h5 : ∀ x y, x ≤ y → wb gv lit 7 x ≤ wb gv 7 7 y := fun x y hxy => by unfold wb; omega
    exact h5 _ _ h2
theorem gok_lc {nd gv cl : Nat → Nat} (hc : ∀ i, i < 3 → cl i ≤ 100) : ∀ (d b a w : Nat), gok nd gv d b a w = true → lc nd gv cl d b a w ≤ 300 * d
  | 0, _, _, _, _ => Nat.le_refl _
  | d + 1, b, a, w, h => by
    unfold gok at h
    simp only [Bool.and_eq_true, decide_eq_true_eq] at h
    obtain ⟨-, q, -⟩ := lp_min (nd := nd) (gv := gv) (cl := cl) (d := d) (b := b) (a := a) (w := w) 8 0 1000000 (Nat.le_refl _)
    rw [← lc_succ] at q
    have q7 := q 7 (by omega) (by omega)
    have ih := gok_lc hc d (b + 1) 7 _ h.2
    have hs : sm3 cl 7 ≤ 300 := sm3_le hc
    unfold cv at q7
    rw [if_neg (by omega)] at q7
    omega
theorem C_fail {bk : Nat} {nd gv cl : Nat → Nat} {a1 : Int32} {P : Int32 → ((Nat → Int32) × (Nat → Nat → Int32)) → Prop} (h : stt bk nd gv cl I A) : ∀ (r b w : Nat), b + r = bk → w ≤ 200 → P (oN (fd (fun x => !gok nd gv (x + 1 - b) b (if b = 0 then 0 else 7) w) r b)) (I, A) →
    g_Pl_firstFailure_8 a1 P (fun (I_6 : Nat → Int32) (A_6 : Nat → Nat → Int32) => P (-6 : Int32) (I_6, A_6)) (r + 1) I A (nI w) (nI b)
  | 0, b, w, hr, hw, hP => by
    have b8 := h.1
    exact c2t (by rw [h.2.1]; exact nI_le (by omega) (by omega)) hP
  | r + 1, b, w, hr, hw, hP => by
    have b8 := h.1
    refine c2f (by rw [h.2.1]; exact nI_ge (by omega) (by omega)) ?_
    have core : ∀ a, a < 8 → (a &&& 7) = a → (if b = 0 then 0 else 7) = a → g_Pl_firstFailure_28 a1 P (g_Pl_firstFailure_8 a1 P (fun (I_6 : Nat → Int32) (A_6 : Nat → Nat → Int32) => P (-6 : Int32) (I_6, A_6)) (r + 1)) I A (nI w) (nI b) (nI b) (nI a) := by
      intro a ha ha7 hab
      rw [hab] at hP
      refine C_behind h (by omega) ha hw ?_
      have hwb : min 200 (w + sm3 gv a) = wb gv a 7 w := by unfold wb; rw [ha7]
      rw [hwb]
      have hwb2 : wb gv a 7 w ≤ 200 := by unfold wb; omega
      have hnd := (h.2.2.1 b (by omega)).2
      have e1 : gok nd gv (b + 1 - b) b a w = decide (nd b ≤ wb gv a 7 w) := by
        rw [show b + 1 - b = 0 + 1 by omega]; unfold gok gok; rw [Bool.and_true]
      by_cases c : wb gv a 7 w < nd b
      · refine c2f (nI_sbn c (by omega)) ?_
        unfold fd at hP
        rw [e1, decide_eq_false (by omega)] at hP
        exact hP
      · rw [nI_sb (by omega), nI_1]
        refine c2t (nI_pos' (by omega)) (C_fail h r (b + 1) _ (by omega) (by omega) ?_)
        unfold fd at hP
        rw [e1, decide_eq_true (by omega)] at hP
        have e2 : fd (fun x => !gok nd gv (x + 1 - (b + 1)) (b + 1) (if b + 1 = 0 then 0 else 7) (wb gv a 7 w - nd b)) r (b + 1) = fd (fun x => !gok nd gv (x + 1 - b) b a w) r (b + 1) := by
          refine fd_cong _ _ fun x h1 h2 => ?_
          rw [show x + 1 - b = (x + 1 - (b + 1)) + 1 by omega, if_neg (by omega)]
          conv => rhs; unfold gok
          rw [decide_eq_true (show nd b ≤ wb gv a 7 w by omega), Bool.true_and]
        rw [e2]
        exact hP
    by_cases hb : b = 0
    · subst hb
      exact n2t rfl (core 0 (by omega) (by decide) (if_pos rfl))
    · exact n2f (nI_ne0 (by omega) (by omega)) (core 7 (by omega) (by decide) (if_neg hb))
theorem M_fail {bk : Nat} {nd gv cl : Nat → Nat} {w : Nat} {P : Int32 → ((Nat → Int32) × (Nat → Nat → Int32)) → Prop} (hw : w ≤ 200) (hmt : ∀ B', (∀ c, c ≠ 36 → B' c = B c) → mtt bk nd gv cl B') (hP : ∀ B', (∀ c, c ≠ 36 → B' c = B c) → P (oN (fd (fun x => !gok nd gv (x + 1) 0 0 w) bk 0)) (va_up J 11 (nI bk), B')) : ∀ (r b : Nat) (J' : Nat → Int32) (B' : Nat → Nat → Int32), b + r = bk → (∀ c, c ≠ 11 → J' c = J c) → (∀ c, c ≠ 36 → B' c = B c) → fd (fun x => !gok nd gv (x + 1) 0 0 w) bk 0 = fd (fun x => !gok nd gv (x + 1) 0 0 w) r b →
    g_Mo_fails_25 (nI w) P (fun (I_9 : Nat → Int32) (A_9 : Nat → Nat → Int32) (x2_9 : Int32) (x3_9 : Int32) => g_Mo_fails_77 (nI w) P  I_9 A_9 x2_9 x3_9) (r + 2) J' B' (nI bk) (-6) (nI b)
  | 0, b, J', B', hr, eJ, eB, he => by
    have b8 := (hmt B fun _ _ => rfl).1
    refine c2t (nI_le (by omega) (by omega)) ?_
    have := hP B' eB
    rw [he] at this
    show P (-6) (va_up J' 11 (nI bk), B')
    rw [show va_up J' 11 (nI bk) = va_up J 11 (nI bk) from fr_up (fun c hc => by rw [va_un hc]; exact eJ c hc) (vu_at _ _ _)]
    exact this
  | r + 1, b, J', B', hr, eJ, eB, he => by
    have b8 := (hmt B fun _ _ => rfl).1
    refine c2f (nI_ge (by omega) (by omega)) (c2f (by decide) ?_)
    rw [nI_1]
    have hm1 : mtt (b + 1) nd gv cl B' := by
      obtain ⟨p1, p2, p3⟩ := hmt B' eB
      exact ⟨by omega, fun i hi => p2 i (by omega), p3⟩
    refine M_lay (bk := b + 1) (vu_at _ _ _) hm1 fun B2 e2 ht => ?_
    have hat : (((1608 : Int32) * (0 : Int32)) + ((8 : Int32) * nI w)) + (0 : Int32) = nI (1608 * 0 + 8 * w + 0) := at_eq 0 w 0
    show vp_in _ _ ∧ _
    rw [hat, nI_clamp (by omega), ht 0 w 0 (by omega) (by omega) hw (by omega)]
    refine ⟨vin (by omega) (by omega), ?_⟩
    rw [Nat.sub_zero]
    have hl := lc_le nd gv cl (b + 1) 0 0 w
    have eB2 : ∀ c, c ≠ 36 → B2 c = B c := fun c hc => (e2 c hc).trans (eB c hc)
    have eJ2 : ∀ c, c ≠ 11 → va_up J' 11 (nI (b + 1)) c = J c := fun c hc => by rw [va_un hc]; exact eJ c hc
    by_cases c : lc nd gv cl (b + 1) 0 0 w < 1000000
    · refine c2t (nI_lt (b := 1000000) c (by omega)) ?_
      show g_Mo_fails_25 (nI w) P _ (r + 2) _ B2 (nI bk) (-6) (nI b + 1)
      rw [nI_1]
      refine M_fail hw hmt hP r (b + 1) _ B2 (by omega) eJ2 eB2 ?_
      rw [he]
      conv => lhs; unfold fd
      rw [lc_gok _ _ _ _ c]
      rfl
    · refine c2f (nI_nlt (b := 1000000) (by omega) (by omega)) ?_
      have hg : gok nd gv (b + 1) 0 0 w = false := by
        cases hq : gok nd gv (b + 1) 0 0 w with
        | false => rfl
        | true =>
          have := gok_lc (cl := cl) (fun i hi => ((hmt B fun _ _ => rfl).2.2 i hi).2.2.2) (b + 1) 0 0 w hq
          omega
      have hres := hP B2 eB2
      rw [he] at hres
      unfold fd at hres
      rw [hg] at hres
      show g_Mo_fails_25 (nI w) P _ (r + 2) _ B2 (nI bk) (nI b) (nI b + 1)
      rw [nI_1]
      have fin : P (nI b) (va_up (va_up J' 11 (nI (b + 1))) 11 (nI bk), B2) := by
        rw [show va_up (va_up J' 11 (nI (b + 1))) 11 (nI bk) = va_up J 11 (nI bk) from fr_up (fun c hc => by rw [va_un hc]; exact eJ2 c hc) (vu_at _ _ _)]
        exact hres
      refine ⟨fun _ => fin, fun _ => c2t (nI_pos' (by omega)) fin⟩
theorem op_fails (hR : Rel k I A T L K F J B) : g_Pw_fails I A a1 (fun r u => g_Mo_fails J B a1 (fun r2 v => r = r2 ∧ Rel (k + 1) u.1 u.2 T L K F v.1 v.2)) := by
  have hU := hR.up
  obtain ⟨tk, n, m, v, sh, nr, sg, od, bk, hR⟩ := hR
  have hp := hR.2.2.2.2.2.2.2.2.2.1
  have b8 := hp.1
  have hj11 := hp.2.2.1
  refine g_wi (fun h1 => c2f nz1 ?_) (fun h1 => c2t rfl (g_mf h1 (n2t rfl ⟨rfl, hU⟩)))
  have h1' := h1
  obtain ⟨w, -, hw, rfl⟩ := rg_nI (lo := 0) (hi := 200) h1 (by omega) (by omega)
  refine C_prepare hp fun I' A' eI hI15 eA hs hm => ⟨bk + 1, C_fail hs bk 0 w (by omega) hw ?_⟩
  refine g_mt h1' (n2f nz1 (y1 ⟨bk + 2, ?_⟩))
  rw [hj11]
  refine M_fail (J := J) hw (fun B' e => hp.mtx e) (fun B' e => ⟨?_, ?_⟩) bk 0 J B (by omega) (fun _ _ => rfl) (fun _ _ => rfl) rfl
  · rfl
  · have : va_up J 11 (nI bk) = J := (fr_up (fun _ _ => rfl) hj11).symm
    show Rel (k + 1) I' A' T L K F (va_up J 11 (nI bk)) B'
    rw [this]
    exact hR.plan eI eA e hs hm
end OPS28
