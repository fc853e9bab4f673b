/-! ===== layer 2: gauges ===== -/
theorem four {r : Nat} (h : r < 4) : r = 0 ∨ r = 1 ∨ r = 2 ∨ r = 3 := by omega
def hpl (A B : Nat → Nat → Int32) (a1 a2 : Int32) : Prop := ∃ r i z, r < 4 ∧ a1 = nI r ∧ i < z ∧ z ≤ 20 ∧ a2 = nI i ∧ A 3 r = nI z ∧ B 20 r = nI z
section OPS7
variable {k : Nat} {I : Nat → Int32} {A : Nat → Nat → Int32} {T : Nat → Option Nat} {L : List Nat} {K : Nat → Nat} {F : Nat → Nat → Int32} {J : Nat → Int32} {B : Nat → Nat → Int32} {a1 a2 a3 a4 a5 : Int32}
theorem C_hasNumber {P : Int32 → Prop} {nu : Nat → Nat → Int32} {b21 b22 : Nat → Int32} (hr : Rrow (A 3) (B 20) nu b21 b22) (h1 : hpl A B a1 a2 → P 1) (h0 : ¬ hpl A B a1 a2 → P 0) : g_Pw_hasNumber A a1 a2 P := by
  refine g_wi (fun h => c2f nz1 ⟨fun hn => h0 ?_, fun hn => ?_⟩) (fun h => c2t rfl (h0 ?_))
  · rintro ⟨r, i, z, -, -, hi, hz, rfl, -⟩; exact nI_pos (by omega) hn
  · obtain ⟨r, -, hr3, rfl⟩ := rg_nI (lo := 0) (hi := 3) h (by omega) (by omega)
    refine ⟨vin (by omega) (by omega), ?_⟩
    rw [nI_clamp (by omega)]
    obtain ⟨i, hi, rfl⟩ := nI_of hn
    rcases (hr r (by omega)).1 with ⟨e1, e2⟩ | ⟨z, hz, e1, e2⟩
    · rw [e1]
      refine c2t (i_trans (b := 0) (by decide) (nI_pos' (by omega))) (h0 ?_)
      rintro ⟨r2, i2, z2, hr2, er, -, hz2, -, e3, -⟩
      rw [nI_eq (by omega) (by omega)] at er
      subst er
      rw [e1] at e3
      exact m6_nI (by omega) e3.symm
    · rw [e1]
      by_cases c : i < z
      · exact c2f (nI_ge c (by omega)) (h1 ⟨r, i, z, by omega, rfl, c, hz, rfl, e1, e2⟩)
      · refine c2t (nI_le (by omega) (by omega)) (h0 ?_)
        rintro ⟨r2, i2, z2, hr2, er, hi2, hz2, ei, e3, -⟩
        rw [nI_eq (by omega) (by omega)] at er
        subst er
        rw [nI_eq (by omega) (by omega)] at ei
        rw [e1, nI_eq (by omega) (by omega)] at e3
        omega
  · rintro ⟨r, i, z, hr, rfl, -⟩
    exact h ⟨nI_pos' (by omega), nI_le (b := 3) (by omega) (by omega)⟩
theorem m_rowT {P : Int32 → Prop} (h : (0 : Int32) ≤ a1 ∧ a1 ≤ 3) (p : P 1) : g_Mo_isRow a1 P := g_mt h ⟨Or.inr rfl, p⟩
theorem m_rowF {P : Int32 → Prop} (h : ¬ ((0 : Int32) ≤ a1 ∧ a1 ≤ 3)) (p : P 0) : g_Mo_isRow a1 P := g_mf h ⟨Or.inl rfl, p⟩
theorem M_hasPlaceT {P : Int32 → Prop} (h : hpl A B a1 a2) (p : P 1) : g_Mo_hasPlace B a1 a2 P := by
  obtain ⟨r, i, z, hr, rfl, hi, hz, rfl, e1, e2⟩ := h
  refine m_rowT ⟨nI_pos' (n := r) (by omega), nI_le (a := r) (b := 3) (by omega) (by omega)⟩ (c2f nz1 ⟨vin (by omega) (by omega), ?_⟩)
  rw [nI_clamp (by omega)]
  exact g_inC_t (by omega) e2 hi (c2f nz1 p)
theorem M_hasPlaceF {P : Int32 → Prop} {nu : Nat → Nat → Int32} {b21 b22 : Nat → Int32} (hr : Rrow (A 3) (B 20) nu b21 b22) (h : ¬ hpl A B a1 a2) (p : P 0) : g_Mo_hasPlace B a1 a2 P := by
  by_cases h3 : (0 : Int32) ≤ a1 ∧ a1 ≤ 3
  · refine m_rowT h3 (c2f nz1 ?_)
    obtain ⟨r, -, hr3, rfl⟩ := rg_nI (lo := 0) (hi := 3) h3 (by omega) (by omega)
    refine ⟨vin (by omega) (by omega), ?_⟩
    rw [nI_clamp (by omega)]
    rcases (hr r (by omega)).1 with ⟨e1, e2⟩ | ⟨z, hz, e1, e2⟩
    · rw [e2]
      refine g_mf (fun z => ?_) (c2t rfl p)
      have := i_trans z.1 z.2
      exact absurd this (by decide)
    · refine g_inC_f (n := z) (by omega) e2 (fun hin => h ?_) (c2t rfl p)
      obtain ⟨i, hi, rfl⟩ := hin
      exact ⟨r, i, z, by omega, rfl, hi, hz, rfl, e1, e2⟩
  · exact m_rowF h3 (c2t rfl p)
theorem at20 (r i : Nat) : (20 : Int32) * nI r + nI i = nI (20 * r + i) := by rw [show (20 : Int32) = nI 20 from rfl, pk_mul, nI_add]
theorem A31 {r : Nat} (hr : r < 4) (A : Nat → Nat → Int32) : A (31 + r) = pk4 (A 31) (A 32) (A 33) (A 34) r := by
  rcases four hr with rfl | rfl | rfl | rfl <;> rfl
/-- one number of a row changes -/
theorem Rrow.set {r i : Nat} {x y z : Int32} {a3 b20 : Nat → Int32} {nu nu2 : Nat → Nat → Int32} {b21 b22 : Nat → Int32} (h : Rrow a3 b20 nu b21 b22) (hr : r < 4) (hi : i < 20) (hnu : ∀ s, s < 4 → nu2 s = if s = r then upd (nu r) i x else nu s)
    (hB : isB z) (h0 : z = 0 → x = y ∧ rg y (-1000000) 1000000) (h1 : ¬ z = 0 → x = -1000001) : Rrow a3 b20 nu2 (upd b21 (20 * r + i) y) (upd b22 (20 * r + i) z) := by
  intro s hs
  refine ⟨(h s hs).1, fun j hj => ?_⟩
  rw [hnu s hs]
  by_cases e : s = r
  · subst e
    rw [if_pos rfl]
    by_cases e2 : j = i
    · subst e2
      rw [up_at, up_at, up_at]
      exact ⟨hB, h0, h1⟩
    · rw [up_ne e2, up_ne (by omega), up_ne (by omega)]
      exact (h s hs).2 j hj
  · rw [if_neg e, up_ne (by omega), up_ne (by omega)]
    exact (h s hs).2 j hj
theorem pk4_sA {r : Nat} (hr : r < 4) (A : Nat → Nat → Int32) (ii x : Int32) : ∀ s, s < 4 → pk4 (sA A (31 + r) ii x 31) (sA A (31 + r) ii x 32) (sA A (31 + r) ii x 33) (sA A (31 + r) ii x 34) s = if s = r then upd (pk4 (A 31) (A 32) (A 33) (A 34) r) ii.toNatClampNeg x else pk4 (A 31) (A 32) (A 33) (A 34) s := by
  intro s hs
  rcases four hr with rfl | rfl | rfl | rfl <;> rcases four hs with rfl | rfl | rfl | rfl <;> rfl
theorem op_put (hR : Rel k I A T L K F J B) : g_Pw_put A a1 a2 a3 (fun r u => g_Mo_put B a1 a2 a3 (fun r2 v => r = r2 ∧ Rel (k + 1) I u T L K F J v)) := by
  have hU := hR.up
  obtain ⟨tk, n, m, v, sh, nr, sg, od, bk, ht, hc, hn, hm, hv, hnr, hmm, hs, ho, hp, hrw, htm, hmt, hkn, hth⟩ := hR
  refine C_hasNumber hrw (fun h => n2f nz1 (g_wi (fun h3 => n2f nz1 ?_) (fun h3 => n2t rfl (M_hasPlaceT h (n2f nz1 (g_mf h3 (n2t rfl ⟨rfl, hU⟩))))))) (fun h => n2t rfl (M_hasPlaceF hrw h (n2t rfl ⟨rfl, hU⟩)))
  have hh := h
  obtain ⟨r, i, z, hr, rfl, hi, hz, rfl, e1, e2⟩ := h
  refine ⟨vin hr (by omega), vin (by omega) (by omega), M_hasPlaceT hh (n2f nz1 (g_mt h3 (n2f nz1 ?_)))⟩
  rw [at20]
  have hin : vp_in (nI (20 * r + i)) 80 := vin (by omega) (by omega)
  refine ⟨hin, hin, rfl, ?_⟩
  have hc1 : (nI r).toNatClampNeg = r := nI_clamp (by omega)
  have hc2 : (nI (20 * r + i)).toNatClampNeg = 20 * r + i := nI_clamp (by omega)
  have hc3 : (nI i).toNatClampNeg = i := nI_clamp (by omega)
  have hnu := pk4_sA hr A (nI i) a3
  rw [hc3] at hnu
  have hnew := hrw.set (x := a3) (y := a3) (z := 0) hr (show i < 20 by omega) hnu (Or.inl rfl) (fun _ => ⟨rfl, rg_le h3⟩) (fun z => absurd rfl z)
  rw [← hc2] at hnew
  rw [hc1]
  rcases four hr with rfl | rfl | rfl | rfl <;> exact ⟨tk, n, m, v, sh, nr, sg, od, bk, ht.up, hc, hn, hm, hv, hnr, hmm, hs, ho, hp, hnew, htm, hmt, hkn, hth⟩
theorem op_none (hR : Rel k I A T L K F J B) : g_Pw_none A a1 a2 (fun r u => g_Mo_none B a1 a2 (fun r2 v => r = r2 ∧ Rel (k + 1) I u T L K F J v)) := by
  have hU := hR.up
  obtain ⟨tk, n, m, v, sh, nr, sg, od, bk, ht, hc, hn, hm, hv, hnr, hmm, hs, ho, hp, hrw, htm, hmt, hkn, hth⟩ := hR
  refine C_hasNumber hrw (fun h => n2f nz1 ?_) (fun h => n2t rfl (M_hasPlaceF hrw h (n2t rfl ⟨rfl, hU⟩)))
  have hh := h
  obtain ⟨r, i, z, hr, rfl, hi, hz, rfl, e1, e2⟩ := h
  refine ⟨vin hr (by omega), vin (by omega) (by omega), M_hasPlaceT hh (n2f nz1 ?_)⟩
  rw [at20]
  have hin : vp_in (nI (20 * r + i)) 80 := vin (by omega) (by omega)
  refine ⟨hin, rfl, ?_⟩
  have hc1 : (nI r).toNatClampNeg = r := nI_clamp (by omega)
  have hc2 : (nI (20 * r + i)).toNatClampNeg = 20 * r + i := nI_clamp (by omega)
  have hc3 : (nI i).toNatClampNeg = i := nI_clamp (by omega)
  have hnu := pk4_sA hr A (nI i) (-1000001)
  rw [hc3] at hnu
  have hnew := hrw.set (x := -1000001) (y := B 21 (20 * r + i)) (z := 1) hr (show i < 20 by omega) hnu (Or.inr rfl) (fun z => absurd z nz1) (fun _ => rfl)
  rw [fa_upd_same rfl, ← hc2] at hnew
  rw [hc1]
  rcases four hr with rfl | rfl | rfl | rfl <;> exact ⟨tk, n, m, v, sh, nr, sg, od, bk, ht.up, hc, hn, hm, hv, hnr, hmm, hs, ho, hp, hnew, htm, hmt, hkn, hth⟩
theorem op_read (hR : Rel k I A T L K F J B) : g_Pw_read I A a1 a2 (fun r u => g_Mo_read J B a1 a2 (fun r2 v => r = r2 ∧ Rel (k + 1) I u T L K F J v)) := by
  have hU := hR.up
  obtain ⟨tk, n, m, v, sh, nr, sg, od, bk, ht, hc, hn, hm, hv, hnr, hmm, hs, ho, hp, hrw, htm, hmt, hkn, hth⟩ := hR
  obtain ⟨n12, hi4, hj0, hh, hd, hhd⟩ := id hn
  refine g_has n12 hi4 (fun i hi e => ?_) (fun h => ?_)
  · subst e
    refine c2f nz1 (g_wi (fun h1 => n2f nz1 ?_) (fun h1 => n2t rfl (m_nodeT n12 hj0 hi (c2f nz1 (m_rowF h1 (n2t rfl ⟨rfl, hU⟩))))))
    refine C_hasNumber hrw (fun h => n2f nz1 ?_) (fun h => n2t rfl (m_nodeT n12 hj0 hi (c2f nz1 (m_rowT h1 (n2f nz1 (M_hasPlaceF hrw h (n2t rfl ⟨rfl, hU⟩)))))))
    have hpl' := h
    obtain ⟨r, i2, z, hr, rfl, hi2, hz, ei, e1, e2⟩ := h
    rw [nI_eq (by omega) (by omega)] at ei
    subst ei
    have hc1 : (nI r).toNatClampNeg = r := nI_clamp (by omega)
    have hc2 : (nI (20 * r + i)).toNatClampNeg = 20 * r + i := nI_clamp (by omega)
    have hc3 : (nI i).toNatClampNeg = i := nI_clamp (by omega)
    have hin4 : vp_in (nI r) 4 := vin hr (by omega)
    have hin20 : vp_in (nI i) 20 := vin (by omega) (by omega)
    have hin12 : vp_in (nI i) 12 := vin (by omega) (by omega)
    have hin80 : vp_in (nI (20 * r + i)) 80 := vin (by omega) (by omega)
    obtain ⟨qB, q0, q1⟩ := (hrw r hr).2 i (by omega)
    refine ⟨hin4, hin20, ?_⟩
    rw [hc1, hc3, A31 hr A]
    by_cases e22 : B 22 (20 * r + i) = 0
    · obtain ⟨q2, q3⟩ := q0 e22
      rw [q2]
      have hne : ¬ B 21 (20 * r + i) = -1000001 := by
        intro e
        rw [e] at q3
        exact absurd q3 (by unfold rg; decide)
      refine n2f hne ⟨hin4, hin20, hin12, hin12, m_nodeT n12 hj0 hi (c2f nz1 (m_rowT h1 (n2f nz1 (M_hasPlaceT hpl' (n2f nz1 ?_)))))⟩
      rw [at20]
      refine ⟨hin80, ?_⟩
      rw [hc2]
      refine c2t e22 ⟨hin80, hin12, hin12, ?_, ?_⟩
      · rw [sA_at, sA_at, hc3, up_at, up_at]
      · have hnew : Rkn (upd (A 4) (nI i).toNatClampNeg (B 21 (20 * r + i) / 100)) (upd (B 12) (nI i).toNatClampNeg (B 21 (20 * r + i) / 100)) := by
          rw [hc3]
          intro j hj
          by_cases e : j = i
          · subst e
            rw [up_at, up_at]
            refine ⟨rfl, ?_⟩
            unfold rg at q3 ⊢
            rw [Int32.toInt_div_of_ne_right _ _ (by decide), show (100 : Int32).toInt = 100 from by decide]
            generalize (B 21 (20 * r + j)).toInt = w at q3
            refine ⟨?_, ?_⟩ <;> rcases Int.le_total 0 w with hw | hw
            · rw [Int.tdiv_eq_ediv_of_nonneg hw]; omega
            · have : w.tdiv 100 = -((-w) / 100) := by
                rw [show w = -(-w) by omega, Int.neg_tdiv, Int.tdiv_eq_ediv_of_nonneg (by omega)]; simp
              omega
            · rw [Int.tdiv_eq_ediv_of_nonneg hw]; omega
            · have : w.tdiv 100 = -((-w) / 100) := by
                rw [show w = -(-w) by omega, Int.neg_tdiv, Int.tdiv_eq_ediv_of_nonneg (by omega)]; simp
              omega
          · rw [up_ne e, up_ne e]; exact hkn j hj
        exact ⟨tk, n, m, v, sh, nr, sg, od, bk, ht.up, hc, hn, hm, hv, hnr, hmm, hs, ho, hp, hrw, htm, hmt, hnew, hth⟩
    · rw [q1 e22]
      refine n2t rfl (m_nodeT n12 hj0 hi (c2f nz1 (m_rowT h1 (n2f nz1 (M_hasPlaceT hpl' (n2f nz1 ?_))))))
      rw [at20]
      refine ⟨hin80, ?_⟩
      rw [hc2]
      exact c2f e22 ⟨rfl, hU⟩
  · exact c2t rfl (m_nodeF n12 hj0 h (c2t rfl ⟨rfl, hU⟩))
/-- an array is filled -/
theorem C_fill_l {k1 : Nat} {P X : (Nat → Nat → Int32) → Prop} (hk : lenC k1 < 2 ^ 31) : ∀ (d j : Nat), j + d = lenC k1 → X (va_up A k1 (fa_fill (fun _ => a2) (A k1) (lenC k1))) → g_JArr_fill_5 k1 a2 P X (d + 1) (va_up A k1 (fa_fill (fun _ => a2) (A k1) j)) (nI j) (nI (lenC k1))
  | 0, j, hj, h => by
    have e : j = lenC k1 := by omega
    subst e
    exact c2t (nI_le (Nat.le_refl _) hk) h
  | d + 1, j, hj, h => by
    refine c2f (nI_ge (by omega) hk) ⟨vin (by omega) hk, ?_⟩
    have e : sA (va_up A k1 (fa_fill (fun _ => a2) (A k1) j)) k1 (nI j) a2 = va_up A k1 (fa_fill (fun _ => a2) (A k1) (j + 1)) := by
      funext c
      by_cases q : c = k1
      · subst q; rw [sA_at, vu_at, vu_at, nI_clamp (by omega)]; exact fa_fill_succ (fun _ => a2) (A c) j
      · rw [sA_ne q, va_un q, va_un q]
    rw [e, nI_1]
    exact C_fill_l hk d (j + 1) (by omega) h
theorem C_fill {k1 : Nat} {P : (Nat → Nat → Int32) → Prop} (hk : lenC k1 < 2 ^ 31) (h : P (va_up A k1 (fa_fill (fun _ => a2) (A k1) (lenC k1)))) : g_JArr_fill A k1 a2 P := by
  refine y1 ⟨lenC k1 + 1, ?_⟩
  have e : va_up A k1 (fa_fill (fun _ => a2) (A k1) 0) = A := by
    funext c
    by_cases q : c = k1
    · subst q; rw [vu_at, fa_fill_0]
    · rw [va_un q]
  have := C_fill_l (A := A) (a2 := a2) (P := P) (X := fun A => P A) hk (lenC k1) 0 (by omega) h
  rw [e] at this
  exact this
theorem M_row_l {r : Nat} {P : Int32 → (Nat → Nat → Int32) → Prop} {X : (Nat → Nat → Int32) → Int32 → Prop} {x3 : Int32} (hr : r < 4) : ∀ (d j : Nat), j + d = 20 → X (va_up (va_up B 21 (fb_put (B 21) (fun _ => 0) (20 * r) 20)) 22 (fb_put (B 22) (fun _ => 0) (20 * r) 20)) x3 → g_Mo_row_39 (nI r) a2 P X (d + 1) (va_up (va_up B 21 (fb_put (B 21) (fun _ => 0) (20 * r) j)) 22 (fb_put (B 22) (fun _ => 0) (20 * r) j)) x3 (nI j)
  | 0, j, hj, h => by
    have e : j = 20 := by omega
    subst e
    exact c2t (nI_le (a := 20) (b := 20) (Nat.le_refl _) (by omega)) h
  | d + 1, j, hj, h => by
    have hin : vp_in ((20 : Int32) * nI r + nI j) 80 := by rw [at20]; exact vin (by omega) (by omega)
    refine c2f (nI_ge (b := 20) (by omega) (by omega)) ⟨hin, hin, ?_⟩
    have e : sA (sA (va_up (va_up B 21 (fb_put (B 21) (fun _ => 0) (20 * r) j)) 22 (fb_put (B 22) (fun _ => 0) (20 * r) j)) 21 ((20 : Int32) * nI r + nI j) 0) 22 ((20 : Int32) * nI r + nI j) (vp_nar .boolean 0) = va_up (va_up B 21 (fb_put (B 21) (fun _ => 0) (20 * r) (j + 1))) 22 (fb_put (B 22) (fun _ => 0) (20 * r) (j + 1)) := by
      rw [at20]
      funext c
      by_cases q : c = 22
      · subst q; rw [sA_at, sA_ne (by decide), vu_at, vu_at, nI_clamp (by omega)]; exact fb_put_succ (B 22) (fun _ => 0) (20 * r) j
      · by_cases q2 : c = 21
        · subst q2; rw [sA_ne q, sA_at, va_un q, vu_at, va_un q, vu_at, nI_clamp (by omega)]; exact fb_put_succ (B 21) (fun _ => 0) (20 * r) j
        · rw [sA_ne q, sA_ne q2, va_un q, va_un q2, va_un q, va_un q2]
    rw [e, nI_1]
    exact M_row_l hr d (j + 1) (by omega) h
theorem pk4_va {r : Nat} (hr : r < 4) (A : Nat → Nat → Int32) (g : Nat → Int32) : ∀ s, s < 4 → pk4 (va_up A (31 + r) g 31) (va_up A (31 + r) g 32) (va_up A (31 + r) g 33) (va_up A (31 + r) g 34) s = if s = r then g else pk4 (A 31) (A 32) (A 33) (A 34) s := by
  intro s hs
  rcases four hr with rfl | rfl | rfl | rfl <;> rcases four hs with rfl | rfl | rfl | rfl <;> rfl
theorem Rrow.row {r : Nat} {x y : Int32} {a3 b20 : Nat → Int32} {nu nu2 : Nat → Nat → Int32} {b21 b22 : Nat → Int32} (h : Rrow a3 b20 nu b21 b22) (hr : r < 4) (hnu : ∀ s, s < 4 → nu2 s = if s = r then fa_fill (fun _ => 0) (nu r) 20 else nu s)
    (hx : (x = -6 ∧ y = -1) ∨ ∃ z, z ≤ 20 ∧ x = nI z ∧ y = nI z) : Rrow (upd a3 r x) (upd b20 r y) nu2 (fb_put b21 (fun _ => 0) (20 * r) 20) (fb_put b22 (fun _ => 0) (20 * r) 20) := by
  intro s hs
  rw [hnu s hs]
  by_cases e : s = r
  · subst e
    rw [up_at, up_at, if_pos rfl]
    refine ⟨hx, fun j hj => ?_⟩
    rw [fb_put_in (by omega) (by omega), fb_put_in (by omega) (by omega), fa_fill_in hj]
    exact ⟨Or.inl rfl, fun _ => ⟨rfl, by unfold rg; decide⟩, fun z => absurd rfl z⟩
  · rw [up_ne e, up_ne e, if_neg e]
    refine ⟨(h s hs).1, fun j hj => ?_⟩
    rw [fb_put_out (by omega), fb_put_out (by omega)]
    exact (h s hs).2 j hj
theorem len31 {r : Nat} (hr : r < 4) : lenC (31 + r) = 20 := by rcases four hr with rfl | rfl | rfl | rfl <;> rfl
theorem op_row (hR : Rel k I A T L K F J B) : g_Pw_row A a1 a2 (fun r u => g_Mo_row B a1 a2 (fun r2 v => r = r2 ∧ Rel (k + 1) I u T L K F J v)) := by
  have hU := hR.up
  obtain ⟨tk, n, m, v, sh, nr, sg, od, bk, ht, hc, hn, hm, hv, hnr, hmm, hs, ho, hp, hrw, htm, hmt, hkn, hth⟩ := hR
  refine g_wi (fun h1 => n2f nz1 (g_wi (fun h2 => n2f nz1 ?_) (fun h2 => n2t rfl (m_rowT h1 (n2f nz1 (g_mf h2 (n2t rfl ⟨rfl, hU⟩))))))) (fun h1 => n2t rfl (m_rowF h1 (n2t rfl ⟨rfl, hU⟩)))
  have h1' := h1
  obtain ⟨r, -, hr, rfl⟩ := rg_nI (lo := 0) (hi := 3) h1 (by omega) (by omega)
  have hr4 : r < 4 := by omega
  have hin4 : vp_in (nI r) 4 := vin hr4 (by omega)
  have hcl : (nI r).toNatClampNeg = r := nI_clamp (by omega)
  have key : ∀ x : Int32, ((x = -6 ∧ a2 = -1) ∨ ∃ z, z ≤ 20 ∧ x = nI z ∧ a2 = nI z) → g_Pw_row_47 (nI r) a2 (fun r' u => g_Mo_row B (nI r) a2 (fun r2 v => r' = r2 ∧ Rel (k + 1) I u T L K F J v)) A (A 3 r) (nI r) x := by
    intro x hx
    refine ⟨hin4, hin4, ?_⟩
    rw [hcl]
    refine C_fill (by rw [len31 hr4]; omega) ?_
    rw [len31 hr4]
    refine m_rowT h1' (n2f nz1 (g_mt h2 (n2f nz1 ⟨hin4, y1 ⟨hin4, 21, ?_⟩⟩)))
    have e0 : va_up (va_up (sA B 20 (nI r) a2) 21 (fb_put ((sA B 20 (nI r) a2) 21) (fun _ => 0) (20 * r) 0)) 22 (fb_put ((sA B 20 (nI r) a2) 22) (fun _ => 0) (20 * r) 0) = sA B 20 (nI r) a2 := by
      rw [fb_put_0, fb_put_0]
      funext c
      by_cases q : c = 22
      · subst q; rw [vu_at]
      · by_cases q2 : c = 21
        · subst q2; rw [va_un q, vu_at]
        · rw [va_un q, va_un q2]
    have hl := M_row_l (B := sA B 20 (nI r) a2) (a2 := a2) (P := fun r2 v => A 3 r = r2 ∧ Rel (k + 1) I (va_up (sA A 3 (nI r) x) (31 + r) (fa_fill (fun _ => 0) ((sA A 3 (nI r) x) (31 + r)) 20)) T L K F J v) (X := fun A_7 x3_7 => (0 ≤ x3_7 → (A 3 r = x3_7 ∧ Rel (k + 1) I (va_up (sA A 3 (nI r) x) (31 + r) (fa_fill (fun _ => 0) ((sA A 3 (nI r) x) (31 + r)) 20)) T L K F J A_7)) ∧ (¬ 0 ≤ x3_7 → (A 3 r = -6 ∧ Rel (k + 1) I (va_up (sA A 3 (nI r) x) (31 + r) (fa_fill (fun _ => 0) ((sA A 3 (nI r) x) (31 + r)) 20)) T L K F J A_7))) (x3 := B 20 r) hr4 20 0 (by omega) ?_
    · rw [e0] at hl
      rw [hcl]
      exact hl
    · have hn31 : (sA A 3 (nI r) x) (31 + r) = pk4 (A 31) (A 32) (A 33) (A 34) r := by rw [sA_ne (by omega)]; exact A31 hr4 A
      have hnew := hrw.row (x := x) (y := a2) hr4 (pk4_va hr4 (sA A 3 (nI r) x) (fa_fill (fun _ => 0) (pk4 (A 31) (A 32) (A 33) (A 34) r) 20)) hx
      rw [← hcl] at hnew
      rw [hn31]
      have hres : ∀ BB, Rel (k + 1) I (va_up (sA A 3 (nI r) x) (31 + r) (fa_fill (fun _ => 0) (pk4 (A 31) (A 32) (A 33) (A 34) r) 20)) T L K F J BB → (0 ≤ B 20 r → A 3 r = B 20 r ∧ Rel (k + 1) I (va_up (sA A 3 (nI r) x) (31 + r) (fa_fill (fun _ => 0) (pk4 (A 31) (A 32) (A 33) (A 34) r) 20)) T L K F J BB) ∧ (¬ 0 ≤ B 20 r → A 3 r = -6 ∧ Rel (k + 1) I (va_up (sA A 3 (nI r) x) (31 + r) (fa_fill (fun _ => 0) (pk4 (A 31) (A 32) (A 33) (A 34) r) 20)) T L K F J BB) := by
        intro BB hBB
        rcases (hrw r hr4).1 with ⟨e1, e2⟩ | ⟨z, hz, e1, e2⟩
        · rw [e1, e2]; exact c2f (by decide) ⟨rfl, hBB⟩
        · rw [e1, e2]; exact c2t (nI_pos' (by omega)) ⟨rfl, hBB⟩
      refine hres _ ?_
      rw [hcl] at hnew
      rcases four hr4 with rfl | rfl | rfl | rfl <;> exact ⟨tk, n, m, v, sh, nr, sg, od, bk, ht.up, hc, hn, hm, hv, hnr, hmm, hs, ho, hp, hnew, htm, hmt, hkn, hth⟩
  refine ⟨hin4, y1 ?_⟩
  rw [hcl]
  refine ⟨fun hm1 => key a2 (Or.inr ?_), fun hm1 => key (-6) (Or.inl ⟨rfl, hm1⟩)⟩
  have h20 := h2.2
  have hlo := h2.1
  have : (0 : Int32) ≤ a2 := by
    rw [fa_le] at hlo ⊢
    have e1 : (-1 : Int32).toInt = -1 := by decide
    have e2 : (0 : Int32).toInt = 0 := by decide
    have : a2.toInt ≠ -1 := fun z => hm1 ((fa_eq _ _).mpr (z.trans e1.symm))
    omega
  obtain ⟨z, -, hz, rfl⟩ := rg_nI (lo := 0) (hi := 20) ⟨this, h20⟩ (by omega) (by omega)
  exact ⟨z, hz, rfl, rfl⟩
end OPS7
