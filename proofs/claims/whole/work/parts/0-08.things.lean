/-! ===== layer 2: things are hung ===== -/
theorem vu_at {α : Type} (f : Nat → α) (k : Nat) (v : α) : va_up f k v k = v := if_pos rfl
theorem sF_at (F : Nat → Nat → Int32) (q j : Nat) (v : Int32) : sF F q j v q = va_up (F q) j v := if_pos rfl
theorem sF_ne {F : Nat → Nat → Int32} {q j x : Nat} {v : Int32} (h : x ≠ q) : sF F q j v x = F x := if_neg h
def span (a b : Int32) : Prop := ((0 : Int32) ≤ a ∧ a ≤ 1440) ∧ a ≤ b ∧ b ≤ 1440
theorem g_hoursT {a b : Int32} {P : Int32 → Prop} (h : span a b) (p : P 1) : g_Pw_areHours a b P := g_wt h.1 (c2f nz1 (g_wt h.2 (c2f nz1 p)))
theorem g_hoursF {a b : Int32} {P : Int32 → Prop} (h : ¬ span a b) (p : P 0) : g_Pw_areHours a b P := by
  refine g_wi (fun h1 => c2f nz1 (g_wi (fun h2 => absurd ⟨h1, h2⟩ h) (fun h2 => c2t rfl p))) (fun h1 => c2t rfl p)
theorem i_trans {a b c : Int32} (h1 : a ≤ b) (h2 : b ≤ c) : a ≤ c := by rw [fa_le] at *; omega
theorem m_spanT {a b : Int32} {P : Int32 → Prop} (h : span a b) (p : P 1) : g_Mo_isSpan a b P :=
  g_mt h.1 (c2f nz1 (g_mt ⟨i_trans h.1.1 h.2.1, h.2.2⟩ (c2f nz1 (c2f (fun q => (fa_of_lt q).2.1 h.2.1) p))))
theorem m_spanF {a b : Int32} {P : Int32 → Prop} (h : ¬ span a b) (p : P 0) : g_Mo_isSpan a b P := by
  by_cases h1 : (0 : Int32) ≤ a ∧ a ≤ 1440
  · refine g_mt h1 (c2f nz1 ?_)
    by_cases h2 : (0 : Int32) ≤ b ∧ b ≤ 1440
    · refine g_mt h2 (c2f nz1 ⟨fun _ => p, fun h3 => absurd ⟨h1, fa_of_nlt h3, h2.2⟩ h⟩)
    · exact g_mf h2 (c2t rfl p)
  · exact g_mf h1 (c2t rfl p)
theorem C_refuse {I : Nat → Int32} {T : Nat → Option Nat} {n : Nat} {a s : Int32} {X : Prop} {P : Int32 → Prop} (n12 : n ≤ 12) (hi4 : I 4 = nI n) (hNo : ¬ inN a n → P (-1)) (hOut : ∀ i, i < n → a = nI i → s = 0 → P (-2)) (hFull : ∀ i q, i < n → a = nI i → ¬ s = 0 → T i = some q → P (-5)) (hOk : ∀ i, i < n → a = nI i → ¬ s = 0 → T i = none → X) :
    g_Pw_refusalToHang I T a s (fun r => ((0 ≤ r → X) ∧ (¬ 0 ≤ r → P r))) := by
  refine g_has n12 hi4 (fun i hi e => ?_) (fun h => ?_)
  · subst e
    refine n2f nz1 ⟨fun h => ⟨vin (by omega) (by omega), ?_⟩, fun h => c2f (by decide) (hOut i hi rfl h)⟩
    rw [nI_clamp (by omega)]
    exact ⟨fun hT => c2t (by decide) (hOk i hi rfl h hT), fun q hT => c2f (by decide) (hFull i q hi rfl h hT)⟩
  · exact n2t rfl (c2f (by decide) (hNo h))
theorem M_layT {B : Nat → Nat → Int32} {i : Nat} {k a b c d : Int32} {P : Int32 → (Nat → Nat → Int32) → Prop} (hi : i < 12) (h : B 2 i = 0) (p : P 1 (sA (sA (sA (sA (sA (sA (sA B 2 (nI i) k) 3 (nI i) a) 4 (nI i) b) 5 (nI i) c) 6 (nI i) d) 7 (nI i) 0) 8 (nI i) (vp_nar .boolean 0))) : g_Mo_lay B (nI i) k a b c d P := by
  have hin : vp_in (nI i) 12 := vin hi (by omega)
  refine ⟨hin, c2t ?_ ⟨hin, hin, hin, hin, hin, hin, hin, p⟩⟩
  rw [nI_clamp (by omega)]; exact h
theorem M_layF {B : Nat → Nat → Int32} {i : Nat} {k a b c d : Int32} {P : Int32 → (Nat → Nat → Int32) → Prop} (hi : i < 12) (h : ¬ B 2 i = 0) (p : P (-5) B) : g_Mo_lay B (nI i) k a b c d P := by
  refine ⟨vin hi (by omega), c2f ?_ p⟩
  rw [nI_clamp (by omega)]; exact h
theorem thI_none {L : List Nat} {K : Nat → Nat} {F : Nat → Nat → Int32} {t : Option Nat} {kd on tw th fo lv li la : Int32} (h : thI t L K F kd on tw th fo lv li la) (ht : t = none) : kd = 0 ∧ lv = 0 ∧ li = 0 := by
  rcases h with ⟨-, h⟩ | ⟨q, hq, -⟩
  · exact h
  · rw [ht] at hq; cases hq
theorem thI_some {L : List Nat} {K : Nat → Nat} {F : Nat → Nat → Int32} {t : Option Nat} {q : Nat} {kd on tw th fo lv li la : Int32} (h : thI t L K F kd on tw th fo lv li la) (ht : t = some q) : q ∈ L ∧ thq (K q) (F q) kd on tw th fo lv li la := by
  rcases h with ⟨hq, -⟩ | ⟨q', hq, h1, h2⟩
  · rw [ht] at hq; cases hq
  · rw [ht] at hq; cases hq; exact ⟨h1, h2⟩
theorem thq_kd {kq : Nat} {f : Nat → Int32} {kd on tw th fo lv li la : Int32} (h : thq kq f kd on tw th fo lv li la) : ¬ kd = 0 := by
  rcases h with h | h | h | h | h | h
  · rw [h.2.1]; decide
  · rw [h.2.1]; decide
  · rw [h.2.1]; decide
  · rw [h.2.1]; decide
  · rw [h.2.1]; decide
  · rcases h.2.2.2.2.2.1 with q | q
    · rw [q.2]; decide
    · rw [q.2]; decide
theorem Rth.hang {n i q c : Nat} {T T' : Nat → Option Nat} {L : List Nat} {K K' : Nat → Nat} {F F' : Nat → Nat → Int32} {b2 b3 b4 b5 b6 b7 b8 b9 c2 c3 c4 c5 c6 c7 c8 : Nat → Int32} (h : Rth n T L K F b2 b3 b4 b5 b6 b7 b8 b9) (hn : n ≤ 12) (hi : i < n) (hq : q ∉ L)
    (hT : T' = va_up T i (some q)) (hK : K' = va_up K q c) (hF : ∀ x, x ≠ q → F' x = F x) (hb : ∀ j, j ≠ i → c2 j = b2 j ∧ c3 j = b3 j ∧ c4 j = b4 j ∧ c5 j = b5 j ∧ c6 j = b6 j ∧ c7 j = b7 j ∧ c8 j = b8 j)
    (ht : thq c (F' q) (c2 i) (c3 i) (c4 i) (c5 i) (c6 i) (c7 i) (c8 i) (b9 i)) : Rth n T' (L ++ [q]) K' F' c2 c3 c4 c5 c6 c7 c8 b9 := by
  subst hT; subst hK
  obtain ⟨h1, h2, h3⟩ := h
  have hfr : ∀ j x, j < 12 → T j = some x → x ≠ q := by
    intro j x hj hx e
    subst e
    exact hq (thI_some (h1 j hj) hx).1
  refine ⟨fun j hj => ?_, fun j hj1 hj2 => ?_, fun j j2 x hj hj2 e1 e2 => ?_⟩
  · by_cases e : j = i
    · subst e
      rw [vu_at]
      exact Or.inr ⟨q, rfl, List.mem_append_right _ List.mem_cons_self, by rw [vu_at]; exact ht⟩
    · obtain ⟨d2, d3, d4, d5, d6, d7, d8⟩ := hb j e
      rw [va_un e, d2, d3, d4, d5, d6, d7, d8]
      rcases h1 j hj with q1 | ⟨x, hx, hx2, hx3⟩
      · exact Or.inl q1
      · have hne := hfr j x hj hx
        exact Or.inr ⟨x, hx, List.mem_append_left _ hx2, by rw [va_un hne, hF x hne]; exact hx3⟩
  · rw [va_un (by omega)]; exact h2 j hj1 hj2
  · by_cases e : j = i
    · by_cases e' : j2 = i
      · omega
      · subst e
        rw [vu_at] at e1; rw [va_un e'] at e2
        cases e1
        exact absurd rfl (hfr j2 _ hj2 e2)
    · by_cases e' : j2 = i
      · subst e'
        rw [vu_at] at e2; rw [va_un e] at e1
        cases e2
        exact absurd rfl (hfr j _ hj e1)
      · rw [va_un e] at e1; rw [va_un e'] at e2
        exact h3 j j2 x hj hj2 e1 e2
theorem rg_of {x a : Int32} {lo hi : Int} (e : x = a) (h : rg a lo hi) : rg x lo hi := by subst e; exact h
theorem sA_same (A : Nat → Nat → Int32) (k : Nat) (i : Int32) : sA A k i (A k i.toNatClampNeg) = A := by
  funext j
  by_cases e : j = k
  · subst e; rw [sA_at]; exact fa_upd_same rfl
  · exact sA_ne e
theorem le_tw {x y a b : Int32} (h1 : x = a) (h2 : y = b) (h : a ≤ b) : x.toInt ≤ y.toInt := by subst h1; subst h2; exact (fa_le _ _).mp h
theorem i_neg1 : ¬ (0 : Int32) ≤ -1 := by decide
section OPS4
variable {k : Nat} {I : Nat → Int32} {A : Nat → Nat → Int32} {T : Nat → Option Nat} {L : List Nat} {K : Nat → Nat} {F : Nat → Nat → Int32} {J : Nat → Int32} {B : Nat → Nat → Int32} {a1 a2 a3 a4 a5 : Int32}
theorem op_draw (hR : Rel k I A T L K F J B) : g_Pw_draw I T L K F a1 a2 a3 a4 (fun r u => g_Mo_draw J B a1 a2 a3 a4 (fun r2 v => r = r2 ∧ Rel (k + 1) I A u.1 u.2.1 u.2.2.1 u.2.2.2 J v)) := by
  have hU := hR.up
  obtain ⟨tk, n, m, v, sh, nr, sg, od, bk, ht, hc, hn, hm, hv, hnr, hmm, hs, ho, hp, hrw, htm, hmt, hkn, hth⟩ := hR
  obtain ⟨n12, hi4, hj0, hh, hd, hhd⟩ := id hn
  by_cases h1 : (0 : Int32) ≤ a2 ∧ a2 ≤ 1000
  · by_cases h2 : span a3 a4
    · refine g_wt h1 (c2f nz1 (g_hoursT h2 (c2f nz1 (C_refuse n12 hi4 (fun h => ?_) (fun i hi e h0 => absurd h0 nz1) (fun i q hi e _ hT => ?_) (fun i hi e _ hT => ?_)))))
      · exact m_nodeF n12 hj0 h (n2t rfl ⟨rfl, hU⟩)
      · subst e
        exact m_nodeT n12 hj0 hi (n2f nz1 (g_mt h1 (c2f nz1 (m_spanT h2 (c2f nz1 (M_layF (by omega) (thq_kd (thI_some (hth.1 i (by omega)) hT).2) ⟨rfl, hU⟩))))))
      · subst e
        intro q hq
        refine ⟨vin (by omega) (by omega), List.mem_append_right _ List.mem_cons_self, by rw [vu_at]; simp [isTh], ?_⟩
        refine m_nodeT n12 hj0 hi (n2f nz1 (g_mt h1 (c2f nz1 (m_spanT h2 (c2f nz1 (M_layT (by omega) (thI_none (hth.1 i (by omega)) hT).1 ?_))))))
        refine ⟨rfl, tk, n, m, v, sh, nr, sg, od, bk, ht.up, hc, hn, hm, hv, hnr, hmm, hs, ho, hp, hrw, htm, hmt, hkn, hth.hang (i := i) (q := q) (c := 1) n12 hi hq (by rw [nI_clamp (by omega)]) rfl (fun x hx => ?_) (fun j hj => ?_) ?_⟩
        · exact (sF_ne hx).trans ((sF_ne hx).trans ((sF_ne hx).trans (va_un hx)))
        · have hj2 : j ≠ (nI i).toNatClampNeg := by rw [nI_clamp (by omega)]; exact hj
          exact ⟨up_ne hj2, up_ne hj2, up_ne hj2, up_ne hj2, up_ne hj2, up_ne hj2, up_ne hj2⟩
        · have hcl : (nI i).toNatClampNeg = i := nI_clamp (by omega)
          have e2 : ∀ (f : Nat → Int32) (x : Int32), upd f (nI i).toNatClampNeg x i = x := fun f x => by rw [hcl]; exact up_at _ _ _
          have hF : sF (sF (sF (va_up F q (fun _ => 0)) q 0 a2) q 1 a3) q 2 a4 q = (va_up (va_up (va_up (fun _ => 0) 0 a2) 1 a3) 2 a4) := by rw [sF_at, sF_at, sF_at, vu_at]
          refine Or.inl ⟨rfl, e2 _ _, ?_, ?_, ?_, e2 _ _, e2 _ _, ?_⟩
          · exact (congrFun hF 0).trans (e2 _ _).symm
          · exact (congrFun hF 1).trans (e2 _ _).symm
          · exact (congrFun hF 2).trans (e2 _ _).symm
          · exact rg_of (e2 _ _) (rg_le h1)
    · refine g_wt h1 (c2f nz1 (g_hoursF h2 (c2t rfl (?_))))
      unfold g_Pw_draw_24 g_Pw_draw_25
      refine C_refuse n12 hi4 (fun h => ?_) (fun i hi e h0 => ?_) (fun i q hi e hz hT => absurd rfl hz) (fun i hi e hz hT => absurd rfl hz)
      · exact m_nodeF n12 hj0 h (n2t rfl ⟨rfl, hU⟩)
      · subst e
        exact m_nodeT n12 hj0 hi (n2f nz1 (g_mt h1 (c2f nz1 (m_spanF h2 (c2t rfl (⟨rfl, hU⟩))))))
  · refine g_wf h1 (c2t rfl (?_))
    unfold g_Pw_draw_24 g_Pw_draw_25
    refine C_refuse n12 hi4 (fun h => ?_) (fun i hi e h0 => ?_) (fun i q hi e hz hT => absurd rfl hz) (fun i hi e hz hT => absurd rfl hz)
    · exact m_nodeF n12 hj0 h (n2t rfl ⟨rfl, hU⟩)
    · subst e
      exact m_nodeT n12 hj0 hi (n2f nz1 (g_mf h1 (c2t rfl (⟨rfl, hU⟩))))
theorem op_lift (hR : Rel k I A T L K F J B) : g_Pw_lift I T L K F a1 a2 a3 a4 a5 (fun r u => g_Mo_lift J B a1 a2 a3 a4 a5 (fun r2 v => r = r2 ∧ Rel (k + 1) I A u.1 u.2.1 u.2.2.1 u.2.2.2 J v)) := by
  have hU := hR.up
  obtain ⟨tk, n, m, v, sh, nr, sg, od, bk, ht, hc, hn, hm, hv, hnr, hmm, hs, ho, hp, hrw, htm, hmt, hkn, hth⟩ := hR
  obtain ⟨n12, hi4, hj0, hh, hd, hhd⟩ := id hn
  by_cases h1 : (0 : Int32) ≤ a2 ∧ a2 ≤ 1000
  · by_cases h2 : (0 : Int32) ≤ a3 ∧ a3 ≤ 6
    · by_cases h3 : span a4 a5
      · refine g_wt h1 (c2f nz1 (g_wt h2 (c2f nz1 (g_hoursT h3 (c2f nz1 (C_refuse n12 hi4 (fun h => ?_) (fun i hi e h0 => absurd h0 nz1) (fun i q hi e _ hT => ?_) (fun i hi e _ hT => ?_)))))))
        · exact m_nodeF n12 hj0 h (n2t rfl ⟨rfl, hU⟩)
        · subst e
          exact m_nodeT n12 hj0 hi (n2f nz1 (g_mt h1 (c2f nz1 (g_mt h2 (c2f nz1 (m_spanT h3 (c2f nz1 (M_layF (by omega) (thq_kd (thI_some (hth.1 i (by omega)) hT).2) ⟨rfl, hU⟩))))))))
        · subst e
          intro q hq
          refine ⟨vin (by omega) (by omega), List.mem_append_right _ List.mem_cons_self, by rw [vu_at]; simp [isTh], ?_⟩
          refine m_nodeT n12 hj0 hi (n2f nz1 (g_mt h1 (c2f nz1 (g_mt h2 (c2f nz1 (m_spanT h3 (c2f nz1 (M_layT (by omega) (thI_none (hth.1 i (by omega)) hT).1 ?_))))))))
          refine ⟨rfl, tk, n, m, v, sh, nr, sg, od, bk, ht.up, hc, hn, hm, hv, hnr, hmm, hs, ho, hp, hrw, htm, hmt, hkn, hth.hang (i := i) (q := q) (c := 4) n12 hi hq (by rw [nI_clamp (by omega)]) rfl (fun x hx => ?_) (fun j hj => ?_) ?_⟩
          · exact (sF_ne hx).trans ((sF_ne hx).trans ((sF_ne hx).trans ((sF_ne hx).trans (va_un hx))))
          · have hj2 : j ≠ (nI i).toNatClampNeg := by rw [nI_clamp (by omega)]; exact hj
            exact ⟨up_ne hj2, up_ne hj2, up_ne hj2, up_ne hj2, up_ne hj2, up_ne hj2, up_ne hj2⟩
          · have hcl : (nI i).toNatClampNeg = i := nI_clamp (by omega)
            have e2 : ∀ (f : Nat → Int32) (x : Int32), upd f (nI i).toNatClampNeg x i = x := fun f x => by rw [hcl]; exact up_at _ _ _
            have hF : sF (sF (sF (sF (va_up F q (fun _ => 0)) q 0 a2) q 1 a4) q 2 a5) q 3 a3 q = (va_up (va_up (va_up (va_up (fun _ => 0) 0 a2) 1 a4) 2 a5) 3 a3) := by rw [sF_at, sF_at, sF_at, sF_at, vu_at]
            refine Or.inr (Or.inl ⟨rfl, e2 _ _, ?_, ?_, ?_, ?_, e2 _ _, e2 _ _, ?_, ?_⟩)
            · exact (congrFun hF 0).trans (e2 _ _).symm
            · exact (congrFun hF 3).trans (e2 _ _).symm
            · exact (congrFun hF 1).trans (e2 _ _).symm
            · exact (congrFun hF 2).trans (e2 _ _).symm
            · exact rg_of (e2 _ _) (rg_le h1)
            · exact rg_of (e2 _ _) (rg_le h2)
      · refine g_wt h1 (c2f nz1 (g_wt h2 (c2f nz1 (g_hoursF h3 (c2t rfl (?_))))))
        unfold g_Pw_lift_35 g_Pw_lift_36
        refine C_refuse n12 hi4 (fun h => ?_) (fun i hi e h0 => ?_) (fun i q hi e hz hT => absurd rfl hz) (fun i hi e hz hT => absurd rfl hz)
        · exact m_nodeF n12 hj0 h (n2t rfl ⟨rfl, hU⟩)
        · subst e
          exact m_nodeT n12 hj0 hi (n2f nz1 (g_mt h1 (c2f nz1 (g_mt h2 (c2f nz1 (m_spanF h3 (c2t rfl (⟨rfl, hU⟩))))))))
    · refine g_wt h1 (c2f nz1 (g_wf h2 (c2t rfl (?_))))
      unfold g_Pw_lift_35 g_Pw_lift_36
      refine C_refuse n12 hi4 (fun h => ?_) (fun i hi e h0 => ?_) (fun i q hi e hz hT => absurd rfl hz) (fun i hi e hz hT => absurd rfl hz)
      · exact m_nodeF n12 hj0 h (n2t rfl ⟨rfl, hU⟩)
      · subst e
        exact m_nodeT n12 hj0 hi (n2f nz1 (g_mt h1 (c2f nz1 (g_mf h2 (c2t rfl (⟨rfl, hU⟩))))))
  · refine g_wf h1 (c2t rfl (?_))
    unfold g_Pw_lift_35 g_Pw_lift_36
    refine C_refuse n12 hi4 (fun h => ?_) (fun i hi e h0 => ?_) (fun i q hi e hz hT => absurd rfl hz) (fun i hi e hz hT => absurd rfl hz)
    · exact m_nodeF n12 hj0 h (n2t rfl ⟨rfl, hU⟩)
    · subst e
      exact m_nodeT n12 hj0 hi (n2f nz1 (g_mf h1 (c2t rfl (⟨rfl, hU⟩))))
theorem op_house (hR : Rel k I A T L K F J B) : g_Pw_house I T L K F a1 a2 a3 a4 (fun r u => g_Mo_house J B a1 a2 a3 a4 (fun r2 v => r = r2 ∧ Rel (k + 1) I A u.1 u.2.1 u.2.2.1 u.2.2.2 J v)) := by
  have hU := hR.up
  obtain ⟨tk, n, m, v, sh, nr, sg, od, bk, ht, hc, hn, hm, hv, hnr, hmm, hs, ho, hp, hrw, htm, hmt, hkn, hth⟩ := hR
  obtain ⟨n12, hi4, hj0, hh, hd, hhd⟩ := id hn
  by_cases h1 : (0 : Int32) ≤ a2 ∧ a2 ≤ 5000
  · by_cases h2 : (0 : Int32) ≤ a3 ∧ a3 ≤ 120
    · by_cases h3 : (0 : Int32) ≤ a4 ∧ a4 ≤ 100
      · refine g_wt h1 (c2f nz1 (g_wt h2 (c2f nz1 (g_wt h3 (c2f nz1 (C_refuse n12 hi4 (fun h => ?_) (fun i hi e h0 => absurd h0 nz1) (fun i q hi e _ hT => ?_) (fun i hi e _ hT => ?_)))))))
        · exact m_nodeF n12 hj0 h (n2t rfl ⟨rfl, hU⟩)
        · subst e
          exact m_nodeT n12 hj0 hi (n2f nz1 (g_mt h1 (c2f nz1 (g_mt h2 (c2f nz1 (g_mt h3 (c2f nz1 (M_layF (by omega) (thq_kd (thI_some (hth.1 i (by omega)) hT).2) ⟨rfl, hU⟩))))))))
        · subst e
          intro q hq
          refine ⟨vin (by omega) (by omega), List.mem_append_right _ List.mem_cons_self, by rw [vu_at]; simp [isTh], ?_⟩
          refine m_nodeT n12 hj0 hi (n2f nz1 (g_mt h1 (c2f nz1 (g_mt h2 (c2f nz1 (g_mt h3 (c2f nz1 (M_layT (by omega) (thI_none (hth.1 i (by omega)) hT).1 ?_))))))))
          refine ⟨rfl, tk, n, m, v, sh, nr, sg, od, bk, ht.up, hc, hn, hm, hv, hnr, hmm, hs, ho, hp, hrw, htm, hmt, hkn, hth.hang (i := i) (q := q) (c := 2) n12 hi hq (by rw [nI_clamp (by omega)]) rfl (fun x hx => ?_) (fun j hj => ?_) ?_⟩
          · exact (sF_ne hx).trans ((sF_ne hx).trans ((sF_ne hx).trans ((sF_ne hx).trans ((sF_ne hx).trans (va_un hx)))))
          · have hj2 : j ≠ (nI i).toNatClampNeg := by rw [nI_clamp (by omega)]; exact hj
            exact ⟨up_ne hj2, up_ne hj2, up_ne hj2, up_ne hj2, up_ne hj2, up_ne hj2, up_ne hj2⟩
          · have hcl : (nI i).toNatClampNeg = i := nI_clamp (by omega)
            have e2 : ∀ (f : Nat → Int32) (x : Int32), upd f (nI i).toNatClampNeg x i = x := fun f x => by rw [hcl]; exact up_at _ _ _
            have hF : sF (sF (sF (sF (sF (va_up F q (fun _ => 0)) q 0 a2) q 1 0) q 2 0) q 3 a3) q 4 a4 q = (va_up (va_up (va_up (va_up (va_up (fun _ => 0) 0 a2) 1 0) 2 0) 3 a3) 4 a4) := by rw [sF_at, sF_at, sF_at, sF_at, sF_at, vu_at]
            refine Or.inr (Or.inr (Or.inr (Or.inr (Or.inl ⟨rfl, e2 _ _, ?_, ?_, e2 _ _, ?_, ?_, ?_, ?_, ?_, ?_, ?_⟩))))
            · exact (congrFun hF 0).trans (e2 _ _).symm
            · exact congrFun hF 2
            · exact (congrFun hF 3).trans (e2 _ _).symm
            · exact (congrFun hF 4).trans (e2 _ _).symm
            · exact (congrFun hF 5).trans (e2 _ _).symm
            · exact Or.inl (e2 _ _)
            · exact fun z => absurd (e2 _ _) z
            · exact rg_of (e2 _ _) (rg_le h1)
            · exact rg_of (e2 _ _) (rg_le h2)
      · refine g_wt h1 (c2f nz1 (g_wt h2 (c2f nz1 (g_wf h3 (c2t rfl (?_))))))
        unfold g_Pw_house_36 g_Pw_house_37
        refine C_refuse n12 hi4 (fun h => ?_) (fun i hi e h0 => ?_) (fun i q hi e hz hT => absurd rfl hz) (fun i hi e hz hT => absurd rfl hz)
        · exact m_nodeF n12 hj0 h (n2t rfl ⟨rfl, hU⟩)
        · subst e
          exact m_nodeT n12 hj0 hi (n2f nz1 (g_mt h1 (c2f nz1 (g_mt h2 (c2f nz1 (g_mf h3 (c2t rfl (⟨rfl, hU⟩))))))))
    · refine g_wt h1 (c2f nz1 (g_wf h2 (c2t rfl (?_))))
      unfold g_Pw_house_36 g_Pw_house_37
      refine C_refuse n12 hi4 (fun h => ?_) (fun i hi e h0 => ?_) (fun i q hi e hz hT => absurd rfl hz) (fun i hi e hz hT => absurd rfl hz)
      · exact m_nodeF n12 hj0 h (n2t rfl ⟨rfl, hU⟩)
      · subst e
        exact m_nodeT n12 hj0 hi (n2f nz1 (g_mt h1 (c2f nz1 (g_mf h2 (c2t rfl (⟨rfl, hU⟩))))))
  · refine g_wf h1 (c2t rfl (?_))
    unfold g_Pw_house_36 g_Pw_house_37
    refine C_refuse n12 hi4 (fun h => ?_) (fun i hi e h0 => ?_) (fun i q hi e hz hT => absurd rfl hz) (fun i hi e hz hT => absurd rfl hz)
    · exact m_nodeF n12 hj0 h (n2t rfl ⟨rfl, hU⟩)
    · subst e
      exact m_nodeT n12 hj0 hi (n2f nz1 (g_mf h1 (c2t rfl (⟨rfl, hU⟩))))
theorem op_bridge (hR : Rel k I A T L K F J B) : g_Pw_bridge I T L K F a1 a2 a3 a4 a5 (fun r u => g_Mo_bridge J B a1 a2 a3 a4 a5 (fun r2 v => r = r2 ∧ Rel (k + 1) I A u.1 u.2.1 u.2.2.1 u.2.2.2 J v)) := by
  have hU := hR.up
  obtain ⟨tk, n, m, v, sh, nr, sg, od, bk, ht, hc, hn, hm, hv, hnr, hmm, hs, ho, hp, hrw, htm, hmt, hkn, hth⟩ := hR
  obtain ⟨n12, hi4, hj0, hh, hd, hhd⟩ := id hn
  by_cases h1 : (0 : Int32) ≤ a2 ∧ a2 ≤ 1000
  · by_cases h2 : (1 : Int32) ≤ a3 ∧ a3 ≤ 720
    · by_cases h3 : (0 : Int32) ≤ a4 ∧ a4 ≤ 720
      · by_cases h4 : (0 : Int32) ≤ a5 ∧ a5 ≤ 720
        · refine g_wt h1 (c2f nz1 (g_wt h2 (c2f nz1 (g_wt h3 (c2f nz1 (g_wt h4 (c2f nz1 (C_refuse n12 hi4 (fun h => ?_) (fun i hi e h0 => absurd h0 nz1) (fun i q hi e _ hT => ?_) (fun i hi e _ hT => ?_)))))))))
          · exact m_nodeF n12 hj0 h (n2t rfl ⟨rfl, hU⟩)
          · subst e
            exact m_nodeT n12 hj0 hi (n2f nz1 (g_mt h1 (c2f nz1 (g_mt h2 (c2f nz1 (g_mt h3 (c2f nz1 (g_mt h4 (c2f nz1 (c2f nz1 (M_layF (by omega) (thq_kd (thI_some (hth.1 i (by omega)) hT).2) ⟨rfl, hU⟩)))))))))))
          · subst e
            intro q hq
            refine ⟨vin (by omega) (by omega), List.mem_append_right _ List.mem_cons_self, by rw [vu_at]; simp [isTh], ?_⟩
            refine m_nodeT n12 hj0 hi (n2f nz1 (g_mt h1 (c2f nz1 (g_mt h2 (c2f nz1 (g_mt h3 (c2f nz1 (g_mt h4 (c2f nz1 (c2f nz1 (M_layT (by omega) (thI_none (hth.1 i (by omega)) hT).1 ?_)))))))))))
            refine ⟨rfl, tk, n, m, v, sh, nr, sg, od, bk, ht.up, hc, hn, hm, hv, hnr, hmm, hs, ho, hp, hrw, htm, hmt, hkn, hth.hang (i := i) (q := q) (c := 0) n12 hi hq (by rw [nI_clamp (by omega)]) rfl (fun x hx => ?_) (fun j hj => ?_) ?_⟩
            · exact (sF_ne hx).trans ((sF_ne hx).trans ((sF_ne hx).trans ((sF_ne hx).trans ((sF_ne hx).trans ((sF_ne hx).trans (va_un hx))))))
            · have hj2 : j ≠ (nI i).toNatClampNeg := by rw [nI_clamp (by omega)]; exact hj
              exact ⟨up_ne hj2, up_ne hj2, up_ne hj2, up_ne hj2, up_ne hj2, up_ne hj2, up_ne hj2⟩
            · have hcl : (nI i).toNatClampNeg = i := nI_clamp (by omega)
              have e2 : ∀ (f : Nat → Int32) (x : Int32), upd f (nI i).toNatClampNeg x i = x := fun f x => by rw [hcl]; exact up_at _ _ _
              have hF : sF (sF (sF (sF (sF (sF (va_up F q (fun _ => 0)) q 0 a2) q 1 0) q 2 1440) q 3 a3) q 4 a4) q 5 a5 q = (va_up (va_up (va_up (va_up (va_up (va_up (fun _ => 0) 0 a2) 1 0) 2 1440) 3 a3) 4 a4) 5 a5) := by rw [sF_at, sF_at, sF_at, sF_at, sF_at, sF_at, vu_at]
              refine Or.inr (Or.inr (Or.inl ⟨rfl, e2 _ _, ?_, ?_, ?_, ?_, ?_, ?_, e2 _ _, e2 _ _, ?_, ?_⟩))
              · exact (congrFun hF 0).trans (e2 _ _).symm
              · exact congrFun hF 1
              · exact congrFun hF 2
              · exact (congrFun hF 3).trans (e2 _ _).symm
              · exact (congrFun hF 4).trans (e2 _ _).symm
              · exact (congrFun hF 5).trans (e2 _ _).symm
              · exact rg_of (e2 _ _) (rg_le h1)
              · exact rg_of (e2 _ _) (rg_le h2)
        · refine g_wt h1 (c2f nz1 (g_wt h2 (c2f nz1 (g_wt h3 (c2f nz1 (g_wf h4 (c2t rfl (?_))))))))
          unfold g_Pw_bridge_50 g_Pw_bridge_51
          refine C_refuse n12 hi4 (fun h => ?_) (fun i hi e h0 => ?_) (fun i q hi e hz hT => absurd rfl hz) (fun i hi e hz hT => absurd rfl hz)
          · exact m_nodeF n12 hj0 h (n2t rfl ⟨rfl, hU⟩)
          · subst e
            exact m_nodeT n12 hj0 hi (n2f nz1 (g_mt h1 (c2f nz1 (g_mt h2 (c2f nz1 (g_mt h3 (c2f nz1 (g_mf h4 (c2t rfl (c2t rfl (⟨rfl, hU⟩)))))))))))
      · refine g_wt h1 (c2f nz1 (g_wt h2 (c2f nz1 (g_wf h3 (c2t rfl (?_))))))
        unfold g_Pw_bridge_50 g_Pw_bridge_51
        refine C_refuse n12 hi4 (fun h => ?_) (fun i hi e h0 => ?_) (fun i q hi e hz hT => absurd rfl hz) (fun i hi e hz hT => absurd rfl hz)
        · exact m_nodeF n12 hj0 h (n2t rfl ⟨rfl, hU⟩)
        · subst e
          exact m_nodeT n12 hj0 hi (n2f nz1 (g_mt h1 (c2f nz1 (g_mt h2 (c2f nz1 (g_mf h3 (c2t rfl (c2t rfl (⟨rfl, hU⟩)))))))))
    · refine g_wt h1 (c2f nz1 (g_wf h2 (c2t rfl (?_))))
      unfold g_Pw_bridge_50 g_Pw_bridge_51
      refine C_refuse n12 hi4 (fun h => ?_) (fun i hi e h0 => ?_) (fun i q hi e hz hT => absurd rfl hz) (fun i hi e hz hT => absurd rfl hz)
      · exact m_nodeF n12 hj0 h (n2t rfl ⟨rfl, hU⟩)
      · subst e
        exact m_nodeT n12 hj0 hi (n2f nz1 (g_mt h1 (c2f nz1 (g_mf h2 (c2t rfl (c2t rfl (⟨rfl, hU⟩)))))))
  · refine g_wf h1 (c2t rfl (?_))
    unfold g_Pw_bridge_50 g_Pw_bridge_51
    refine C_refuse n12 hi4 (fun h => ?_) (fun i hi e h0 => ?_) (fun i q hi e hz hT => absurd rfl hz) (fun i hi e hz hT => absurd rfl hz)
    · exact m_nodeF n12 hj0 h (n2t rfl ⟨rfl, hU⟩)
    · subst e
      exact m_nodeT n12 hj0 hi (n2f nz1 (g_mf h1 (c2t rfl (c2t rfl (⟨rfl, hU⟩)))))
theorem op_tower (hR : Rel k I A T L K F J B) : g_Pw_tower I T L K F a1 a2 a3 a4 (fun r u => g_Mo_tower J B a1 a2 a3 a4 (fun r2 v => r = r2 ∧ Rel (k + 1) I A u.1 u.2.1 u.2.2.1 u.2.2.2 J v)) := by
  have hU := hR.up
  obtain ⟨tk, n, m, v, sh, nr, sg, od, bk, ht, hc, hn, hm, hv, hnr, hmm, hs, ho, hp, hrw, htm, hmt, hkn, hth⟩ := hR
  obtain ⟨n12, hi4, hj0, hh, hd, hhd⟩ := id hn
  by_cases h1 : (0 : Int32) ≤ a2 ∧ a2 ≤ 5000
  · by_cases h2 : (1 : Int32) ≤ a3 ∧ a3 ≤ 100000
    · by_cases h3 : (0 : Int32) ≤ a4 ∧ a4 ≤ a3
      · refine g_wt h1 (c2f nz1 (g_wt h2 (c2f nz1 (g_wt h3 (c2f nz1 (C_refuse n12 hi4 (fun h => ?_) (fun i hi e h0 => absurd h0 nz1) (fun i q hi e _ hT => ?_) (fun i hi e _ hT => ?_)))))))
        · exact m_nodeF n12 hj0 h (n2t rfl ⟨rfl, hU⟩)
        · subst e
          exact m_nodeT n12 hj0 hi (n2f nz1 (g_mt h1 (c2f nz1 (g_mt h2 (c2f nz1 (g_mt h3 (n2f nz1 (M_layF (by omega) (thq_kd (thI_some (hth.1 i (by omega)) hT).2) (n2f (by decide) ⟨vin (by omega) (by omega), vin (by omega) (by omega), rfl, by rw [sA_same]; exact hU⟩)))))))))
        · subst e
          intro q hq
          refine ⟨vin (by omega) (by omega), List.mem_append_right _ List.mem_cons_self, by rw [vu_at]; simp [isTh], ?_⟩
          refine m_nodeT n12 hj0 hi (n2f nz1 (g_mt h1 (c2f nz1 (g_mt h2 (c2f nz1 (g_mt h3 (n2f nz1 (M_layT (by omega) (thI_none (hth.1 i (by omega)) hT).1 (n2t rfl ⟨vin (by omega) (by omega), ?_⟩)))))))))
          refine ⟨rfl, tk, n, m, v, sh, nr, sg, od, bk, ht.up, hc, hn, hm, hv, hnr, hmm, hs, ho, hp, hrw, htm, hmt, hkn, hth.hang (i := i) (q := q) (c := 9) n12 hi hq (by rw [nI_clamp (by omega)]) rfl (fun x hx => ?_) (fun j hj => ?_) ?_⟩
          · exact (sF_ne hx).trans ((sF_ne hx).trans ((sF_ne hx).trans (va_un hx)))
          · have hj2 : j ≠ (nI i).toNatClampNeg := by rw [nI_clamp (by omega)]; exact hj
            exact ⟨up_ne hj2, up_ne hj2, up_ne hj2, up_ne hj2, up_ne hj2, (up_ne hj2).trans (up_ne hj2), up_ne hj2⟩
          · have hcl : (nI i).toNatClampNeg = i := nI_clamp (by omega)
            have e2 : ∀ (f : Nat → Int32) (x : Int32), upd f (nI i).toNatClampNeg x i = x := fun f x => by rw [hcl]; exact up_at _ _ _
            have hF : sF (sF (sF (va_up F q (fun _ => 0)) q 0 a2) q 1 a3) q 2 a4 q = (va_up (va_up (va_up (fun _ => 0) 0 a2) 1 a3) 2 a4) := by rw [sF_at, sF_at, sF_at, vu_at]
            refine Or.inr (Or.inr (Or.inr (Or.inl ⟨rfl, e2 _ _, ?_, ?_, ?_, e2 _ _, ?_, ?_, ?_, ?_⟩)))
            · exact (congrFun hF 0).trans (e2 _ _).symm
            · exact (congrFun hF 1).trans (e2 _ _).symm
            · exact (congrFun hF 2).trans (e2 _ _).symm
            · exact rg_of (e2 _ _) (rg_le h1)
            · exact rg_of (e2 _ _) (rg_le h2)
            · exact (rg_of (e2 _ _) (rg_le h3)).1
            · exact le_tw (e2 _ _) (e2 _ _) h3.2
      · refine g_wt h1 (c2f nz1 (g_wt h2 (c2f nz1 (g_wf h3 (c2t rfl (?_))))))
        unfold g_Pw_tower_35 g_Pw_tower_36
        refine C_refuse n12 hi4 (fun h => ?_) (fun i hi e h0 => ?_) (fun i q hi e hz hT => absurd rfl hz) (fun i hi e hz hT => absurd rfl hz)
        · exact m_nodeF n12 hj0 h (n2t rfl ⟨rfl, hU⟩)
        · subst e
          exact m_nodeT n12 hj0 hi (n2f nz1 (g_mt h1 (c2f nz1 (g_mt h2 (c2f nz1 (g_mf h3 (n2t rfl (⟨rfl, hU⟩))))))))
    · refine g_wt h1 (c2f nz1 (g_wf h2 (c2t rfl (?_))))
      unfold g_Pw_tower_35 g_Pw_tower_36
      refine C_refuse n12 hi4 (fun h => ?_) (fun i hi e h0 => ?_) (fun i q hi e hz hT => absurd rfl hz) (fun i hi e hz hT => absurd rfl hz)
      · exact m_nodeF n12 hj0 h (n2t rfl ⟨rfl, hU⟩)
      · subst e
        exact m_nodeT n12 hj0 hi (n2f nz1 (g_mt h1 (c2f nz1 (g_mf h2 (c2t rfl (⟨rfl, hU⟩))))))
  · refine g_wf h1 (c2t rfl (?_))
    unfold g_Pw_tower_35 g_Pw_tower_36
    refine C_refuse n12 hi4 (fun h => ?_) (fun i hi e h0 => ?_) (fun i q hi e hz hT => absurd rfl hz) (fun i hi e hz hT => absurd rfl hz)
    · exact m_nodeF n12 hj0 h (n2t rfl ⟨rfl, hU⟩)
    · subst e
      exact m_nodeT n12 hj0 hi (n2f nz1 (g_mf h1 (c2t rfl (⟨rfl, hU⟩))))
theorem op_leak0 (hR : Rel k I A T L K F J B) : g_Pw_leak I T L K F a1 a2 (0 : Int32) (fun r u => g_Mo_leak J B a1 a2 (0 : Int32) (fun r2 v => r = r2 ∧ Rel (k + 1) I A u.1 u.2.1 u.2.2.1 u.2.2.2 J v)) := by
  have hU := hR.up
  obtain ⟨tk, n, m, v, sh, nr, sg, od, bk, ht, hc, hn, hm, hv, hnr, hmm, hs, ho, hp, hrw, htm, hmt, hkn, hth⟩ := hR
  obtain ⟨n12, hi4, hj0, hh, hd, hhd⟩ := id hn
  by_cases h1 : (1 : Int32) ≤ a2 ∧ a2 ≤ 1000
  · refine g_wt h1 (C_refuse n12 hi4 (fun h => ?_) (fun i hi e h0 => absurd h0 nz1) (fun i q hi e _ hT => ?_) (fun i hi e _ hT => ?_))
    · exact m_nodeF n12 hj0 h (n2t rfl ⟨rfl, hU⟩)
    · subst e
      exact m_nodeT n12 hj0 hi (n2f nz1 (g_mt h1 (c2f nz1 (c2t rfl (M_layF (by omega) (thq_kd (thI_some (hth.1 i (by omega)) hT).2) ⟨rfl, hU⟩)))))
    · subst e
      intro q hq
      refine ⟨Or.inl rfl, ⟨vin (by omega) (by omega), List.mem_append_right _ List.mem_cons_self, by rw [vu_at]; simp [isTh], ?_⟩⟩
      refine m_nodeT n12 hj0 hi (n2f nz1 (g_mt h1 (c2f nz1 (c2t rfl (M_layT (by omega) (thI_none (hth.1 i (by omega)) hT).1 ?_)))))
      refine ⟨rfl, tk, n, m, v, sh, nr, sg, od, bk, ht.up, hc, hn, hm, hv, hnr, hmm, hs, ho, hp, hrw, htm, hmt, hkn, hth.hang (i := i) (q := q) (c := 3) n12 hi hq (by rw [nI_clamp (by omega)]) rfl (fun x hx => ?_) (fun j hj => ?_) ?_⟩
      · exact (sF_ne hx).trans ((sF_ne hx).trans (va_un hx))
      · have hj2 : j ≠ (nI i).toNatClampNeg := by rw [nI_clamp (by omega)]; exact hj
        exact ⟨up_ne hj2, up_ne hj2, up_ne hj2, up_ne hj2, up_ne hj2, up_ne hj2, up_ne hj2⟩
      · have hcl : (nI i).toNatClampNeg = i := nI_clamp (by omega)
        have e2 : ∀ (f : Nat → Int32) (x : Int32), upd f (nI i).toNatClampNeg x i = x := fun f x => by rw [hcl]; exact up_at _ _ _
        have hF : sF (sF (va_up F q (fun _ => 0)) q 0 a2) q 1 0 q = (va_up (va_up (fun _ => 0) 0 a2) 1 0) := by rw [sF_at, sF_at, vu_at]
        refine Or.inr (Or.inr (Or.inr (Or.inr (Or.inr (⟨rfl, ?_, ?_, ?_, e2 _ _, ?_, ?_⟩)))))
        · exact (congrFun hF 0).trans (e2 _ _).symm
        · exact (congrFun hF 2).trans (e2 _ _).symm
        · exact Or.inl (e2 _ _)
        · exact Or.inl ⟨congrFun hF 1, e2 _ _⟩
        · exact rg_of (e2 _ _) (rg_le h1)
  · refine g_wf h1 (?_)
    refine C_refuse n12 hi4 (fun h => ?_) (fun i hi e h0 => ?_) (fun i q hi e hz hT => absurd rfl hz) (fun i hi e hz hT => absurd rfl hz)
    · exact m_nodeF n12 hj0 h (n2t rfl ⟨rfl, hU⟩)
    · subst e
      exact m_nodeT n12 hj0 hi (n2f nz1 (g_mf h1 (c2t rfl (⟨rfl, hU⟩))))
theorem op_leak1 (hR : Rel k I A T L K F J B) : g_Pw_leak I T L K F a1 a2 (1 : Int32) (fun r u => g_Mo_leak J B a1 a2 (1 : Int32) (fun r2 v => r = r2 ∧ Rel (k + 1) I A u.1 u.2.1 u.2.2.1 u.2.2.2 J v)) := by
  have hU := hR.up
  obtain ⟨tk, n, m, v, sh, nr, sg, od, bk, ht, hc, hn, hm, hv, hnr, hmm, hs, ho, hp, hrw, htm, hmt, hkn, hth⟩ := hR
  obtain ⟨n12, hi4, hj0, hh, hd, hhd⟩ := id hn
  by_cases h1 : (1 : Int32) ≤ a2 ∧ a2 ≤ 1000
  · refine g_wt h1 (C_refuse n12 hi4 (fun h => ?_) (fun i hi e h0 => absurd h0 nz1) (fun i q hi e _ hT => ?_) (fun i hi e _ hT => ?_))
    · exact m_nodeF n12 hj0 h (n2t rfl ⟨rfl, hU⟩)
    · subst e
      exact m_nodeT n12 hj0 hi (n2f nz1 (g_mt h1 (c2f nz1 (c2f nz1 (M_layF (by omega) (thq_kd (thI_some (hth.1 i (by omega)) hT).2) ⟨rfl, hU⟩)))))
    · subst e
      intro q hq
      refine ⟨Or.inr rfl, ⟨vin (by omega) (by omega), List.mem_append_right _ List.mem_cons_self, by rw [vu_at]; simp [isTh], ?_⟩⟩
      refine m_nodeT n12 hj0 hi (n2f nz1 (g_mt h1 (c2f nz1 (c2f nz1 (M_layT (by omega) (thI_none (hth.1 i (by omega)) hT).1 ?_)))))
      refine ⟨rfl, tk, n, m, v, sh, nr, sg, od, bk, ht.up, hc, hn, hm, hv, hnr, hmm, hs, ho, hp, hrw, htm, hmt, hkn, hth.hang (i := i) (q := q) (c := 3) n12 hi hq (by rw [nI_clamp (by omega)]) rfl (fun x hx => ?_) (fun j hj => ?_) ?_⟩
      · exact (sF_ne hx).trans ((sF_ne hx).trans (va_un hx))
      · have hj2 : j ≠ (nI i).toNatClampNeg := by rw [nI_clamp (by omega)]; exact hj
        exact ⟨up_ne hj2, up_ne hj2, up_ne hj2, up_ne hj2, up_ne hj2, up_ne hj2, up_ne hj2⟩
      · have hcl : (nI i).toNatClampNeg = i := nI_clamp (by omega)
        have e2 : ∀ (f : Nat → Int32) (x : Int32), upd f (nI i).toNatClampNeg x i = x := fun f x => by rw [hcl]; exact up_at _ _ _
        have hF : sF (sF (va_up F q (fun _ => 0)) q 0 a2) q 1 1 q = (va_up (va_up (fun _ => 0) 0 a2) 1 1) := by rw [sF_at, sF_at, vu_at]
        refine Or.inr (Or.inr (Or.inr (Or.inr (Or.inr (⟨rfl, ?_, ?_, ?_, e2 _ _, ?_, ?_⟩)))))
        · exact (congrFun hF 0).trans (e2 _ _).symm
        · exact (congrFun hF 2).trans (e2 _ _).symm
        · exact Or.inl (e2 _ _)
        · exact Or.inr ⟨congrFun hF 1, e2 _ _⟩
        · exact rg_of (e2 _ _) (rg_le h1)
  · refine g_wf h1 (?_)
    refine C_refuse n12 hi4 (fun h => ?_) (fun i hi e h0 => ?_) (fun i q hi e hz hT => absurd rfl hz) (fun i hi e hz hT => absurd rfl hz)
    · exact m_nodeF n12 hj0 h (n2t rfl ⟨rfl, hU⟩)
    · subst e
      exact m_nodeT n12 hj0 hi (n2f nz1 (g_mf h1 (c2t rfl (⟨rfl, hU⟩))))
theorem op_leak (hB : isB a3) (hR : Rel k I A T L K F J B) : g_Pw_leak I T L K F a1 a2 a3 (fun r u => g_Mo_leak J B a1 a2 a3 (fun r2 v => r = r2 ∧ Rel (k + 1) I A u.1 u.2.1 u.2.2.1 u.2.2.2 J v)) := by
  rcases hB with rfl | rfl
  · exact op_leak0 hR
  · exact op_leak1 hR
end OPS4
