/-! ===== layer 2: calls on things, and what is told ===== -/
theorem thq_isTh {kq : Nat} {f : Nat → Int32} {kd on tw th fo lv li la : Int32} (h : thq kq f kd on tw th fo lv li la) : isTh kq := by
  rcases h with h | h | h | h | h | h <;> rw [h.1] <;> simp [isTh]
theorem thq_house {kq : Nat} {f : Nat → Int32} {kd on tw th fo lv li la : Int32} (h : thq kq f kd on tw th fo lv li la) : kq = 2 ↔ kd = 5 := by
  rcases h with h | h | h | h | h | h
  · rw [h.1, h.2.1]; decide
  · rw [h.1, h.2.1]; decide
  · rw [h.1, h.2.1]; decide
  · rw [h.1, h.2.1]; decide
  · rw [h.1, h.2.1]; decide
  · rcases h.2.2.2.2.2.1 with ⟨e1, e2⟩ | ⟨e1, e2⟩
    · rw [h.1, e2]; decide
    · rw [h.1, e2]; decide
theorem thq_hs {f : Nat → Int32} {kq : Nat} {kd on tw th fo lv li la : Int32} (h : thq kq f kd on tw th fo lv li la) (hk : kd = 5) : kq = 2 ∧ kd = 5 ∧ f 0 = on ∧ f 2 = 0 ∧ lv = 0 ∧ f 3 = tw ∧ f 4 = th ∧ f 5 = li ∧ isB li ∧ (¬ li = 0 → f 6 = la) ∧ rg on 0 5000 ∧ rg tw 0 120 := by
  rcases h with h | h | h | h | h | h
  · rw [h.2.1] at hk; exact absurd hk (by decide)
  · rw [h.2.1] at hk; exact absurd hk (by decide)
  · rw [h.2.1] at hk; exact absurd hk (by decide)
  · rw [h.2.1] at hk; exact absurd hk (by decide)
  · exact h
  · rcases h.2.2.2.2.2.1 with ⟨e1, e2⟩ | ⟨e1, e2⟩
    · rw [e2] at hk; exact absurd hk (by decide)
    · rw [e2] at hk; exact absurd hk (by decide)
theorem thq_lk {f : Nat → Int32} {kq : Nat} {kd on tw th fo lv li la : Int32} (h : thq kq f kd on tw th fo lv li la) : (kq = 3 → f 0 = on ∧ f 2 = li ∧ isB li ∧ lv = 0 ∧ ((f 1 = 0 ∧ kd = 6) ∨ (f 1 = 1 ∧ kd = 7)) ∧ rg on 1 1000) ∧ (¬ kq = 3 → ¬ kd = 7) := by
  rcases h with h | h | h | h | h | h
  · rw [h.1, h.2.1]; exact ⟨fun e => absurd e (by decide), fun _ => by decide⟩
  · rw [h.1, h.2.1]; exact ⟨fun e => absurd e (by decide), fun _ => by decide⟩
  · rw [h.1, h.2.1]; exact ⟨fun e => absurd e (by decide), fun _ => by decide⟩
  · rw [h.1, h.2.1]; exact ⟨fun e => absurd e (by decide), fun _ => by decide⟩
  · rw [h.1, h.2.1]; exact ⟨fun e => absurd e (by decide), fun _ => by decide⟩
  · exact ⟨fun _ => h.2, fun e => absurd h.1 e⟩
/-- the thing at one node changes -/
theorem Rth.chg {n i q : Nat} {T : Nat → Option Nat} {L : List Nat} {K : Nat → Nat} {F F' : Nat → Nat → Int32} {b2 b3 b4 b5 b6 b7 b8 b9 c7 c8 c9 : Nat → Int32} (h : Rth n T L K F b2 b3 b4 b5 b6 b7 b8 b9) (hi : i < 12) (hT : T i = some q) (hF : ∀ x, x ≠ q → F' x = F x) (hb : ∀ j, j ≠ i → c7 j = b7 j ∧ c8 j = b8 j ∧ c9 j = b9 j)
    (ht : thq (K q) (F' q) (b2 i) (b3 i) (b4 i) (b5 i) (b6 i) (c7 i) (c8 i) (c9 i)) : Rth n T L K F' b2 b3 b4 b5 b6 c7 c8 c9 := by
  obtain ⟨h1, h2, h3⟩ := h
  refine ⟨fun j hj => ?_, h2, h3⟩
  by_cases e : j = i
  · subst e
    exact Or.inr ⟨q, hT, (thI_some (h1 j hj) hT).1, ht⟩
  · obtain ⟨d7, d8, d9⟩ := hb j e
    rw [d7, d8, d9]
    rcases h1 j hj with q1 | ⟨x, hx, hx2, hx3⟩
    · exact Or.inl q1
    · have hne : x ≠ q := by rintro rfl; exact e (h3 j i x hj hi hx hT)
      exact Or.inr ⟨x, hx, hx2, by rw [hF x hne]; exact hx3⟩
theorem Rth.drop {n i : Nat} {T : Nat → Option Nat} {L : List Nat} {K : Nat → Nat} {F : Nat → Nat → Int32} {b2 b3 b4 b5 b6 b7 b8 b9 : Nat → Int32} (h : Rth n T L K F b2 b3 b4 b5 b6 b7 b8 b9) (hi : i < 12) :
    Rth n (va_up T (nI i).toNatClampNeg none) L K F (upd b2 (nI i).toNatClampNeg 0) b3 b4 b5 b6 (upd b7 (nI i).toNatClampNeg 0) (upd b8 (nI i).toNatClampNeg (vp_nar .boolean 0)) b9 := by
  rw [nI_clamp (by omega)]
  obtain ⟨h1, h2, h3⟩ := h
  refine ⟨fun j hj => ?_, fun j hj1 hj2 => ?_, fun j j2 x hj hj2 e1 e2 => ?_⟩
  · by_cases e : j = i
    · subst e
      rw [vu_at, up_at, up_at, up_at]
      exact Or.inl ⟨rfl, rfl, rfl, rfl⟩
    · rw [va_un e, up_ne e, up_ne e, up_ne e]; exact h1 j hj
  · by_cases e : j = i
    · subst e; exact vu_at _ _ _
    · rw [va_un e]; exact h2 j hj1 hj2
  · by_cases e : j = i
    · subst e; rw [vu_at] at e1; cases e1
    · by_cases e' : j2 = i
      · subst e'; rw [vu_at] at e2; cases e2
      · rw [va_un e] at e1; rw [va_un e'] at e2; exact h3 j j2 x hj hj2 e1 e2
section OPS5
variable {k : Nat} {I : Nat → Int32} {A : Nat → Nat → Int32} {T : Nat → Option Nat} {L : List Nat} {K : Nat → Nat} {F : Nat → Nat → Int32} {J : Nat → Int32} {B : Nat → Nat → Int32} {a1 a2 a3 a4 a5 : Int32}
theorem op_clear (hR : Rel k I A T L K F J B) : g_Pw_clear I T L K F a1 (fun r u => g_Mo_clear J B a1 (fun r2 v => r = r2 ∧ Rel (k + 1) I A u L K F J v)) := by
  have hU := hR.up
  obtain ⟨tk, n, m, v, sh, nr, sg, od, bk, ht, hc, hn, hm, hv, hnr, hmm, hs, ho, hp, hrw, htm, hmt, hkn, hth⟩ := hR
  obtain ⟨n12, hi4, hj0, hh, hd, hhd⟩ := id hn
  refine g_has n12 hi4 (fun i hi e => ?_) (fun h => ?_)
  · subst e
    have hin : vp_in (nI i) 12 := vin (by omega) (by omega)
    have hcl : (nI i).toNatClampNeg = i := nI_clamp (by omega)
    have hti := hth.1 i (by omega)
    refine c2f nz1 ⟨hin, ?_⟩
    rw [hcl]
    refine ⟨fun hT => ?_, fun q hT => ⟨hin, ?_⟩⟩
    · refine m_nodeT n12 hj0 hi (n2f nz1 ⟨hin, ?_⟩)
      rw [hcl]
      exact n2t (thI_none hti hT).1 ⟨rfl, hU⟩
    · refine C_kind (thI_some hti hT).1 (thI_some hti hT).2 ?_
      refine m_nodeT n12 hj0 hi (n2f nz1 ⟨hin, ?_⟩)
      rw [hcl]
      refine n2f (thq_kd (thI_some hti hT).2) ⟨hin, y1 ⟨hin, hin, hin, rfl, ?_⟩⟩
      have hd2 := hth.drop (i := i) (by omega)
      have hT2 : va_up T i none = va_up T (nI i).toNatClampNeg none := by rw [hcl]
      rw [hT2]
      exact ⟨tk, n, m, v, sh, nr, sg, od, bk, ht.up, hc, hn, hm, hv, hnr, hmm, hs, ho, hp, hrw, htm, hmt, hkn, hd2⟩
  · exact c2t rfl (m_nodeF n12 hj0 h (n2t rfl ⟨rfl, hU⟩))
theorem op_ofNode (hk : k < 512) (hR : Rel k I A T L K F J B) : g_Pw_ofNode I A T L K F a1 a2 (fun r => g_Mo_ofNode J B a1 a2 (fun r2 => r = r2 ∧ Rel (k + 1) I A T L K F J B)) := by
  have hU := hR.up
  obtain ⟨tk, n, m, v, sh, nr, sg, od, bk, ht, hc, hn, hm, hv, hnr, hmm, hs, ho, hp, hrw, htm, hmt, hkn, hth⟩ := hR
  obtain ⟨n12, hi4, hj0, hh, hd, hhd⟩ := id hn
  refine g_has n12 hi4 (fun i hi e => ?_) (fun h => ?_)
  · subst e
    have hin : vp_in (nI i) 12 := vin (by omega) (by omega)
    have hcl : (nI i).toNatClampNeg = i := nI_clamp (by omega)
    have hti := hth.1 i (by omega)
    obtain ⟨t1, t2, t3⟩ := ht
    have ht31 : tk < 2 ^ 31 := by omega
    have w7 := (hh i (by omega)).1
    have w8 := (hd i (by omega)).1
    have w9 := (hhd i hi).1
    have w0 := (hmt i (by omega)).1
    have w4 := (hkn i (by omega)).1
    have m3 : ∀ {P : Int32 → Prop}, P (tkv (B 2 i) (B 3 i) (B 4 i) (B 5 i) (B 6 i) (B 7 i) (J 3) (B 13 i - 10 * B 0 i)) → g_Mo_takes J B (nI i) P := fun p => M_takes (by omega) (thI_okd hti).1 (thI_okd hti).2 p
    have c3 : ∀ {P : Int32 → Prop}, P (tkv (B 2 i) (B 3 i) (B 4 i) (B 5 i) (B 6 i) (B 7 i) (J 3) (B 13 i - 10 * B 0 i)) → g_Ne_taken A T L K F (nI i) (I 0) P := fun p => C_taken (by omega) ht31 t2 hti (by rw [w7, w9, t2, ← t3]; exact p)
    have c4 : ∀ {P : Int32 → Prop}, P (bI (srcB (B 2 i) (B 7 i) (B 8 i) (B 4 i) (B 9 i) (J 3))) → g_Ne_isSource T L K F (nI i) (I 0) P := fun p => C_isSource (by omega) hti (by rw [t2, ← t3]; exact p)
    refine n2f nz1 ⟨hin, ?_⟩
    rw [hcl]
    refine ⟨fun hT => ⟨fun e => ?_, fun e => ?_, fun e => ?_, fun e => ?_, fun e => ?_, fun e => ?_, fun e => ?_, fun e => ?_, fun e => ?_, fun n0 n1 n2 n3 n4 n5 n6 n7 n8 => ?_⟩, fun q hT => ⟨fun e => ?_, fun e => ?_, fun e => ?_, fun e => ?_, fun e => ?_, fun e => ?_, fun e => ?_, fun e => ?_, fun e => ?_, fun n0 n1 n2 n3 n4 n5 n6 n7 n8 => ?_⟩⟩
    · subst e
      refine m_nodeT n12 hj0 hi (n2f nz1 ⟨fun _ => ⟨hin, ?_⟩, fun q => absurd q (by decide), fun q => absurd q (by decide), fun q => absurd q (by decide), fun q => absurd q (by decide), fun q => absurd q (by decide), fun q => absurd q (by decide), fun q => absurd q (by decide), fun q => absurd q (by decide), fun z _ _ _ _ _ _ _ _ => absurd rfl z⟩)
      rw [hcl]
      exact ⟨(thI_none hti hT).1.symm, hU⟩
    · subst e
      refine ⟨hin, m_nodeT n12 hj0 hi (n2f nz1 ⟨fun q => absurd q (by decide), fun _ => ⟨hin, ?_⟩, fun q => absurd q (by decide), fun q => absurd q (by decide), fun q => absurd q (by decide), fun q => absurd q (by decide), fun q => absurd q (by decide), fun q => absurd q (by decide), fun q => absurd q (by decide), fun _ z _ _ _ _ _ _ _ => absurd rfl z⟩)⟩
      rw [hcl, w7]; exact ⟨rfl, hU⟩
    · subst e
      refine ⟨hin, m_nodeT n12 hj0 hi (n2f nz1 ⟨fun q => absurd q (by decide), fun q => absurd q (by decide), fun _ => ⟨hin, ?_⟩, fun q => absurd q (by decide), fun q => absurd q (by decide), fun q => absurd q (by decide), fun q => absurd q (by decide), fun q => absurd q (by decide), fun q => absurd q (by decide), fun _ _ z _ _ _ _ _ _ => absurd rfl z⟩)⟩
      rw [hcl, w8]; exact ⟨rfl, hU⟩
    · subst e
      exact c3 (m_nodeT n12 hj0 hi (n2f nz1 ⟨fun q => absurd q (by decide), fun q => absurd q (by decide), fun q => absurd q (by decide), fun _ => m3 ⟨rfl, hU⟩, fun q => absurd q (by decide), fun q => absurd q (by decide), fun q => absurd q (by decide), fun q => absurd q (by decide), fun q => absurd q (by decide), fun _ _ _ z _ _ _ _ _ => absurd rfl z⟩))
    · subst e
      exact c4 (g_bitB (m_nodeT n12 hj0 hi (n2f nz1 ⟨fun q => absurd q (by decide), fun q => absurd q (by decide), fun q => absurd q (by decide), fun q => absurd q (by decide), fun _ => M_isSource (by omega) (bI_split (Q := fun r => _ = r ∧ _) ⟨rfl, hU⟩), fun q => absurd q (by decide), fun q => absurd q (by decide), fun q => absurd q (by decide), fun q => absurd q (by decide), fun _ _ _ _ z _ _ _ _ => absurd rfl z⟩)))
    · subst e
      refine m_nodeT n12 hj0 hi (n2f nz1 ⟨fun q => absurd q (by decide), fun q => absurd q (by decide), fun q => absurd q (by decide), fun q => absurd q (by decide), fun q => absurd q (by decide), fun _ => ⟨hin, ?_⟩, fun q => absurd q (by decide), fun q => absurd q (by decide), fun q => absurd q (by decide), fun _ _ _ _ _ z _ _ _ => absurd rfl z⟩)
      rw [hcl]
      exact ⟨(thI_none hti hT).2.1.symm, hU⟩
    · subst e
      refine c2t rfl (m_nodeT n12 hj0 hi (n2f nz1 ⟨fun q => absurd q (by decide), fun q => absurd q (by decide), fun q => absurd q (by decide), fun q => absurd q (by decide), fun q => absurd q (by decide), fun q => absurd q (by decide), fun _ => ⟨hin, ?_⟩, fun q => absurd q (by decide), fun q => absurd q (by decide), fun _ _ _ _ _ _ z _ _ => absurd rfl z⟩))
      rw [hcl]
      exact c2t (thI_none hti hT).2.2 ⟨rfl, hU⟩
    · subst e
      refine ⟨hin, m_nodeT n12 hj0 hi (n2f nz1 ⟨fun q => absurd q (by decide), fun q => absurd q (by decide), fun q => absurd q (by decide), fun q => absurd q (by decide), fun q => absurd q (by decide), fun q => absurd q (by decide), fun q => absurd q (by decide), fun _ => ⟨hin, ?_⟩, fun q => absurd q (by decide), fun _ _ _ _ _ _ _ z _ => absurd rfl z⟩)⟩
      rw [hcl, w0]; exact ⟨rfl, hU⟩
    · subst e
      refine ⟨hin, m_nodeT n12 hj0 hi (n2f nz1 ⟨fun q => absurd q (by decide), fun q => absurd q (by decide), fun q => absurd q (by decide), fun q => absurd q (by decide), fun q => absurd q (by decide), fun q => absurd q (by decide), fun q => absurd q (by decide), fun q => absurd q (by decide), fun _ => ⟨hin, ?_⟩, fun _ _ _ _ _ _ _ _ z => absurd rfl z⟩)⟩
      rw [hcl, w4]; exact ⟨rfl, hU⟩
    · exact m_nodeT n12 hj0 hi (n2f nz1 ⟨fun q => absurd q n0, fun q => absurd q n1, fun q => absurd q n2, fun q => absurd q n3, fun q => absurd q n4, fun q => absurd q n5, fun q => absurd q n6, fun q => absurd q n7, fun q => absurd q n8, fun _ _ _ _ _ _ _ _ _ => ⟨rfl, hU⟩⟩)
    · subst e
      refine C_kind (thI_some hti hT).1 (thI_some hti hT).2 (m_nodeT n12 hj0 hi (n2f nz1 ⟨fun _ => ⟨hin, ?_⟩, fun q => absurd q (by decide), fun q => absurd q (by decide), fun q => absurd q (by decide), fun q => absurd q (by decide), fun q => absurd q (by decide), fun q => absurd q (by decide), fun q => absurd q (by decide), fun q => absurd q (by decide), fun z _ _ _ _ _ _ _ _ => absurd rfl z⟩))
      rw [hcl]
      exact ⟨rfl, hU⟩
    · subst e
      refine ⟨hin, m_nodeT n12 hj0 hi (n2f nz1 ⟨fun q => absurd q (by decide), fun _ => ⟨hin, ?_⟩, fun q => absurd q (by decide), fun q => absurd q (by decide), fun q => absurd q (by decide), fun q => absurd q (by decide), fun q => absurd q (by decide), fun q => absurd q (by decide), fun q => absurd q (by decide), fun _ z _ _ _ _ _ _ _ => absurd rfl z⟩)⟩
      rw [hcl, w7]; exact ⟨rfl, hU⟩
    · subst e
      refine ⟨hin, m_nodeT n12 hj0 hi (n2f nz1 ⟨fun q => absurd q (by decide), fun q => absurd q (by decide), fun _ => ⟨hin, ?_⟩, fun q => absurd q (by decide), fun q => absurd q (by decide), fun q => absurd q (by decide), fun q => absurd q (by decide), fun q => absurd q (by decide), fun q => absurd q (by decide), fun _ _ z _ _ _ _ _ _ => absurd rfl z⟩)⟩
      rw [hcl, w8]; exact ⟨rfl, hU⟩
    · subst e
      exact c3 (m_nodeT n12 hj0 hi (n2f nz1 ⟨fun q => absurd q (by decide), fun q => absurd q (by decide), fun q => absurd q (by decide), fun _ => m3 ⟨rfl, hU⟩, fun q => absurd q (by decide), fun q => absurd q (by decide), fun q => absurd q (by decide), fun q => absurd q (by decide), fun q => absurd q (by decide), fun _ _ _ z _ _ _ _ _ => absurd rfl z⟩))
    · subst e
      exact c4 (g_bitB (m_nodeT n12 hj0 hi (n2f nz1 ⟨fun q => absurd q (by decide), fun q => absurd q (by decide), fun q => absurd q (by decide), fun q => absurd q (by decide), fun _ => M_isSource (by omega) (bI_split (Q := fun r => _ = r ∧ _) ⟨rfl, hU⟩), fun q => absurd q (by decide), fun q => absurd q (by decide), fun q => absurd q (by decide), fun q => absurd q (by decide), fun _ _ _ _ z _ _ _ _ => absurd rfl z⟩)))
    · subst e
      refine C_held (thI_some hti hT).1 (thI_some hti hT).2 (m_nodeT n12 hj0 hi (n2f nz1 ⟨fun q => absurd q (by decide), fun q => absurd q (by decide), fun q => absurd q (by decide), fun q => absurd q (by decide), fun q => absurd q (by decide), fun _ => ⟨hin, ?_⟩, fun q => absurd q (by decide), fun q => absurd q (by decide), fun q => absurd q (by decide), fun _ _ _ _ _ z _ _ _ => absurd rfl z⟩))
      rw [hcl]
      exact ⟨rfl, hU⟩
    · subst e
      refine C_litOrF (thI_some hti hT).1 (thI_some hti hT).2 ⟨fun e0 => ?_, fun e0 => ?_⟩
      · refine c2t rfl (m_nodeT n12 hj0 hi (n2f nz1 ⟨fun q => absurd q (by decide), fun q => absurd q (by decide), fun q => absurd q (by decide), fun q => absurd q (by decide), fun q => absurd q (by decide), fun q => absurd q (by decide), fun _ => ⟨hin, ?_⟩, fun q => absurd q (by decide), fun q => absurd q (by decide), fun _ _ _ _ _ _ z _ _ => absurd rfl z⟩))
        rw [hcl]
        exact c2t e0 ⟨rfl, hU⟩
      · refine c2f nz1 (m_nodeT n12 hj0 hi (n2f nz1 ⟨fun q => absurd q (by decide), fun q => absurd q (by decide), fun q => absurd q (by decide), fun q => absurd q (by decide), fun q => absurd q (by decide), fun q => absurd q (by decide), fun _ => ⟨hin, ?_⟩, fun q => absurd q (by decide), fun q => absurd q (by decide), fun _ _ _ _ _ _ z _ _ => absurd rfl z⟩))
        rw [hcl]
        exact c2f e0 ⟨rfl, hU⟩
    · subst e
      refine ⟨hin, m_nodeT n12 hj0 hi (n2f nz1 ⟨fun q => absurd q (by decide), fun q => absurd q (by decide), fun q => absurd q (by decide), fun q => absurd q (by decide), fun q => absurd q (by decide), fun q => absurd q (by decide), fun q => absurd q (by decide), fun _ => ⟨hin, ?_⟩, fun q => absurd q (by decide), fun _ _ _ _ _ _ _ z _ => absurd rfl z⟩)⟩
      rw [hcl, w0]; exact ⟨rfl, hU⟩
    · subst e
      refine ⟨hin, m_nodeT n12 hj0 hi (n2f nz1 ⟨fun q => absurd q (by decide), fun q => absurd q (by decide), fun q => absurd q (by decide), fun q => absurd q (by decide), fun q => absurd q (by decide), fun q => absurd q (by decide), fun q => absurd q (by decide), fun q => absurd q (by decide), fun _ => ⟨hin, ?_⟩, fun _ _ _ _ _ _ _ _ z => absurd rfl z⟩)⟩
      rw [hcl, w4]; exact ⟨rfl, hU⟩
    · exact m_nodeT n12 hj0 hi (n2f nz1 ⟨fun q => absurd q n0, fun q => absurd q n1, fun q => absurd q n2, fun q => absurd q n3, fun q => absurd q n4, fun q => absurd q n5, fun q => absurd q n6, fun q => absurd q n7, fun q => absurd q n8, fun _ _ _ _ _ _ _ _ _ => ⟨rfl, hU⟩⟩)
  · exact n2t rfl (m_nodeF n12 hj0 h (n2t rfl ⟨rfl, hU⟩))
theorem C_setLit {q : Nat} {P : Int32 → (Nat → Nat → Int32) → Prop} (hB : isB a2) (h5 : isB (F q 5)) (p : P (F q 5) (sF (if ¬ a2 = 0 ∧ F q 5 = 0 then sF F q 6 a3 else F) q 5 a2)) : g_Ho_setLit_Ho F q a2 a3 P := by
  refine y1 ⟨fun h => ?_, fun h => ⟨fun h2 => ?_, fun h2 => ?_⟩⟩
  · rw [if_neg (fun z => z.1 h)] at p; exact ⟨hB, h5, p⟩
  · rw [if_neg (fun z => h2 z.2)] at p; exact ⟨hB, h5, p⟩
  · rw [if_pos ⟨h, h2⟩] at p; exact ⟨hB, h5, p⟩
theorem M_setLit {i : Nat} {P : Int32 → (Nat → Nat → Int32) → Prop} (hi : i < 12) (p : P (bI (decide (¬ B 8 i = a2))) (sA (sA B 9 (nI i) (if ¬ a2 = 0 ∧ ¬ B 8 i = a2 then J 3 else B 9 i)) 8 (nI i) (vp_nar .boolean a2))) : g_Mo_setLit J B (nI i) a2 P := by
  have hin : vp_in (nI i) 12 := vin hi (by omega)
  have hcl : (nI i).toNatClampNeg = i := nI_clamp (by omega)
  have g36 : ∀ x : Int32, isB x → P x (sA (sA B 9 (nI i) (B 9 i)) 8 (nI i) (vp_nar .boolean a2)) → g_Mo_setLit_36 J (nI i) a2 P B x (nI i) := by
    intro x hx h
    refine ⟨hin, hin, hin, hx, ?_⟩
    rw [hcl]; exact h
  refine ⟨hin, ?_⟩
  rw [hcl]
  by_cases e : B 8 i = a2
  · rw [if_neg (fun z => z.2 e), show decide (¬ B 8 i = a2) = false from decide_eq_false (fun z => z e)] at p
    refine c2t e ⟨fun h => g36 _ (Or.inl rfl) p, fun h => c2t rfl (g36 _ (Or.inl rfl) p)⟩
  · rw [show decide (¬ B 8 i = a2) = true from decide_eq_true e] at p
    refine c2f e ⟨fun h => g36 _ (Or.inr rfl) ?_, fun h => c2f nz1 ⟨hin, hin, Or.inr rfl, ?_⟩⟩
    · rw [if_neg (fun z => z.1 h)] at p; exact p
    · rw [if_pos ⟨h, e⟩] at p; exact p
/-- a house is lit or damped: both sides -/
theorem Rth.lit {n i q : Nat} {b2 b3 b4 b5 b6 b7 b8 b9 : Nat → Int32} {x : Int32} (h : Rth n T L K F b2 b3 b4 b5 b6 b7 b8 b9) (hi : i < 12) (hT : T i = some q) (h5 : b2 i = 5) (hB : isB a2) :
    Rth n T L K (sF (if ¬ a2 = 0 ∧ F q 5 = 0 then sF F q 6 x else F) q 5 a2) b2 b3 b4 b5 b6 b7 (upd b8 (nI i).toNatClampNeg (vp_nar .boolean a2)) (upd b9 (nI i).toNatClampNeg (if ¬ a2 = 0 ∧ ¬ b8 i = a2 then x else b9 i)) := by
  rw [nI_clamp (by omega), nar_B hB]
  obtain ⟨e0, e1, e2, e3, e4, e5, e6, e7, e8, e9, e10, e11⟩ := thq_hs (thI_some (h.1 i hi) hT).2 h5
  refine h.chg hi hT (fun y hy => ?_) (fun j hj => ⟨rfl, up_ne hj, up_ne hj⟩) ?_
  · rw [sF_ne hy]
    by_cases c : ¬ a2 = 0 ∧ F q 5 = 0
    · rw [if_pos c]; exact sF_ne hy
    · rw [if_neg c]
  · rw [up_at, up_at]
    by_cases c : ¬ a2 = 0 ∧ F q 5 = 0
    · have c2 : ¬ a2 = 0 ∧ ¬ b8 i = a2 := ⟨c.1, fun z => c.1 (by rw [← z, ← e7]; exact c.2)⟩
      rw [if_pos c, if_pos c2, sF_at, sF_at]
      exact Or.inr (Or.inr (Or.inr (Or.inr (Or.inl ⟨e0, e1, e2, e3, e4, e5, e6, rfl, hB, fun _ => rfl, e10, e11⟩))))
    · rw [if_neg c, sF_at]
      refine Or.inr (Or.inr (Or.inr (Or.inr (Or.inl ⟨e0, e1, e2, e3, e4, e5, e6, rfl, hB, fun hz => ?_, e10, e11⟩))))
      have hne : ¬ F q 5 = 0 := fun z => c ⟨hz, z⟩
      have h8 : b8 i = a2 := by
        rw [e7] at hne
        rcases e8 with z | z
        · exact absurd z hne
        · rcases hB with y | y
          · exact absurd y hz
          · rw [z, y]
      rw [if_neg (fun z => z.2 h8)]
      exact e9 (by rw [← e7]; exact hne)
theorem op_light (hB : isB a2) (hR : Rel k I A T L K F J B) : g_Pw_light I T L K F a1 a2 (fun r u => g_Mo_light J B a1 a2 (fun r2 v => r = r2 ∧ Rel (k + 1) I A T L K u J v)) := by
  have hU := hR.up
  obtain ⟨tk, n, m, v, sh, nr, sg, od, bk, ht, hc, hn, hm, hv, hnr, hmm, hs, ho, hp, hrw, htm, hmt, hkn, hth⟩ := hR
  obtain ⟨n12, hi4, hj0, hh, hd, hhd⟩ := id hn
  refine g_has n12 hi4 (fun i hi e => ?_) (fun h => ?_)
  · subst e
    have hin : vp_in (nI i) 12 := vin (by omega) (by omega)
    have hcl : (nI i).toNatClampNeg = i := nI_clamp (by omega)
    have hti := hth.1 i (by omega)
    refine n2f nz1 ⟨hin, ?_⟩
    rw [hcl]
    refine ⟨fun hT => ?_, fun q hT => ⟨(thI_some hti hT).1, thq_isTh (thI_some hti hT).2, fun hK => ?_, fun hK => ?_⟩⟩
    · refine m_nodeT n12 hj0 hi (n2f nz1 ⟨hin, ?_⟩)
      rw [hcl]
      exact c2f (by rw [(thI_none hti hT).1]; decide) ⟨rfl, hU⟩
    · have h5 := (thq_house (thI_some hti hT).2).mp hK
      obtain ⟨e0, e1, e2, e3, e4, e5, e6, e7, e8, -⟩ := thq_hs (thI_some hti hT).2 h5
      refine C_setLit hB (by rw [e7]; exact e8) ?_
      rw [e7]
      obtain ⟨b, hb⟩ := isB_of e8
      rw [hb]
      refine g_bitB ?_
      refine m_nodeT n12 hj0 hi (n2f nz1 ⟨hin, ?_⟩)
      rw [hcl]
      refine c2t h5 (M_setLit (by omega) ?_)
      have hres : (¬ bI (decide (¬ B 8 i = a2)) = a2 → bI b = 1) ∧ (bI (decide (¬ B 8 i = a2)) = a2 → bI b = 0) := by
        rw [hb]
        obtain ⟨c, rfl⟩ := isB_of hB
        cases b <;> cases c <;> decide
      obtain ⟨t1, t2, t3⟩ := ht
      have hnew := hth.lit (x := J 3) (a2 := a2) (by omega) hT h5 hB
      rw [e7, hb, t3, ← t2] at hnew
      rw [hb, t3, ← t2]
      have fin : Rel (k + 1) I A T L K (sF (if ¬ a2 = 0 ∧ bI b = 0 then sF F q 6 (I 0) else F) q 5 a2) J (sA (sA B 9 (nI i) (if ¬ a2 = 0 ∧ ¬ bI b = a2 then I 0 else B 9 i)) 8 (nI i) (vp_nar .boolean a2)) :=
        ⟨tk, n, m, v, sh, nr, sg, od, bk, Rtime.up ⟨t1, t2, t3⟩, hc, hn, hm, hv, hnr, hmm, hs, ho, hp, hrw, htm, hmt, hkn, hnew⟩
      rw [hb] at hres
      exact ⟨fun z => ⟨hres.1 z, fin⟩, fun z => ⟨hres.2 z, fin⟩⟩
    · refine m_nodeT n12 hj0 hi (n2f nz1 ⟨hin, ?_⟩)
      rw [hcl]
      exact c2f (fun z => hK ((thq_house (thI_some hti hT).2).mpr z)) ⟨rfl, hU⟩
  · exact n2t rfl (m_nodeF n12 hj0 h (n2t rfl ⟨rfl, hU⟩))
theorem op_found (hR : Rel k I A T L K F J B) : g_Pw_found I T L K F a1 (fun r u => g_Mo_found J B a1 (fun r2 v => r = r2 ∧ Rel (k + 1) I A T L K u J v)) := by
  have hU := hR.up
  obtain ⟨tk, n, m, v, sh, nr, sg, od, bk, ht, hc, hn, hm, hv, hnr, hmm, hs, ho, hp, hrw, htm, hmt, hkn, hth⟩ := hR
  obtain ⟨n12, hi4, hj0, hh, hd, hhd⟩ := id hn
  refine g_has n12 hi4 (fun i hi e => ?_) (fun h => ?_)
  · subst e
    have hin : vp_in (nI i) 12 := vin (by omega) (by omega)
    have hcl : (nI i).toNatClampNeg = i := nI_clamp (by omega)
    have hti := hth.1 i (by omega)
    have no : ¬ B 2 i = 7 → g_Mo_found J B (nI i) (fun r2 v => (-3 : Int32) = r2 ∧ Rel (k + 1) I A T L K F J v) := by
      intro h7
      refine m_nodeT n12 hj0 hi (n2f nz1 ⟨hin, ?_⟩)
      rw [hcl]
      exact c2f h7 ⟨rfl, hU⟩
    refine n2f nz1 ⟨hin, ?_⟩
    rw [hcl]
    refine ⟨fun hT => no (by rw [(thI_none hti hT).1]; decide), fun q hT => ⟨(thI_some hti hT).1, thq_isTh (thI_some hti hT).2, fun hK => ?_, fun hK => no ((thq_lk (thI_some hti hT).2).2 hK)⟩⟩
    obtain ⟨e0, e1, e2, e3, e4, e5⟩ := (thq_lk (thI_some hti hT).2).1 hK
    rcases e4 with ⟨e6, e7⟩ | ⟨e6, e7⟩
    · exact c2t e6 (no (by rw [e7]; decide))
    · refine c2f (by rw [e6]; decide) ?_
      have hnew : Rth n T L K (sF F q 2 1) (B 2) (B 3) (B 4) (B 5) (B 6) (B 7) (upd (B 8) (nI i).toNatClampNeg (vp_nar .boolean 1)) (B 9) := by
        rw [hcl]
        refine hth.chg (by omega) hT (fun y hy => sF_ne hy) (fun j hj => ⟨rfl, up_ne hj, rfl⟩) ?_
        rw [up_at, sF_at]
        exact Or.inr (Or.inr (Or.inr (Or.inr (Or.inr ⟨hK, e0, rfl, Or.inr rfl, e3, Or.inr ⟨e6, e7⟩, e5⟩))))
      have fin : Rel (k + 1) I A T L K (sF F q 2 1) J (sA B 8 (nI i) (vp_nar .boolean 1)) := ⟨tk, n, m, v, sh, nr, sg, od, bk, ht.up, hc, hn, hm, hv, hnr, hmm, hs, ho, hp, hrw, htm, hmt, hkn, hnew⟩
      refine ⟨fun z => ?_, fun z => ?_⟩
      · refine c2t rfl ⟨(thI_some hti hT).1, hK, m_nodeT n12 hj0 hi (n2f nz1 ⟨hin, ?_⟩)⟩
        rw [hcl]
        refine c2t e7 ⟨hin, ?_⟩
        exact c2f (by rw [← e1]; exact z) ⟨hin, rfl, fin⟩
      · refine c2f nz1 ⟨(thI_some hti hT).1, hK, m_nodeT n12 hj0 hi (n2f nz1 ⟨hin, ?_⟩)⟩
        rw [hcl]
        refine c2t e7 ⟨hin, ?_⟩
        exact c2t (by rw [← e1]; exact z) ⟨hin, rfl, fin⟩
  · exact n2t rfl (m_nodeF n12 hj0 h (n2t rfl ⟨rfl, hU⟩))
end OPS5
