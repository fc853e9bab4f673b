/-! ===== layer 2: the net's own calls ===== -/
theorem g_has {I : Nat → Int32} {a : Int32} {n : Nat} {P : Int32 → Prop} (hn : n ≤ 12) (hx : I 4 = nI n) (h1 : ∀ i, i < n → a = nI i → P 1) (h0 : ¬ inN a n → P 0) : g_Ne_has I a P := g_hasC (by omega) hx h1 h0
theorem g_hasMain {I : Nat → Int32} {a : Int32} {n : Nat} {P : Int32 → Prop} (hn : n ≤ 18) (hx : I 9 = nI n) (h1 : ∀ i, i < n → a = nI i → P 1) (h0 : ¬ inN a n → P 0) : g_Pi_hasMain I a P := g_hasC (by omega) hx h1 h0
theorem g_hasValve {I : Nat → Int32} {a : Int32} {n : Nat} {P : Int32 → Prop} (hn : n ≤ 12) (hx : I 10 = nI n) (h1 : ∀ i, i < n → a = nI i → P 1) (h0 : ¬ inN a n → P 0) : g_Pi_hasValve I a P := g_hasC (by omega) hx h1 h0
theorem g_hasOrder {I : Nat → Int32} {a : Int32} {n : Nat} {P : Int32 → Prop} (hn : n ≤ 6) (hx : I 13 = nI n) (h1 : ∀ i, i < n → a = nI i → P 1) (h0 : ¬ inN a n → P 0) : g_Or_hasOrder I a P := g_hasC (by omega) hx h1 h0
theorem m_nodeT {J : Nat → Int32} {i n : Nat} {P : Int32 → Prop} (hn : n ≤ 12) (hx : J 0 = nI n) (hi : i < n) (p : P 1) : g_Mo_isNode J (nI i) P := g_inC_t (by omega) hx hi ⟨Or.inr rfl, p⟩
theorem m_nodeF {J : Nat → Int32} {a : Int32} {n : Nat} {P : Int32 → Prop} (hn : n ≤ 12) (hx : J 0 = nI n) (h : ¬ inN a n) (p : P 0) : g_Mo_isNode J a P := g_inC_f (by omega) hx h ⟨Or.inl rfl, p⟩
theorem m_mainT {J : Nat → Int32} {i n : Nat} {P : Int32 → Prop} (hn : n ≤ 18) (hx : J 1 = nI n) (hi : i < n) (p : P 1) : g_Mo_isMain J (nI i) P := g_inC_t (by omega) hx hi ⟨Or.inr rfl, p⟩
theorem m_mainF {J : Nat → Int32} {a : Int32} {n : Nat} {P : Int32 → Prop} (hn : n ≤ 18) (hx : J 1 = nI n) (h : ¬ inN a n) (p : P 0) : g_Mo_isMain J a P := g_inC_f (by omega) hx h ⟨Or.inl rfl, p⟩
theorem m_valveT {J : Nat → Int32} {i n : Nat} {P : Int32 → Prop} (hn : n ≤ 12) (hx : J 2 = nI n) (hi : i < n) (p : P 1) : g_Mo_isValve J (nI i) P := g_inC_t (by omega) hx hi ⟨Or.inr rfl, p⟩
theorem m_valveF {J : Nat → Int32} {a : Int32} {n : Nat} {P : Int32 → Prop} (hn : n ≤ 12) (hx : J 2 = nI n) (h : ¬ inN a n) (p : P 0) : g_Mo_isValve J a P := g_inC_f (by omega) hx h ⟨Or.inl rfl, p⟩
theorem rg_nI {a : Int32} {lo hi : Nat} (h : nI lo ≤ a ∧ a ≤ nI hi) (hh : hi < 2 ^ 31) (hl : lo < 2 ^ 31) : ∃ x, lo ≤ x ∧ x ≤ hi ∧ a = nI x := by
  have h1 := h.1
  have h2 := h.2
  rw [fa_le, nI_toInt hl] at h1
  rw [fa_le, nI_toInt hh] at h2
  obtain ⟨x, hx, rfl⟩ := nI_of (x := a) (by rw [fa_lt, show (0 : Int32).toInt = 0 from by decide]; omega)
  rw [nI_toInt hx] at h1 h2
  exact ⟨x, by omega, by omega, rfl⟩
theorem rg_le {a b c : Int32} (h : b ≤ a ∧ a ≤ c) : rg a b.toInt c.toInt := ⟨(fa_le _ _).mp h.1, (fa_le _ _).mp h.2⟩
/-- the counters that have room -/
theorem cnt_lt {x : Int32} {n N : Nat} (hx : x = nI n) (hN : N < 2 ^ 31) (h : n < N) : x < nI N := by subst hx; exact nI_lt h hN
theorem cnt_nlt {x : Int32} {n N : Nat} (hx : x = nI n) (hn : n < 2 ^ 31) (h : N ≤ n) : ¬ x < nI N := by subst hx; exact nI_nlt h hn
theorem cnt_ne {x : Int32} {n N : Nat} (hx : x = nI n) (hN : N < 2 ^ 31) (h : n < N) : ¬ x = nI N := by subst hx; intro e; rw [nI_eq (by omega) hN] at e; omega
theorem cnt_add {x : Int32} {n : Nat} (hx : x = nI n) : x + 1 = nI (n + 1) := by subst hx; exact nI_1 n
theorem cnt_sub {x : Int32} {n : Nat} (hx : x = nI n) : x + 1 - 1 = x := by subst hx; rw [nI_1, nI_pred]
theorem upd_lt {f g : Nat → Int32} {P : Nat → Int32 → Int32 → Prop} {n j j2 : Nat} {x y : Int32} (h : ∀ i, i < n → P i (f i) (g i)) (hj : j2 = j) (hx : P j x y) : ∀ i, i < n → P i (upd f j x i) (upd g j2 y i) := by
  subst hj
  intro i hi
  by_cases e : i = j2
  · subst e; rw [up_at, up_at]; exact hx
  · rw [up_ne e, up_ne e]; exact h i hi
theorem Rnode.add {n : Nat} {i4 j0 a1 a2 : Int32} {a7 a8 a9 b0 b1 b13 : Nat → Int32} (h : Rnode n i4 j0 a7 a8 a9 b0 b1 b13) (hn : n < 12) (h1 : (0 : Int32) ≤ a1 ∧ a1 ≤ 200) (h2 : (0 : Int32) ≤ a2 ∧ a2 ≤ 3) :
    Rnode (n + 1) (i4 + 1) (j0 + 1) (upd a7 i4.toNatClampNeg a1) (upd a8 i4.toNatClampNeg a2) (upd a9 i4.toNatClampNeg (10 * a1)) (upd b0 j0.toNatClampNeg a1) (upd b1 j0.toNatClampNeg a2) (upd b13 j0.toNatClampNeg (10 * a1)) := by
  obtain ⟨h0, rfl, rfl, h3, h4, h5⟩ := h
  obtain ⟨x, -, hx, rfl⟩ := rg_nI (lo := 0) (hi := 200) h1 (by omega) (by omega)
  obtain ⟨y, -, hy, rfl⟩ := rg_nI (lo := 0) (hi := 3) h2 (by omega) (by omega)
  rw [nI_clamp (by omega)]
  refine ⟨by omega, nI_1 n, nI_1 n, fun i hi => ?_, fun i hi => ?_, fun i hi => ?_⟩
  · by_cases e : i = n
    · subst e; rw [up_at, up_at]; exact ⟨rfl, x, hx, rfl⟩
    · rw [up_ne e, up_ne e]; exact h3 i hi
  · by_cases e : i = n
    · subst e; rw [up_at, up_at]; exact ⟨rfl, y, by omega, rfl⟩
    · rw [up_ne e, up_ne e]; exact h4 i hi
  · by_cases e : i = n
    · subst e; rw [up_at, up_at]; exact ⟨rfl, 10 * x, by omega, pk_mul 10 x⟩
    · rw [up_ne e, up_ne e]; exact h5 i (by omega)
theorem Rmain.node {n m : Nat} {i9 j1 : Int32} {a17 a18 a19 b14 b15 b16 : Nat → Int32} (h : Rmain n m i9 j1 a17 a18 a19 b14 b15 b16) : Rmain (n + 1) m i9 j1 a17 a18 a19 b14 b15 b16 := by
  obtain ⟨h1, h2, h3, h4⟩ := h
  refine ⟨h1, h2, h3, fun i hi => ?_⟩
  obtain ⟨e1, e2, e3, x, y, w, q1, q2, q3⟩ := h4 i hi
  exact ⟨e1, e2, e3, x, y, w, by omega, by omega, q3⟩
theorem Rmemo.node {n m : Nat} {i6 i7 i8 i4 x y : Int32} {a7 a9 a13 a17 a18 a19 : Nat → Int32} (hi : i4 = nI n) (hn : n < 2 ^ 31) (h : Rmemo n m i6 i7 i8 a7 a9 a13 a17 a18 a19) : Rmemo (n + 1) m i6 i7 i8 (upd a7 i4.toNatClampNeg x) (upd a9 i4.toNatClampNeg y) a13 a17 a18 a19 := by
  subst hi
  rw [nI_clamp hn]
  intro h8
  obtain ⟨n0, bits, nr0, h0, e1, e2, w0, q1, q2, q3, q4, q5, q6, q7, q8, q9, q10, q11⟩ := h h8
  exact ⟨n0, bits, nr0, h0, e1, e2, w0, by omega, q2, q3, q4, q5, q6, fun i hi => by rw [up_ne (by omega)]; exact q7 i hi, q8, fun i hi => by rw [up_ne (by omega)]; exact q9 i hi, q10, q11⟩
theorem Rth.node {n : Nat} {T : Nat → Option Nat} {L : List Nat} {K : Nat → Nat} {F : Nat → Nat → Int32} {b2 b3 b4 b5 b6 b7 b8 b9 : Nat → Int32} (h : Rth n T L K F b2 b3 b4 b5 b6 b7 b8 b9) : Rth (n + 1) T L K F b2 b3 b4 b5 b6 b7 b8 b9 :=
  ⟨h.1, fun i h1 h2 => h.2.1 i (by omega) h2, h.2.2⟩
section OPS1
variable {k : Nat} {I : Nat → Int32} {A : Nat → Nat → Int32} {T : Nat → Option Nat} {L : List Nat} {K : Nat → Nat} {F : Nat → Nat → Int32} {J : Nat → Int32} {B : Nat → Nat → Int32} {a1 a2 a3 : Int32}
theorem op_node (hR : Rel k I A T L K F J B) : g_Pw_node I A a1 a2 (fun r u => g_Mo_node J B a1 a2 (fun r2 v => r = r2 ∧ Rel (k + 1) u.1 u.2 T L K F v.1 v.2)) := by
  refine g_wi (fun h1 => ?_) (fun h1 => ?_)
  · refine c2f nz1 ?_
    refine g_wi (fun h2 => ?_) (fun h2 => ?_)
    · refine n2f nz1 ?_
      have hU := hR.up
      obtain ⟨tk, n, m, v, sh, nr, sg, od, bk, ht, hc, hn, hm, hv, hnr, hmm, hs, ho, hp, hrw, htm, hmt, hkn, hth⟩ := hR
      have hn' := hn
      obtain ⟨n12, hi4, hj0, hh, hd, hhd⟩ := hn'
      by_cases h12 : n = 12
      · refine c2f (cnt_nlt (N := 12) hi4 (by omega) (by omega)) ?_
        exact g_mt h1 (c2f nz1 (g_mt h2 (n2f nz1 (n2t (by rw [hj0, h12]; rfl) ⟨rfl, hU⟩))))
      · have hlt : n < 12 := by omega
        have hin : vp_in (I 4) 12 := by rw [hi4]; exact vin hlt (by omega)
        have hin2 : vp_in (J 0) 12 := by rw [hj0]; exact vin hlt (by omega)
        refine c2t (cnt_lt (N := 12) hi4 (by omega) hlt) ⟨hin, hin, hin, ?_⟩
        refine g_mt h1 (c2f nz1 (g_mt h2 (n2f nz1 (n2f (cnt_ne (N := 12) hj0 (by omega) hlt) ⟨hin2, hin2, hin2, ?_, ?_⟩))))
        · show I 4 = J 0 + 1 - 1
          rw [cnt_sub hj0, hj0, hi4]
        · exact ⟨tk, n + 1, m, v, sh, nr, sg, od, bk, ht.up, hc, hn.add hlt h1 h2, hm.node, hv, hnr, hmm.node hi4 (by omega), hs, ho, hp, hrw, htm, hmt, hkn, hth.node⟩
    · refine n2t rfl ?_
      exact g_mt h1 (c2f nz1 (g_mf h2 (n2t rfl ⟨rfl, hR.up⟩)))
  · refine c2t rfl ?_
    exact g_mf h1 (c2t rfl ⟨rfl, hR.up⟩)
end OPS1
