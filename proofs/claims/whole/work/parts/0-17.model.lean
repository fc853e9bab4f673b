/-! ===== layer 2: the model's work ===== -/
def mS (B : Nat → Nat → Int32) (tick : Int32) (i : Nat) : Option Int32 := if srcB (B 2 i) (B 7 i) (B 8 i) (B 4 i) (B 9 i) tick then some (B 3 i) else none
def mT (B : Nat → Nat → Int32) (tick : Int32) (i : Nat) (p : Int32) : Int32 := tkv (B 2 i) (B 3 i) (B 4 i) (B 5 i) (B 6 i) (B 7 i) tick p
theorem mS_is {B : Nat → Nat → Int32} {tick : Int32} {i : Nat} : (mS B tick i).isSome = srcB (B 2 i) (B 7 i) (B 8 i) (B 4 i) (B 9 i) tick := by
  unfold mS
  cases srcB (B 2 i) (B 7 i) (B 8 i) (B 4 i) (B 9 i) tick <;> rfl
theorem mS_no {B : Nat → Nat → Int32} {tick : Int32} {i : Nat} : mS B tick i = none ↔ srcB (B 2 i) (B 7 i) (B 8 i) (B 4 i) (B 9 i) tick = false := by
  unfold mS
  cases srcB (B 2 i) (B 7 i) (B 8 i) (B 4 i) (B 9 i) tick <;> simp
theorem mS_fr {B B0 : Nat → Nat → Int32} {tick : Int32} (h : ∀ c, c ≠ 13 → B c = B0 c) : mS B tick = mS B0 tick := by
  funext i
  unfold mS
  rw [h 2 (by decide), h 3 (by decide), h 4 (by decide), h 7 (by decide), h 8 (by decide), h 9 (by decide)]
theorem mT_fr {B B0 : Nat → Nat → Int32} {tick : Int32} (h : ∀ c, c ≠ 13 → B c = B0 c) : mT B tick = mT B0 tick := by
  funext i p
  unfold mT
  rw [h 2 (by decide), h 3 (by decide), h 4 (by decide), h 5 (by decide), h 6 (by decide), h 7 (by decide)]
theorem rg_ex {x : Int32} {hi : Nat} (h : rg x 0 hi) : ∃ y, y ≤ hi ∧ x = nI y := nI_of_int h.1 h.2
theorem rg_ex1 {x : Int32} {hi : Nat} (h : rg x 1 hi) : ∃ y, 1 ≤ y ∧ y ≤ hi ∧ x = nI y := by
  obtain ⟨y, hy, e⟩ := nI_of_int (m := hi) (by have := h.1; omega) h.2
  refine ⟨y, ?_, hy, e⟩
  rcases Nat.eq_zero_or_pos y with h0 | h0
  · subst h0
    rw [e] at h
    exact absurd h.1 (by decide)
  · exact h0
theorem max0_ex {p : Int32} (h : p.toInt ≤ 7000) : ∃ q, q ≤ 7000 ∧ max0 p = nI q := by
  unfold max0
  by_cases c : p < 0
  · rw [if_pos c]; exact ⟨0, by omega, rfl⟩
  · rw [if_neg c]
    rw [fa_lt, show (0 : Int32).toInt = 0 from by decide] at c
    exact nI_of_int (m := 7000) (by omega) h
theorem leak_ex {on p : Int32} {c q : Nat} (h1 : on = nI c) (hc : c ≤ 1000) (h2 : max0 p = nI q) (hq : q ≤ 7000) : on * max0 p / 1000 = nI (c * q / 1000) ∧ c * q / 1000 ≤ 7000 := by
  have h3 : c * q ≤ 1000 * 7000 := Nat.mul_le_mul hc hq
  rw [h1, h2, pk_mul, show (1000 : Int32) = nI 1000 from rfl, pk_div (by omega) (by omega) (by omega)]
  exact ⟨rfl, by omega⟩
theorem tk_bd {L : List Nat} {K : Nat → Nat} {F : Nat → Nat → Int32} {o : Option Nat} {t : Nat} {kd on tw th fo lv li la tick p : Int32} (ht : t < 2 ^ 31) (hk : tick = nI t) (h : thI o L K F kd on tw th fo lv li la) (hp : p.toInt ≤ 7000) : ∃ x, x ≤ 14000 ∧ tkv kd on tw th fo lv tick p = nI x := by
  rcases h with ⟨-, h, -⟩ | ⟨q, -, -, h⟩
  · rw [h, tkv_0]; exact ⟨0, by omega, rfl⟩
  · rcases h with h | h | h | h | h | h
    · obtain ⟨y, hy, e⟩ := rg_ex (hi := 1000) h.2.2.2.2.2.2.2
      rw [h.2.1, tkv_1]
      cases nowB th fo tick
      · exact ⟨0, by omega, rfl⟩
      · exact ⟨y, by omega, e⟩
    · obtain ⟨y, hy, e⟩ := rg_ex (hi := 1000) h.2.2.2.2.2.2.2.2.1
      obtain ⟨z, hz, e2⟩ := rg_ex (hi := 6) h.2.2.2.2.2.2.2.2.2
      rw [h.2.1, tkv_2]
      cases nowB th fo tick
      · exact ⟨0, by omega, rfl⟩
      · simp only [if_true]
        rw [hk, ofD_nI ht, e2, show (60 : Int32) = nI 60 from rfl, show (3 : Int32) = nI 3 from rfl, show (7 : Int32) = nI 7 from rfl, pk_div (by omega) (by omega) (by omega), pk_mul, nI_add, pk_rem (by omega) (by omega) (by omega), e, pk_mul]
        refine ⟨_, ?_, rfl⟩
        have h7 : (z + 3 * (t / 4 % 1440 / 60)) % 7 ≤ 6 := by omega
        have := Nat.mul_le_mul hy h7
        omega
    · obtain ⟨y, hy, e⟩ := rg_ex (hi := 1000) h.2.2.2.2.2.2.2.2.2.2.1
      rw [h.2.1, tkv_3]
      by_cases c : fo ≤ (mnt tick + th) - (mnt tick + th) / tw * tw
      · rw [if_pos c]; exact ⟨0, by omega, rfl⟩
      · rw [if_neg c]; exact ⟨y, by omega, e⟩
    · rw [h.2.1, tkv_4]
      by_cases c : lv = 0
      · rw [if_pos c]; exact ⟨10, by omega, rfl⟩
      · rw [if_neg c]; exact ⟨0, by omega, rfl⟩
    · rw [h.2.1, tkv_5]; exact ⟨0, by omega, rfl⟩
    · obtain ⟨y, -, hy, e⟩ := rg_ex1 (hi := 1000) h.2.2.2.2.2.2
      obtain ⟨q2, hq, e2⟩ := max0_ex hp
      obtain ⟨e3, h3⟩ := leak_ex e hy e2 hq
      rcases h.2.2.2.2.2.1 with ⟨-, z⟩ | ⟨-, z⟩
      · rw [z, tkv_6, e3]; exact ⟨_, by omega, rfl⟩
      · rw [z, tkv_7, e3, show (2 : Int32) = nI 2 from rfl, pk_mul]; exact ⟨_, by omega, rfl⟩
theorem wt_bd {L : List Nat} {K : Nat → Nat} {F : Nat → Nat → Int32} {o : Option Nat} {kd on tw th fo lv li la tick : Int32} (h : thI o L K F kd on tw th fo lv li la) (hs : srcB kd lv li tw la tick = true) : ∃ x, x ≤ 5000 ∧ on = nI x := by
  have h45 : kd = 4 ∨ kd = 5 := by
    have := of_decide_eq_true hs
    rcases this with q | q
    · exact Or.inl q.1
    · exact Or.inr q.1
  rcases h with ⟨-, h, -⟩ | ⟨q, -, -, h⟩
  · rw [h] at h45; exact absurd h45 (by decide)
  · rcases h with h | h | h | h | h | h
    · rw [h.2.1] at h45; exact absurd h45 (by decide)
    · rw [h.2.1] at h45; exact absurd h45 (by decide)
    · rw [h.2.1] at h45; exact absurd h45 (by decide)
    · exact rg_ex (hi := 5000) h.2.2.2.2.2.2.1
    · exact rg_ex (hi := 5000) h.2.2.2.2.2.2.2.2.2.2.1
    · rcases h.2.2.2.2.2.1 with ⟨-, z⟩ | ⟨-, z⟩
      · rw [z] at h45; exact absurd h45 (by decide)
      · rw [z] at h45; exact absurd h45 (by decide)
section MW
variable {J : Nat → Int32} {B B0 : Nat → Nat → Int32} {T : Nat → Option Nat} {L : List Nat} {K : Nat → Nat} {F : Nat → Nat → Int32} {n m v t bits : Nat}
/-- things by the model's rows, at the first n nodes -/
def thN (n : Nat) (T : Nat → Option Nat) (L : List Nat) (K : Nat → Nat) (F : Nat → Nat → Int32) (B : Nat → Nat → Int32) : Prop := ∀ i, i < n → thI (T i) L K F (B 2 i) (B 3 i) (B 4 i) (B 5 i) (B 6 i) (B 7 i) (B 8 i) (B 9 i)
theorem thN.cls (n12 : n ≤ 12) (ht : t < 2 ^ 31) (h : thN n T L K F B) : clsV n T L K F (nI t) (mS B (nI t)) (mT B (nI t)) := by
  refine ⟨fun i P hi p => ?_, fun i A P hi _ p => ?_, fun i x hi hx => ?_⟩
  · refine C_isSource (by omega) (h i hi) ?_
    rw [← mS_is]; exact p
  · exact C_taken (by omega) ht rfl (h i hi) p
  · unfold mS at hx
    cases hs : srcB (B 2 i) (B 7 i) (B 8 i) (B 4 i) (B 9 i) (nI t)
    · rw [hs] at hx; cases hx
    · rw [hs] at hx
      cases hx
      rcases h i hi with ⟨hT, h0, -⟩ | ⟨q, hT, hq, hth⟩
      · rw [src_0 (by rw [h0]; decide) (by rw [h0]; decide)] at hs; cases hs
      · exact ⟨q, hT, fun P p => C_weight hq hth hs p⟩
theorem thN.cfg (n12 : n ≤ 12) (m18 : m ≤ 18) (ht : t < 2 ^ 31) (h : thN n T L K F B) (hH : ∀ i, i < n → ∃ x, x ≤ 200 ∧ B 0 i = nI x) (hM : ∀ j, j < m → ∃ x y z, x < n ∧ y < n ∧ 1 ≤ z ∧ z ≤ 1000 ∧ B 14 j = nI x ∧ B 15 j = nI y ∧ B 16 j = nI z) : cfgB n (B 0) (mS B (nI t)) (mT B (nI t)) (mlist m bits (B 14) (B 15) (B 16)) := by
  refine ⟨n12, mls_ok n12 m 0 (fun i _ hi => hM i (by omega)), Nat.le_trans (mls_len m 0) m18, hH, fun i p hi _ hp => tk_bd ht rfl (h i hi) hp, fun i x hi hx => ?_⟩
  unfold mS at hx
  cases hs : srcB (B 2 i) (B 7 i) (B 8 i) (B 4 i) (B 9 i) (nI t)
  · rw [hs] at hx; cases hx
  · rw [hs] at hx
    cases hx
    exact wt_bd (h i hi) hs
/-- all that the model's work hangs on -/
def mOk (n m v t bits : Nat) (J : Nat → Int32) (B : Nat → Nat → Int32) : Prop :=
  J 0 = nI n ∧ J 1 = nI m ∧ J 2 = nI v ∧ J 3 = nI t ∧ n ≤ 12 ∧ m ≤ 18 ∧ v ≤ 12 ∧ (∀ i, i < n → okd (B 2 i) ∧ (B 2 i = 3 → ¬ B 4 i = 0)) ∧ (∀ j, j < m → ∃ x y, x < n ∧ y < n ∧ B 14 j = nI x ∧ B 15 j = nI y) ∧ (∀ j, j < m → opnM (B 19) (fd (fun i => B 17 i = nI j) v 0) = bits.testBit j)
theorem mOk.fr {J J0 : Nat → Int32} (h : mOk n m v t bits J0 B0) (hJ : ∀ c, c ≠ 5 → J c = J0 c) (hB : ∀ c, c ≠ 13 → B c = B0 c) : mOk n m v t bits J B := by
  unfold mOk
  rw [hJ 0 (by decide), hJ 1 (by decide), hJ 2 (by decide), hJ 3 (by decide), hB 2 (by decide), hB 4 (by decide), hB 14 (by decide), hB 15 (by decide), hB 17 (by decide), hB 19 (by decide)]
  exact h
theorem M_head_l {P : Int32 → Prop} {X : Int32 → Int32 → Prop} {i : Nat} (hk : mOk n m v t bits J B) (hi : i < n) : ∀ (d j : Nat) (s w : Int32), j + d = m → X (hsum (mls bits (B 14) (B 15) (B 16) d j) (B 13) i (s, w)).1 (hsum (mls bits (B 14) (B 15) (B 16) d j) (B 13) i (s, w)).2 → g_Mo_headBy_7 J B (nI i) P X (d + 1) s w (nI j)
  | 0, j, s, w, hj, h => by
    obtain ⟨h0, h1, h2, h3, n12, m18, v12, -⟩ := hk
    exact c2t (lit_le h1 (by omega) (by omega)) h
  | d + 1, j, s, w, hj, h => by
    have hk' := hk
    obtain ⟨h0, h1, h2, h3, n12, m18, v12, hkd, hM, hop⟩ := hk
    have hin : vp_in (nI j) 18 := vin (by omega) (by omega)
    have hcl : (nI j).toNatClampNeg = j := nI_clamp (by omega)
    obtain ⟨x, y, hx, hy, ex, ey⟩ := hM j (by omega)
    have hx1 : (B 14 j).toNatClampNeg = x := by rw [ex]; exact nI_clamp (by omega)
    have hy1 : (B 15 j).toNatClampNeg = y := by rw [ey]; exact nI_clamp (by omega)
    have next : ∀ s' w', (hsum (mls bits (B 14) (B 15) (B 16) (d + 1) j) (B 13) i (s, w) = hsum (mls bits (B 14) (B 15) (B 16) d (j + 1)) (B 13) i (s', w')) → g_Mo_headBy_101 J B (nI i) P (g_Mo_headBy_7 J B (nI i) P X (d + 1)) s' w' (nI j) := by
      intro s' w' e
      show g_Mo_headBy_7 J B (nI i) P X (d + 1) s' w' (nI j + 1)
      rw [nI_1]
      rw [e] at h
      exact M_head_l hk' hi d (j + 1) s' w' (by omega) h
    have e0 : bits.testBit j = false → hsum (mls bits (B 14) (B 15) (B 16) (d + 1) j) (B 13) i (s, w) = hsum (mls bits (B 14) (B 15) (B 16) d (j + 1)) (B 13) i (s, w) := by
      intro e
      rw [mls_s, if_neg (by rw [e]; decide)]
    have e1 : bits.testBit j = true → hsum (mls bits (B 14) (B 15) (B 16) (d + 1) j) (B 13) i (s, w) = hsum (mls bits (B 14) (B 15) (B 16) d (j + 1)) (B 13) i (if x = i then (s + B 16 j * B 13 y, w + B 16 j) else if y = i then (s + B 16 j * B 13 x, w + B 16 j) else (s, w)) := by
      intro e
      rw [mls_s, if_pos e, hx1, hy1]
      rfl
    have g38 : (x = i ∨ y = i) → g_Mo_headBy_38 J B (nI i) P (g_Mo_headBy_7 J B (nI i) P X (d + 1)) s w (nI j) := by
      intro hxy
      refine M_isOpen h2 v12 ?_
      rw [hop j (by omega)]
      cases e : bits.testBit j
      · exact c2t rfl (next s w (e0 e))
      · refine c2f nz1 ⟨hin, hin, ?_⟩
        rw [hcl, ex]
        by_cases c : x = i
        · refine n2t (by rw [c]) ⟨hin, ?_⟩
          refine ⟨by rw [ey]; exact vin (by omega) (by omega), y1 ⟨hin, y1 ?_⟩⟩
          rw [hcl, hy1]
          refine next _ _ ?_
          rw [e1 e, if_pos c]
        · have hyi : y = i := hxy.resolve_left c
          refine n2f (by rw [nI_eq (by omega) (by omega)]; exact c) ⟨hin, ?_⟩
          refine ⟨vin (by omega) (by omega), y1 ⟨hin, y1 ?_⟩⟩
          rw [hcl, nI_clamp (by omega)]
          refine next _ _ ?_
          rw [e1 e, if_neg c, if_pos hyi]
    refine c2f (lit_lt h1 (by omega) (by omega)) ⟨hin, ?_⟩
    rw [hcl, ex]
    by_cases c : x = i
    · exact c2t (by rw [c]) (g38 (Or.inl c))
    · refine c2f (by rw [nI_eq (by omega) (by omega)]; exact c) ⟨hin, ?_⟩
      rw [ey]
      by_cases c2 : y = i
      · exact n2t (by rw [c2]) (g38 (Or.inr c2))
      · refine n2f (by rw [nI_eq (by omega) (by omega)]; exact c2) (next s w ?_)
        cases e : bits.testBit j
        · exact e0 e
        · rw [e1 e, if_neg c, if_neg c2]
theorem M_head {P : Int32 → Prop} {i : Nat} (hk : mOk n m v t bits J B) (hi : i < n) (h : P (nxt (B 0) (mT B (nI t)) (mlist m bits (B 14) (B 15) (B 16)) (B 13) i)) : g_Mo_headBy J B (nI i) P := by
  refine ⟨m + 1, M_head_l hk hi m 0 0 0 (by omega) ?_⟩
  obtain ⟨h0, h1, h2, h3, n12, m18, v12, hkd, hM, hop⟩ := hk
  have hcl : (nI i).toNatClampNeg = i := nI_clamp (by omega)
  unfold nxt mlist at h
  generalize hsum (mls bits (B 14) (B 15) (B 16) m 0) (B 13) i (0, 0) = q at h
  refine ⟨vin (by omega) (by omega), y1 ?_⟩
  rw [hcl]
  by_cases c : q.2 = 0
  · rw [if_pos c] at h; exact n2t c h
  · rw [if_neg c] at h
    refine n2f c (M_takes (by omega) (hkd i hi).1 (hkd i hi).2 ⟨c, y1 ?_⟩)
    rw [h3]
    unfold mT at h
    by_cases c2 : (q.1 - 1000 * tkv (B 2 i) (B 3 i) (B 4 i) (B 5 i) (B 6 i) (B 7 i) (nI t) (B 13 i - 10 * B 0 i)) / q.2 < 10 * B 0 i
    · rw [if_pos c2] at h
      exact c2f (fa_of_lt c2).2.1 h
    · rw [if_neg c2] at h
      exact c2t (fa_of_nlt c2) h
theorem abs_eq {a b : Nat} (ha : a ≤ 7000) (hb : b ≤ 7000) : (nI b ≤ nI a → nI a - nI b = absI (nI a - nI b)) ∧ (¬ nI b ≤ nI a → nI b - nI a = absI (nI a - nI b)) := by
  have hz : (nI a - nI b).toInt = (a : Int) - b := by
    rw [fb_subI, nI_toInt (by omega), nI_toInt (by omega)]
    · rw [nI_toInt (by omega), nI_toInt (by omega)]; omega
    · rw [nI_toInt (by omega), nI_toInt (by omega)]; omega
  unfold absI
  refine ⟨fun h => ?_, fun h => ?_⟩
  · rw [nI_leI (by omega) (by omega)] at h
    rw [if_pos]
    rw [fa_le, hz, show (0 : Int32).toInt = 0 from by decide]
    omega
  · rw [nI_leI (by omega) (by omega)] at h
    rw [if_neg]
    · rw [fa_eq, fb_subI (x := 0), hz, fb_subI, nI_toInt (by omega), nI_toInt (by omega), show (0 : Int32).toInt = 0 from by decide]
      · omega
      · rw [nI_toInt (by omega), nI_toInt (by omega)]; omega
      · rw [nI_toInt (by omega), nI_toInt (by omega)]; omega
      · rw [hz, show (0 : Int32).toInt = 0 from by decide]; omega
      · rw [hz, show (0 : Int32).toInt = 0 from by decide]; omega
    · rw [fa_le, hz, show (0 : Int32).toInt = 0 from by decide]
      omega
theorem M_sweep_l {P : Int32 → ((Nat → Int32) × (Nat → Nat → Int32)) → Prop} {X : (Nat → Int32) → (Nat → Nat → Int32) → Int32 → Prop} {nr : Int32} (hk : mOk n m v t bits J B0) (hc : cfgB n (B0 0) (mS B0 (nI t)) (mT B0 (nI t)) (mlist m bits (B0 14) (B0 15) (B0 16))) (hnr : J 4 = nr) : ∀ (d j : Nat) (B : Nat → Nat → Int32) (h : Nat → Int32) (mx : Int32), j + d = n → (∀ c, c ≠ 13 → B c = B0 c) → B 13 = h → hdB n h →
    (∀ B2, (∀ c, c ≠ 13 → B2 c = B0 c) → B2 13 = (lp (sw1 (B0 0) (mS B0 (nI t)) (mT B0 (nI t)) (mlist m bits (B0 14) (B0 15) (B0 16))) d j (h, mx)).1 → X J B2 (bI (decide ((lp (sw1 (B0 0) (mS B0 (nI t)) (mT B0 (nI t)) (mlist m bits (B0 14) (B0 15) (B0 16))) d j (h, mx)).2 ≤ nr)))) → g_Mo_workNet_75 P X (d + 1) J B (bI (decide (mx ≤ nr))) (nI j)
  | 0, j, B, h, mx, hj, hf, he, hb, hX => by
    have n12 := hc.1
    have e : j = n := by omega
    subst e
    exact c2t (lit_le hk.1 (Nat.le_refl _) (by omega)) (hX B hf he)
  | d + 1, j, B, h, mx, hj, hf, he, hb, hX => by
    have n12 := hc.1
    have hjn : j < n := by omega
    have hin : vp_in (nI j) 12 := vin (by omega) (by omega)
    have hcl : (nI j).toNatClampNeg = j := nI_clamp (by omega)
    have hkB : mOk n m v t bits J B := hk.fr (fun _ _ => rfl) hf
    refine c2f (lit_lt hk.1 (by omega) (by omega)) (M_isSource (by omega) ?_)
    rw [hk.2.2.2.1, ← mS_is, mS_fr hf]
    have hX' : ∀ B2, (∀ c, c ≠ 13 → B2 c = B0 c) → B2 13 = (lp (sw1 (B0 0) (mS B0 (nI t)) (mT B0 (nI t)) (mlist m bits (B0 14) (B0 15) (B0 16))) d (j + 1) (sw1 (B0 0) (mS B0 (nI t)) (mT B0 (nI t)) (mlist m bits (B0 14) (B0 15) (B0 16)) j (h, mx))).1 → X J B2 (bI (decide ((lp (sw1 (B0 0) (mS B0 (nI t)) (mT B0 (nI t)) (mlist m bits (B0 14) (B0 15) (B0 16))) d (j + 1) (sw1 (B0 0) (mS B0 (nI t)) (mT B0 (nI t)) (mlist m bits (B0 14) (B0 15) (B0 16)) j (h, mx))).2 ≤ nr))) := hX
    cases e : mS B0 (nI t) j with
    | some x =>
      refine n2f nz1 ?_
      show g_Mo_workNet_75 P X (d + 1) J B (bI (decide (mx ≤ nr))) (nI j + 1)
      rw [nI_1]
      rw [show sw1 (B0 0) (mS B0 (nI t)) (mT B0 (nI t)) (mlist m bits (B0 14) (B0 15) (B0 16)) j (h, mx) = (h, mx) by unfold sw1; rw [e]; rfl] at hX'
      exact M_sweep_l hk hc hnr d (j + 1) B h mx (by omega) hf he hb hX'
    | none =>
      refine n2t rfl ⟨hin, y1 (M_head hkB hjn ⟨hin, hin, ?_⟩)⟩
      rw [mT_fr hf, hf 0 (by decide), hf 14 (by decide), hf 15 (by decide), hf 16 (by decide), he, hcl, sA_at, hcl, up_at]
      have es : sw1 (B0 0) (mS B0 (nI t)) (mT B0 (nI t)) (mlist m bits (B0 14) (B0 15) (B0 16)) j (h, mx) = (upd h j (nxt (B0 0) (mT B0 (nI t)) (mlist m bits (B0 14) (B0 15) (B0 16)) h j), if mx < absI (nxt (B0 0) (mT B0 (nI t)) (mlist m bits (B0 14) (B0 15) (B0 16)) h j - h j) then absI (nxt (B0 0) (mT B0 (nI t)) (mlist m bits (B0 14) (B0 15) (B0 16)) h j - h j) else mx) := by unfold sw1; rw [e]; rfl
      rw [es] at hX'
      obtain ⟨x, hx, ex⟩ := hc.2.2.2.1 j hjn
      obtain ⟨b, hb1, eb⟩ := hb j hjn
      have hp : (h j - 10 * B0 0 j).toInt ≤ 7000 := by
        rw [eb, ex, show (10 : Int32) = nI 10 from rfl, pk_mul, fb_subI, nI_toInt (by omega), nI_toInt (by omega)]
        · omega
        · rw [nI_toInt (by omega), nI_toInt (by omega)]; omega
        · rw [nI_toInt (by omega), nI_toInt (by omega)]; omega
      obtain ⟨t', ht1, ht2⟩ := hc.2.2.2.2.1 j _ hjn e hp
      obtain ⟨a, ha, ea⟩ := nxt_bd (n := n) hc.2.1 hc.2.2.1 hb ex hx ht2 ht1
      have hb2 : hdB n (upd h j (nxt (B0 0) (mT B0 (nI t)) (mlist m bits (B0 14) (B0 15) (B0 16)) h j)) := by
        intro i hi
        by_cases ei : i = j
        · subst ei; rw [up_at]; exact ⟨a, ha, ea⟩
        · rw [up_ne ei]; exact hb i hi
      generalize nxt (B0 0) (mT B0 (nI t)) (mlist m bits (B0 14) (B0 15) (B0 16)) h j = r at *
      have go : ∀ s0 : Int32, s0 = absI (r - h j) → g_Mo_workNet_138 P (g_Mo_workNet_75 P X (d + 1)) J (sA B 13 (nI j) r) (bI (decide (mx ≤ nr))) (nI j) s0 := by
        intro s0 hs0
        subst hs0
        have fin : g_Mo_workNet_75 P X (d + 1) J (sA B 13 (nI j) r) (bI (decide ((if mx < absI (r - h j) then absI (r - h j) else mx) ≤ nr))) (nI j + 1) := by
          rw [nI_1]
          refine M_sweep_l hk hc hnr d (j + 1) _ _ _ (by omega) (fun c c13 => ?_) ?_ hb2 hX'
          · rw [sA_ne c13]; exact hf c c13
          · rw [sA_at, hcl, he]
        have hmax : ((if mx < absI (r - h j) then absI (r - h j) else mx) ≤ nr) ↔ (mx ≤ nr ∧ absI (r - h j) ≤ nr) := by
          by_cases c : mx < absI (r - h j)
          · rw [if_pos c]
            exact ⟨fun z => ⟨i_trans (fa_of_lt c).1 z, z⟩, fun z => z.2⟩
          · rw [if_neg c]
            exact ⟨fun z => ⟨z, i_trans (fa_of_nlt c) z⟩, fun z => z.1⟩
        rw [show decide ((if mx < absI (r - h j) then absI (r - h j) else mx) ≤ nr) = decide (mx ≤ nr ∧ absI (r - h j) ≤ nr) from decide_eq_decide.mpr hmax] at fin
        refine ⟨fun z => ?_, fun z => ⟨fun z2 => ?_, fun z2 => ?_⟩⟩
        · have hn := of_decide_eq_false (bI_0.mp z)
          rw [show decide (mx ≤ nr ∧ absI (r - h j) ≤ nr) = false from decide_eq_false (fun q => hn q.1)] at fin
          exact fin
        · rw [hnr] at z2
          rw [show decide (mx ≤ nr ∧ absI (r - h j) ≤ nr) = false from decide_eq_false (fun q => (fa_of_lt z2).2.1 q.2)] at fin
          exact fin
        · rw [hnr] at z2
          rw [show decide (mx ≤ nr ∧ absI (r - h j) ≤ nr) = true from decide_eq_true ⟨of_decide_eq_true (bI_n.mp z), fa_of_nlt z2⟩] at fin
          exact fin
      have ab := abs_eq ha hb1
      rw [← ea, ← eb] at ab
      exact ⟨fun z => ⟨hin, go _ (ab.1 z)⟩, fun z => ⟨hin, go _ (ab.2 z)⟩⟩
theorem M_wk_l {P : Int32 → ((Nat → Int32) × (Nat → Nat → Int32)) → Prop} {X : (Nat → Int32) → (Nat → Nat → Int32) → Int32 → Prop} {J0 : Nat → Int32} {nr : Int32} (hk : mOk n m v t bits J0 B0) (hc : cfgB n (B0 0) (mS B0 (nI t)) (mT B0 (nI t)) (mlist m bits (B0 14) (B0 15) (B0 16))) (hnr : J0 4 = nr) (h0 : (0 : Int32) ≤ nr) : ∀ (d c : Nat) (J : Nat → Int32) (B : Nat → Nat → Int32) (h : Nat → Int32), c + d = 500 → (∀ c, c ≠ 5 → J c = J0 c) → J 5 = nI c → (∀ c, c ≠ 13 → B c = B0 c) → B 13 = h → hdB n h →
    (∀ J2 B2, (∀ c, c ≠ 5 → J2 c = J0 c) → (∀ c, c ≠ 13 → B2 c = B0 c) → B2 13 = (wk (sweepP n (B0 0) (mS B0 (nI t)) (mT B0 (nI t)) (mlist m bits (B0 14) (B0 15) (B0 16))) nr d c h).1 → J2 5 = nI (wk (sweepP n (B0 0) (mS B0 (nI t)) (mT B0 (nI t)) (mlist m bits (B0 14) (B0 15) (B0 16))) nr d c h).2.1 → X J2 B2 (bI (wk (sweepP n (B0 0) (mS B0 (nI t)) (mT B0 (nI t)) (mlist m bits (B0 14) (B0 15) (B0 16))) nr d c h).2.2)) → g_Mo_workNet_57 P X (d + 2) J B 0
  | 0, c, J, B, h, hcd, hJ, h5, hf, he, hb, hX => by
    refine n2t rfl (c2t (lit_le (x := 500) (n := 500) rfl (Nat.le_refl _) (by omega) |> fun q => by rw [h5, show c = 500 by omega]; exact q) ?_)
    exact hX J B hJ hf he h5
  | d + 1, c, J, B, h, hcd, hJ, h5, hf, he, hb, hX => by
    have hkJ : mOk n m v t bits J B0 := hk.fr hJ (fun _ _ => rfl)
    refine n2t rfl (c2f (by rw [h5]; exact nI_ge (b := 500) (by omega) (by omega)) ⟨n + 1, ?_⟩)
    have hX' := hX
    unfold wk at hX'
    have key := M_sweep_l (P := P) (X := fun I_15 A_15 x1_15 => g_Mo_workNet_57 P X (d + 2) (va_up I_15 5 ((I_15 5) + (1 : Int32))) A_15 x1_15) hkJ hc ((hJ 4 (by decide)).trans hnr) n 0 B h 0 (by omega) hf he hb (fun B2 hf2 h2 => ?_)
    · rw [show decide ((0 : Int32) ≤ nr) = true from decide_eq_true h0] at key
      exact key
    · have h2' : B2 13 = (sweepP n (B0 0) (mS B0 (nI t)) (mT B0 (nI t)) (mlist m bits (B0 14) (B0 15) (B0 16)) h).1 := h2
      have hJ2 : ∀ c, c ≠ 5 → (va_up J 5 (J 5 + 1)) c = J0 c := fun c hc5 => by rw [va_un hc5]; exact hJ c hc5
      have h52 : (va_up J 5 (J 5 + 1)) 5 = nI (c + 1) := by rw [vu_at, h5, nI_1]
      show g_Mo_workNet_57 P X (d + 2) (va_up J 5 (J 5 + 1)) B2 (bI (decide ((sweepP n (B0 0) (mS B0 (nI t)) (mT B0 (nI t)) (mlist m bits (B0 14) (B0 15) (B0 16)) h).2 ≤ nr)))
      by_cases q : (sweepP n (B0 0) (mS B0 (nI t)) (mT B0 (nI t)) (mlist m bits (B0 14) (B0 15) (B0 16)) h).2 ≤ nr
      · rw [show decide ((sweepP n (B0 0) (mS B0 (nI t)) (mT B0 (nI t)) (mlist m bits (B0 14) (B0 15) (B0 16)) h).2 ≤ nr) = true from decide_eq_true q]
        rw [if_pos q] at hX'
        exact n2f nz1 (hX' _ B2 hJ2 hf2 h2' h52)
      · rw [show decide ((sweepP n (B0 0) (mS B0 (nI t)) (mT B0 (nI t)) (mlist m bits (B0 14) (B0 15) (B0 16)) h).2 ≤ nr) = false from decide_eq_false q]
        rw [if_neg q] at hX'
        exact M_wk_l hk hc hnr h0 d (c + 1) _ B2 _ (by omega) hJ2 h52 hf2 h2' (hc.sw h hb) hX'
theorem M_begin_l {P : Int32 → ((Nat → Int32) × (Nat → Nat → Int32)) → Prop} {X : (Nat → Int32) → (Nat → Nat → Int32) → Prop} (hk : mOk n m v t bits J B0) : ∀ (d j : Nat) (B : Nat → Nat → Int32), j + d = n → (∀ c, c ≠ 13 → B c = B0 c) → B 13 = fa_fill (beginP (B0 0) (mS B0 (nI t))) (B0 13) j → (∀ B2, (∀ c, c ≠ 13 → B2 c = B0 c) → B2 13 = fa_fill (beginP (B0 0) (mS B0 (nI t))) (B0 13) n → X J B2) → g_Mo_workNet_2 P X (d + 1) J B (nI j)
  | 0, j, B, hj, hf, hi, h => by
    have n12 := hk.2.2.2.2.1
    have e : j = n := by omega
    subst e
    exact c2t (lit_le hk.1 (Nat.le_refl _) (by omega)) (h B hf hi)
  | d + 1, j, B, hj, hf, hi, h => by
    have n12 := hk.2.2.2.2.1
    have hin : vp_in (nI j) 12 := vin (by omega) (by omega)
    have hcl : (nI j).toNatClampNeg = j := nI_clamp (by omega)
    refine c2f (lit_lt hk.1 (by omega) (by omega)) ⟨hin, M_isSource (by omega) ?_⟩
    rw [hk.2.2.2.1, ← mS_is, mS_fr hf, hcl, hf 0 (by decide)]
    have next : ∀ x : Int32, x = (mS B0 (nI t) j).getD 0 → g_Mo_workNet_42 P (g_Mo_workNet_2 P X (d + 1)) J B (nI j) (nI j) (10 * B0 0 j) x := by
      intro x hx
      refine ⟨hin, ?_⟩
      rw [nI_1]
      refine M_begin_l hk d (j + 1) _ (by omega) (fun c c13 => ?_) ?_ h
      · rw [sA_ne c13]; exact hf c c13
      · rw [sA_at, hcl, hi, hx]
        exact fa_fill_succ (beginP (B0 0) (mS B0 (nI t))) (B0 13) j
    cases e : mS B0 (nI t) j with
    | none => rw [e] at next; exact c2t rfl (next 0 rfl)
    | some x =>
      rw [e] at next
      refine c2f nz1 ⟨hin, ?_⟩
      rw [hf 3 (by decide)]
      refine next _ ?_
      unfold mS at e
      cases hs : srcB (B0 2 j) (B0 7 j) (B0 8 j) (B0 4 j) (B0 9 j) (nI t)
      · rw [hs] at e; cases e
      · rw [hs] at e; cases e; rfl
/-- the model's work, to the letter -/
def wkX (n m t bits : Nat) (B : Nat → Nat → Int32) (nr : Int32) : (Nat → Int32) × Nat × Bool := wk (sweepP n (B 0) (mS B (nI t)) (mT B (nI t)) (mlist m bits (B 14) (B 15) (B 16))) nr 500 0 (fa_fill (beginP (B 0) (mS B (nI t))) (B 13) n)
theorem wkX_eq {nr : Int32} (hc : cfgB n (B 0) (mS B (nI t)) (mT B (nI t)) (mlist m bits (B 14) (B 15) (B 16))) : EqN n (wkX n m t bits B nr).1 (workP n (B 0) (mS B (nI t)) (mT B (nI t)) (mlist m bits (B 14) (B 15) (B 16)) nr).1 ∧ (wkX n m t bits B nr).2 = (workP n (B 0) (mS B (nI t)) (mT B (nI t)) (mlist m bits (B 14) (B 15) (B 16)) nr).2 := by
  unfold wkX workP
  have := wk_cong (n := n) (nr := nr) hc.cg 500 0 (fa_fill (beginP (B 0) (mS B (nI t))) (B 13) n) (beginP (B 0) (mS B (nI t))) (fun i hi => fa_fill_in hi)
  exact this
theorem fr_up {α : Type} {f g : Nat → α} {k : Nat} {x : α} (h : ∀ c, c ≠ k → g c = f c) (hk : g k = x) : g = va_up f k x := by
  funext c
  by_cases e : c = k
  · subst e; rw [hk]; exact (if_pos rfl).symm
  · rw [h c e]; exact (if_neg e).symm
theorem M_work {P : Int32 → ((Nat → Int32) × (Nat → Nat → Int32)) → Prop} {nr : Int32} (hk : mOk n m v t bits J B) (hc : cfgB n (B 0) (mS B (nI t)) (mT B (nI t)) (mlist m bits (B 14) (B 15) (B 16))) (hnr : J 4 = nr) (h0 : (0 : Int32) ≤ nr)
    (hP : P (bI (wkX n m t bits B nr).2.2) (va_up J 5 (nI (wkX n m t bits B nr).2.1), va_up B 13 (wkX n m t bits B nr).1)) : g_Mo_workNet J B P := by
  have n12 := hc.1
  refine ⟨n + 1, M_begin_l hk n 0 B (by omega) (fun _ _ => rfl) (fa_fill_0 _ _).symm (fun B1 hf1 h1 => ⟨502, ?_⟩)⟩
  have hb0 : hdB n (fa_fill (beginP (B 0) (mS B (nI t))) (B 13) n) := fun i hi => by rw [fa_fill_in hi]; exact hc.b0 i hi
  refine M_wk_l hk hc hnr h0 500 0 _ B1 _ (by omega) (fun c hc5 => va_un hc5) (vu_at _ _ _) hf1 h1 hb0 (fun J2 B2 hJ2 hB2 h13 h5 => ⟨bI_B _, ?_⟩)
  rw [fr_up hJ2 h5, fr_up hB2 h13]
  exact hP
end MW
