/-! ===== layer 2: rivals in their order ===== -/
section RANK
variable {fr : Nat → Bool} {mu : Nat → Nat}
def rlt (mu : Nat → Nat) (a b : Nat) : Bool := decide (mu a < mu b ∨ (mu a = mu b ∧ a < b))
def rk (fr : Nat → Bool) (mu : Nat → Nat) (x j : Nat) : Nat := fa_cnt (fun i => fr i && rlt mu i j) x
theorem rlt_t {a b : Nat} : rlt mu a b = true ↔ (mu a < mu b ∨ (mu a = mu b ∧ a < b)) := by unfold rlt; exact decide_eq_true_iff
theorem rlt_f {a b : Nat} : rlt mu a b = false ↔ ¬ (mu a < mu b ∨ (mu a = mu b ∧ a < b)) := by unfold rlt; exact decide_eq_false_iff_not
theorem fcnt_sub {p q : Nat → Bool} : ∀ {n : Nat}, (∀ i, i < n → p i = true → q i = true) → fa_cnt p n ≤ fa_cnt q n
  | 0, _ => Nat.le_refl _
  | n + 1, h => by
    have ih := fcnt_sub (p := p) (q := q) (n := n) (fun i hi => h i (by omega))
    unfold fa_cnt
    cases hp : p n
    · simp; omega
    · rw [h n (by omega) hp]; simp; omega
theorem fcnt_strict {p q : Nat → Bool} {j : Nat} : ∀ {n : Nat}, (∀ i, i < n → p i = true → q i = true) → j < n → p j = false → q j = true → fa_cnt p n < fa_cnt q n
  | 0, _, hj, _, _ => by omega
  | n + 1, h, hj, hp, hq => by
    by_cases c : j = n
    · subst c
      have ih := fcnt_sub (p := p) (q := q) (n := j) (fun i hi => h i (by omega))
      unfold fa_cnt
      rw [hp, hq]; simp; omega
    · have ih := fcnt_strict (p := p) (q := q) (j := j) (n := n) (fun i hi => h i (by omega)) (by omega) hp hq
      unfold fa_cnt
      cases hpn : p n
      · simp; omega
      · rw [h n (by omega) hpn]; simp; omega
theorem rk_le {x a b : Nat} (h : rlt mu a b = true) : rk fr mu x a ≤ rk fr mu x b := by
  refine fcnt_sub fun i _ hi => ?_
  simp only [Bool.and_eq_true] at hi ⊢
  rw [rlt_t] at *
  exact ⟨hi.1, by have := hi.2; omega⟩
theorem rk_lt {x a b : Nat} (h : rlt mu a b = true) (ha : a < x) (hf : fr a = true) : rk fr mu x a < rk fr mu x b := by
  refine fcnt_strict (j := a) (fun i _ hi => ?_) ha ?_ ?_
  · simp only [Bool.and_eq_true] at hi ⊢
    exact ⟨hi.1, by have := (rlt_t (mu := mu)).mp hi.2; have := (rlt_t (mu := mu)).mp h; rw [rlt_t]; omega⟩
  · rw [hf, Bool.true_and, rlt_f]; omega
  · rw [hf, Bool.true_and]; exact h
theorem rk_all {x a : Nat} (ha : a < x) (hf : fr a = true) : rk fr mu x a < fa_cnt fr x := by
  refine fcnt_strict (j := a) (fun i _ hi => ?_) ha ?_ hf
  · simp only [Bool.and_eq_true] at hi; exact hi.1
  · rw [hf, Bool.true_and, rlt_f]; omega
theorem rk_allLe {x a : Nat} : rk fr mu x a ≤ fa_cnt fr x := fcnt_sub fun i _ hi => by simp only [Bool.and_eq_true] at hi; exact hi.1
theorem rk_inj {x a b : Nat} (ha : a < x) (hb : b < x) (fa : fr a = true) (fb : fr b = true) (e : rk fr mu x a = rk fr mu x b) : a = b := by
  rcases Nat.lt_trichotomy a b with c | c | c
  · by_cases d : mu a ≤ mu b
    · have := rk_lt (fr := fr) (x := x) ((rlt_t (mu := mu) (a := a) (b := b)).mpr (by omega)) ha fa; omega
    · have := rk_lt (fr := fr) (x := x) ((rlt_t (mu := mu) (a := b) (b := a)).mpr (by omega)) hb fb; omega
  · exact c
  · by_cases d : mu b ≤ mu a
    · have := rk_lt (fr := fr) (x := x) ((rlt_t (mu := mu) (a := b) (b := a)).mpr (by omega)) hb fb; omega
    · have := rk_lt (fr := fr) (x := x) ((rlt_t (mu := mu) (a := a) (b := b)).mpr (by omega)) ha fa; omega
theorem rk_succ (x j : Nat) : rk fr mu (x + 1) j = rk fr mu x j + (if fr x && rlt mu x j then 1 else 0) := rfl
/-- the first cnt places hold the rivals below x, each at its rank -/
def Srt (fr : Nat → Bool) (mu : Nat → Nat) (x cnt : Nat) (f33 f34 : Nat → Int32) : Prop := cnt = fa_cnt fr x ∧ ∀ k, k < cnt → ∃ j, j < x ∧ fr j = true ∧ rk fr mu x j = k ∧ f33 k = nI j ∧ f34 k = nI (mu j)
theorem Srt.skip {x cnt : Nat} {f33 f34 : Nat → Int32} (h : Srt fr mu x cnt f33 f34) (hx : fr x = false) : Srt fr mu (x + 1) cnt f33 f34 := by
  obtain ⟨h1, h2⟩ := h
  refine ⟨by rw [fa_cnt_no hx]; exact h1, fun k hk => ?_⟩
  obtain ⟨j, q1, q2, q3, q4, q5⟩ := h2 k hk
  exact ⟨j, by omega, q2, by rw [rk_succ, hx]; simpa using q3, q4, q5⟩
/-- a rival put in at its place -/
theorem Srt.put {x cnt y : Nat} {f33 f34 g33 g34 : Nat → Int32} (h : Srt fr mu x cnt f33 f34) (hx : fr x = true) (hy : y ≤ cnt) (hlo : ∀ k, k < y → k < cnt → ∃ j, j < x ∧ fr j = true ∧ rk fr mu x j = k ∧ mu j ≤ mu x) (hhi : ∀ k, y ≤ k → k < cnt → ∃ j, j < x ∧ fr j = true ∧ rk fr mu x j = k ∧ mu x < mu j)
    (g1 : ∀ k, k < y → g33 k = f33 k ∧ g34 k = f34 k) (g2 : g33 y = nI x ∧ g34 y = nI (mu x)) (g3 : ∀ k, y ≤ k → k < cnt → g33 (k + 1) = f33 k ∧ g34 (k + 1) = f34 k) : Srt fr mu (x + 1) (cnt + 1) g33 g34 := by
  obtain ⟨h1, h2⟩ := h
  have hr : rk fr mu x x = y := by
    refine Nat.le_antisymm ?_ ?_
    · by_cases c : y < cnt
      · obtain ⟨j, q1, q2, q3, q4⟩ := hhi y (Nat.le_refl _) c
        rw [← q3]
        exact rk_le (rlt_t.mpr (Or.inl q4))
      · have := rk_allLe (fr := fr) (mu := mu) (x := x) (a := x); omega
    · by_cases c : y = 0
      · omega
      · obtain ⟨j, q1, q2, q3, q4⟩ := hlo (y - 1) (by omega) (by omega)
        have := rk_lt (fr := fr) (x := x) ((rlt_t (mu := mu) (a := j) (b := x)).mpr (by omega)) q1 q2
        omega
  refine ⟨by rw [fa_cnt_yes hx, h1], fun k hk => ?_⟩
  rcases Nat.lt_trichotomy k y with c | c | c
  · obtain ⟨j, q1, q2, q3, q4, q5⟩ := h2 k (by omega)
    obtain ⟨j', w1, w2, w3, w4⟩ := hlo k c (by omega)
    have : j = j' := rk_inj (mu := mu) q1 w1 q2 w2 (q3.trans w3.symm)
    subst this
    refine ⟨j, by omega, q2, ?_, (g1 k c).1.trans q4, (g1 k c).2.trans q5⟩
    rw [rk_succ, rlt_f.mpr (by omega), Bool.and_false]; simpa using q3
  · subst c
    refine ⟨x, by omega, hx, ?_, g2.1, g2.2⟩
    rw [rk_succ, rlt_f.mpr (by omega), Bool.and_false]; simpa using hr
  · obtain ⟨j, q1, q2, q3, q4, q5⟩ := h2 (k - 1) (by omega)
    obtain ⟨j', w1, w2, w3, w4⟩ := hhi (k - 1) (by omega) (by omega)
    have : j = j' := rk_inj (mu := mu) q1 w1 q2 w2 (q3.trans w3.symm)
    subst this
    have e := g3 (k - 1) (by omega) (by omega)
    rw [show k - 1 + 1 = k by omega] at e
    refine ⟨j, by omega, q2, ?_, e.1.trans q4, e.2.trans q5⟩
    rw [rk_succ, hx, rlt_t.mpr (Or.inl w4)]; simp; omega
/-- the keys rise with the places -/
theorem Srt.mono {x cnt k1 k2 j1 j2 : Nat} {f33 f34 : Nat → Int32} (h : Srt fr mu x cnt f33 f34) (hk : k1 ≤ k2) (a1 : j1 < x) (b1 : fr j1 = true) (c1 : rk fr mu x j1 = k1) (a2 : j2 < x) (b2 : fr j2 = true) (c2 : rk fr mu x j2 = k2) : mu j1 ≤ mu j2 := by
  by_cases c : mu j1 ≤ mu j2
  · exact c
  · have := rk_lt (fr := fr) (x := x) ((rlt_t (mu := mu) (a := j2) (b := j1)).mpr (Or.inl (by omega))) a2 b2
    omega
end RANK
section RIVAL
variable {n : Nat} {fr : Nat → Bool} {mu : Nat → Nat} {I : Nat → Int32} {A : Nat → Nat → Int32}
def r6 (fr : Nat → Bool) (mu : Nat → Nat) (i : Nat) : Int32 := if fr i then nI (mu i) else -6
theorem nI_n6 {x : Nat} (h : x < 2 ^ 31) : ¬ nI x = -6 := fun e => nI_pos h (by rw [e]; decide)
theorem C_ahead_l {j : Nat} {P X : Int32 → Prop} (hn : I 4 = nI n) (n12 : n ≤ 12) (hj : j < n) (hfj : fr j = true) (hmu : ∀ i, i < n → mu i ≤ 240000) (h6 : ∀ i, i < n → A 6 i = r6 fr mu i) : ∀ (d i : Nat), i + d = n → X (nI (rk fr mu n j)) → g_Pw_rivalsAheadOf_4 I A (nI j) P X (d + 1) (nI (rk fr mu i j)) (nI i)
  | 0, i, hi, hX => by
    have e : i = n := by omega
    subst e
    exact c2t (by rw [hn]; exact nI_le (Nat.le_refl _) (by omega)) hX
  | d + 1, i, hi, hX => by
    have ih := C_ahead_l (P := P) hn n12 hj hfj hmu h6 d (i + 1) (by omega) hX
    have hin : vp_in (nI i) 12 := vin (by omega) (by omega)
    have hjn : vp_in (nI j) 12 := vin (by omega) (by omega)
    have hci : (nI i).toNatClampNeg = i := nI_clamp (by omega)
    have hcj : (nI j).toNatClampNeg = j := nI_clamp (by omega)
    have hmi := hmu i (by omega)
    have hmj := hmu j hj
    have e6j : A 6 j = nI (mu j) := by rw [h6 j hj]; unfold r6; rw [hfj]; rfl
    have g55 : ∀ s0 : Bool, (fr i = true → s0 = rlt mu i j) → g_Pw_rivalsAheadOf_55 I A (nI j) P (g_Pw_rivalsAheadOf_4 I A (nI j) P X (d + 1)) (nI (rk fr mu i j)) (nI i) (bI s0) := by
      intro s0 hs0
      refine ⟨hin, ?_⟩
      rw [hci, h6 i (by omega)]
      unfold r6
      cases hf : fr i with
      | false =>
        refine c2t rfl ?_
        show g_Pw_rivalsAheadOf_4 I A (nI j) P X (d + 1) (nI (rk fr mu i j)) (nI i + 1)
        rw [rk_succ, hf] at ih
        rw [nI_1]; simpa using ih
      | true =>
        refine c2f (nI_n6 (by omega)) ?_
        rw [rk_succ, hf, ← hs0 hf] at ih
        cases s0 with
        | false =>
          refine c2t rfl ?_
          show g_Pw_rivalsAheadOf_4 I A (nI j) P X (d + 1) (nI (rk fr mu i j)) (nI i + 1)
          rw [nI_1]; simpa using ih
        | true =>
          refine c2f nz1 ?_
          show g_Pw_rivalsAheadOf_4 I A (nI j) P X (d + 1) (nI (rk fr mu i j) + 1) (nI i + 1)
          rw [nI_1, nI_1]; simpa using ih
    refine c2f (by rw [hn]; exact nI_ge (by omega) (by omega)) ⟨hin, hjn, ?_⟩
    rw [hci, hcj, e6j]
    have hval : fr i = true → A 6 i = nI (mu i) := fun hf => by rw [h6 i (by omega)]; unfold r6; rw [hf]; rfl
    refine ⟨fun c => g55 true (fun hf => ?_), fun c => ⟨hin, hjn, fun c2 => g55 false (fun hf => ?_), fun c2 => ⟨fun c3 => g55 false (fun hf => ?_), fun c3 => g55 true (fun hf => ?_)⟩⟩⟩
    · rw [hval hf, nI_ltI (by omega) (by omega)] at c
      exact (rlt_t.mpr (Or.inl c)).symm
    · rw [hval hf, nI_ltI (by omega) (by omega)] at c
      rw [hval hf, nI_eq (by omega) (by omega)] at c2
      exact (rlt_f.mpr (by omega)).symm
    · rw [hval hf, nI_ltI (by omega) (by omega)] at c
      rw [nI_leI (by omega) (by omega)] at c3
      exact (rlt_f.mpr (by omega)).symm
    · rw [hval hf, nI_eq (by omega) (by omega)] at c2
      rw [nI_leI (by omega) (by omega)] at c3
      exact (rlt_t.mpr (Or.inr ⟨c2, by omega⟩)).symm
theorem C_ahead {j : Nat} {P : Int32 → Prop} (hn : I 4 = nI n) (n12 : n ≤ 12) (hj : j < n) (hfj : fr j = true) (hmu : ∀ i, i < n → mu i ≤ 240000) (h6 : ∀ i, i < n → A 6 i = r6 fr mu i) (hP : P (nI (rk fr mu n j))) : g_Pw_rivalsAheadOf I A (nI j) P := ⟨n + 1, C_ahead_l hn n12 hj hfj hmu h6 n 0 (by omega) hP⟩
def rat (fr : Nat → Bool) (mu : Nat → Nat) (n : Nat) (pl : Int32) (i : Nat) : Bool := fr i && decide (nI (rk fr mu n i) = pl)
theorem C_rival_l {pl : Int32} {P : Int32 → Prop} {X : Prop} (hn : I 4 = nI n) (n12 : n ≤ 12) (hmu : ∀ i, i < n → mu i ≤ 240000) (h6 : ∀ i, i < n → A 6 i = r6 fr mu i) : ∀ (d i : Nat), i + d = n → (fd (rat fr mu n pl) d i = none → X) → (∀ j, fd (rat fr mu n pl) d i = some j → P (nI j)) → g_Pw_rivalAt_2 I A pl P X (d + 1) (nI i)
  | 0, i, hi, h1, h2 => c2t (by rw [hn]; exact nI_le (by omega) (by omega)) (h1 rfl)
  | d + 1, i, hi, h1, h2 => by
    have hin : vp_in (nI i) 12 := vin (by omega) (by omega)
    have hmi := hmu i (by omega)
    have nx : rat fr mu n pl i = false → g_Pw_rivalAt_35 I A pl P (g_Pw_rivalAt_2 I A pl P X (d + 1)) (nI i) := by
      intro e
      show g_Pw_rivalAt_2 I A pl P X (d + 1) (nI i + 1)
      rw [nI_1]
      unfold fd at h1 h2
      rw [e] at h1 h2
      exact C_rival_l hn n12 hmu h6 d (i + 1) (by omega) (fun q => h1 q) (fun j q => h2 j q)
    refine c2f (by rw [hn]; exact nI_ge (by omega) (by omega)) ⟨hin, ?_⟩
    rw [nI_clamp (by omega), h6 i (by omega)]
    unfold r6
    cases hf : fr i with
    | false => exact c2t rfl (nx (by unfold rat; rw [hf]; rfl))
    | true =>
      refine c2f (nI_n6 (by omega)) (C_ahead hn n12 (by omega) hf hmu h6 ⟨fun c => nx (by unfold rat; rw [hf, decide_eq_false c]; rfl), fun c => h2 i ?_⟩)
      unfold fd
      rw [show rat fr mu n pl i = true by unfold rat; rw [hf, decide_eq_true c]; rfl]
      rfl
theorem C_rival {pl : Int32} {P : Int32 → Prop} (hn : I 4 = nI n) (n12 : n ≤ 12) (hmu : ∀ i, i < n → mu i ≤ 240000) (h6 : ∀ i, i < n → A 6 i = r6 fr mu i) (h0 : (∀ j, j < n → fr j = true → ¬ nI (rk fr mu n j) = pl) → P (-6)) (h1 : ∀ j, j < n → fr j = true → nI (rk fr mu n j) = pl → P (nI j)) : g_Pw_rivalAt I A pl P := by
  refine ⟨n + 1, C_rival_l hn n12 hmu h6 n 0 (by omega) (fun q => h0 fun j hj hf e => ?_) (fun j q => ?_)⟩
  · have := fd_none q j (by omega) (by omega)
    unfold rat at this
    rw [hf, decide_eq_true e] at this
    cases this
  · obtain ⟨-, q2, q3, -⟩ := fd_some q
    unfold rat at q3
    simp only [Bool.and_eq_true, decide_eq_true_eq] at q3
    exact h1 j (by omega) q3.1 q3.2
end RIVAL
