/-! ===== layer 2: what mains join ===== -/
def psF (x y : Nat → Nat) (ob j s : Nat) : Nat := if ob.testBit j && (s.testBit (x j) || s.testBit (y j)) then s ||| (2 ^ x j ||| 2 ^ y j) else s
def psM (x y : Nat → Nat) (ob m s : Nat) : Nat := lp (psF x y ob) m 0 s
def pit (f : Nat → Nat) : Nat → Nat → Nat
  | 0, s => s
  | k + 1, s => pit f k (f s)
theorem pit_fix {f : Nat → Nat} {s : Nat} (h : f s = s) : ∀ k, pit f k s = s
  | 0 => rfl
  | k + 1 => by show pit f k (f s) = s; rw [h]; exact pit_fix h k
theorem pit_s {f : Nat → Nat} : ∀ (k s : Nat), pit f (k + 1) s = f (pit f k s)
  | 0, _ => rfl
  | k + 1, s => by show pit f (k + 1) (f s) = f (pit f k (f s)); exact pit_s k (f s)
def Sb (a b : Nat) : Prop := ∀ i, a.testBit i = true → b.testBit i = true
theorem Sb.rf (a : Nat) : Sb a a := fun _ h => h
theorem Sb.tr {a b c : Nat} (h : Sb a b) (h2 : Sb b c) : Sb a c := fun i hi => h2 i (h i hi)
theorem or2_bit (s x y i : Nat) : (s ||| (2 ^ x ||| 2 ^ y)).testBit i = (s.testBit i || (decide (i = x) || decide (i = y))) := by
  rw [Nat.testBit_or, Nat.testBit_or, Nat.testBit_two_pow, Nat.testBit_two_pow]
  congr 2
  · exact decide_eq_decide.mpr ⟨Eq.symm, Eq.symm⟩
  · exact decide_eq_decide.mpr ⟨Eq.symm, Eq.symm⟩
theorem psF_inc (x y : Nat → Nat) (ob j s : Nat) : Sb s (psF x y ob j s) := by
  intro i hi
  unfold psF
  split
  · rw [or2_bit, hi]; rfl
  · exact hi
theorem psF_mono {x y : Nat → Nat} {ob ob' j s s' : Nat} (ho : Sb ob ob') (hs : Sb s s') : Sb (psF x y ob j s) (psF x y ob' j s') := by
  intro i hi
  unfold psF at hi ⊢
  by_cases c : (ob.testBit j && (s.testBit (x j) || s.testBit (y j))) = true
  · rw [if_pos c] at hi
    rw [Bool.and_eq_true, Bool.or_eq_true] at c
    have c' : (ob'.testBit j && (s'.testBit (x j) || s'.testBit (y j))) = true := by
      rw [Bool.and_eq_true, Bool.or_eq_true]
      exact ⟨ho j c.1, c.2.elim (fun z => Or.inl (hs _ z)) (fun z => Or.inr (hs _ z))⟩
    rw [if_pos c', or2_bit]
    rw [or2_bit, Bool.or_eq_true] at hi
    rcases hi with hi | hi
    · rw [hs i hi]; rfl
    · rw [hi, Bool.or_true]
  · rw [if_neg c] at hi
    exact psF_inc x y ob' j s' i (hs i hi)
theorem psM_mono {x y : Nat → Nat} {ob ob' m s s' : Nat} (ho : Sb ob ob') (hs : Sb s s') : Sb (psM x y ob m s) (psM x y ob' m s') :=
  lp_rel (f := psF x y ob) (g := psF x y ob') (Q := fun _ a b => Sb a b) m 0 s s' hs (fun j a b _ _ h => psF_mono ho h)
theorem psM_inc (x y : Nat → Nat) (ob m s : Nat) : Sb s (psM x y ob m s) :=
  lp_inv (f := psF x y ob) (Q := fun _ a => Sb s a) m 0 s (Sb.rf s) (fun j a _ _ h => h.tr (psF_inc x y ob j a))
theorem pit_mono {x y : Nat → Nat} {ob ob' m : Nat} (ho : Sb ob ob') : ∀ (k s s' : Nat), Sb s s' → Sb (pit (psM x y ob m) k s) (pit (psM x y ob' m) k s')
  | 0, _, _, h => h
  | k + 1, s, s', h => pit_mono ho k _ _ (psM_mono ho h)
theorem psM_lt {x y : Nat → Nat} {ob m s n : Nat} (hx : ∀ j, j < m → x j < n ∧ y j < n) (hs : s < 2 ^ n) : psM x y ob m s < 2 ^ n :=
  lp_inv (f := psF x y ob) (Q := fun _ a => a < 2 ^ n) m 0 s hs (fun j a _ hj h => by
    unfold psF
    obtain ⟨h1, h2⟩ := hx j (by omega)
    split
    · exact Nat.or_lt_two_pow h (Nat.or_lt_two_pow (Nat.pow_lt_pow_right (by omega) h1) (Nat.pow_lt_pow_right (by omega) h2))
    · exact h)
theorem pit_lt {x y : Nat → Nat} {ob m n : Nat} (hx : ∀ j, j < m → x j < n ∧ y j < n) : ∀ (k s : Nat), s < 2 ^ n → pit (psM x y ob m) k s < 2 ^ n
  | 0, _, h => h
  | k + 1, s, h => pit_lt hx k _ (psM_lt hx h)
theorem ct_lt {p q : Nat → Bool} : ∀ {n : Nat}, (∀ k, k < n → p k = true → q k = true) → (∃ k, k < n ∧ q k = true ∧ p k = false) → fb_ct p n < fb_ct q n
  | 0, _, ⟨k, hk, _⟩ => by omega
  | n + 1, h, ⟨k, hk, h1, h2⟩ => by
    rw [fb_ct_succ, fb_ct_succ]
    have hs := fb_ct_sub (p := p) (q := q) (n := n) (fun k hk => h k (by omega))
    by_cases e : k = n
    · subst e
      rw [h1, h2]
      simp
      omega
    · have := ct_lt (p := p) (q := q) (n := n) (fun k hk => h k (by omega)) ⟨k, by omega, h1, h2⟩
      have hn := h n (by omega)
      cases ep : p n
      · simp; split <;> omega
      · rw [hn ep]; simp; omega
theorem ne_bit {a b n : Nat} (hs : Sb a b) (hb : b < 2 ^ n) (h : a ≠ b) : ∃ k, k < n ∧ b.testBit k = true ∧ a.testBit k = false := by
  refine Classical.byContradiction (fun hno => h ?_)
  apply Nat.eq_of_testBit_eq
  intro i
  cases ea : a.testBit i
  · cases eb : b.testBit i
    · rfl
    · exfalso
      apply hno
      refine ⟨i, ?_, eb, ea⟩
      rcases Nat.lt_or_ge i n with c | c
      · exact c
      · rw [Nat.testBit_lt_two_pow (Nat.lt_of_lt_of_le hb (Nat.pow_le_pow_right (by omega) c))] at eb
        cases eb
  · exact (hs i ea).symm
theorem pit_stab {x y : Nat → Nat} {ob m n s : Nat} (hx : ∀ j, j < m → x j < n ∧ y j < n) (hs : s < 2 ^ n) : ∀ k, pit (psM x y ob m) (k + 1) s = pit (psM x y ob m) k s ∨ k + 1 ≤ fb_ct (fun i => (pit (psM x y ob m) (k + 1) s).testBit i) n
  | 0 => by
    by_cases e : psM x y ob m s = s
    · exact Or.inl e
    · have := ct_lt (p := fun i => s.testBit i) (q := fun i => (psM x y ob m s).testBit i) (n := n) (fun k _ h => psM_inc x y ob m s k h) (ne_bit (psM_inc x y ob m s) (psM_lt hx hs) (Ne.symm e))
      exact Or.inr (by show 1 ≤ fb_ct (fun i => (psM x y ob m s).testBit i) n; omega)
  | k + 1 => by
    rw [pit_s (k + 1) s]
    rcases pit_stab hx hs k with e | e
    · left
      rw [e, ← pit_s (f := psM x y ob m) k s, e]
    · by_cases e2 : psM x y ob m (pit (psM x y ob m) (k + 1) s) = pit (psM x y ob m) (k + 1) s
      · exact Or.inl e2
      · right
        have := ct_lt (p := fun i => (pit (psM x y ob m) (k + 1) s).testBit i) (q := fun i => (psM x y ob m (pit (psM x y ob m) (k + 1) s)).testBit i) (n := n) (fun k' _ h => psM_inc x y ob m _ k' h) (ne_bit (psM_inc x y ob m _) (psM_lt hx (pit_lt hx _ _ hs)) (Ne.symm e2))
        omega
/-- as many passes as there are nodes join all that can be joined -/
theorem pit_12 {x y : Nat → Nat} {ob m n s : Nat} (n12 : n ≤ 12) (hx : ∀ j, j < m → x j < n ∧ y j < n) (hs : s < 2 ^ n) : pit (psM x y ob m) 12 s = pit (psM x y ob m) n s := by
  have hn : psM x y ob m (pit (psM x y ob m) n s) = pit (psM x y ob m) n s := by
    rw [← pit_s (f := psM x y ob m)]
    rcases pit_stab (ob := ob) hx hs n with e | e
    · exact e
    · have := fb_ct_le (fun i => (pit (psM x y ob m) (n + 1) s).testBit i) n
      omega
  have : ∀ d, pit (psM x y ob m) (n + d) s = pit (psM x y ob m) n s := by
    intro d
    induction d with
    | zero => rfl
    | succ d ih => rw [← Nat.add_assoc, pit_s, ih, hn]
  have h := this (12 - n)
  rw [show n + (12 - n) = 12 by omega] at h
  exact h
theorem and2_0 (s x y : Nat) : s &&& (2 ^ x ||| 2 ^ y) = 0 ↔ (s.testBit x || s.testBit y) = false := by
  rw [Nat.and_or_distrib_left, Nat.or_eq_zero_iff, fb_bit_nat, fb_bit_nat, Bool.or_eq_false_iff]
theorem psF_both {x y : Nat → Nat} {ob j s : Nat} (h1 : s.testBit (x j) = true) (h2 : s.testBit (y j) = true) : psF x y ob j s = s := by
  unfold psF
  split
  · apply Nat.eq_of_testBit_eq
    intro i
    rw [or2_bit]
    by_cases c1 : i = x j
    · subst c1; rw [h1]; rfl
    · by_cases c2 : i = y j
      · subst c2; rw [h2]; rfl
      · simp [c1, c2]
  · rfl
section JN
variable {I : Nat → Int32} {A : Nat → Nat → Int32} {J : Nat → Int32} {B : Nat → Nat → Int32} {n m v sh : Nat} {P : Int32 → Prop} {a1 a2 : Int32}
theorem C_join_in {X : Int32 → Int32 → Int32 → Int32 → Prop} {ob : Nat} {x5 x6 : Int32} (hm : I 9 = nI m) (m18 : m ≤ 18) (n12 : n ≤ 12) (he : ∀ j, j < m → ∃ x y, x < n ∧ y < n ∧ A 17 j = nI x ∧ A 18 j = nI y) : ∀ (d j s : Nat), j + d = m → s < 2 ^ n → X (nI ob) (nI (lp (psF (fun j => (A 17 j).toNatClampNeg) (fun j => (A 18 j).toNatClampNeg) ob) d j s)) x5 x6 → g_Pi_joined_26 I A a1 a2 P X (d + 1) (nI ob) (nI s) x5 x6 (nI j)
  | 0, j, s, hj, _, h => c2t (lit_le hm (by omega) (by omega)) h
  | d + 1, j, s, hj, hs, h => by
    have hin : vp_in (nI j) 18 := vin (by omega) (by omega)
    have hcl : (nI j).toNatClampNeg = j := nI_clamp (by omega)
    obtain ⟨x, y, hx, hy, ex, ey⟩ := he j (by omega)
    have hx1 : (A 17 j).toNatClampNeg = x := by rw [ex]; exact nI_clamp (by omega)
    have hy1 : (A 18 j).toNatClampNeg = y := by rw [ey]; exact nI_clamp (by omega)
    have h' : X (nI ob) (nI (lp (psF (fun j => (A 17 j).toNatClampNeg) (fun j => (A 18 j).toNatClampNeg) ob) d (j + 1) (psF (fun j => (A 17 j).toNatClampNeg) (fun j => (A 18 j).toNatClampNeg) ob j s))) x5 x6 := h
    have eps : psF (fun j => (A 17 j).toNatClampNeg) (fun j => (A 18 j).toNatClampNeg) ob j s = if (ob.testBit j && (s.testBit x || s.testBit y)) = true then s ||| (2 ^ x ||| 2 ^ y) else s := by
      unfold psF
      simp only [hx1, hy1]
    rw [eps] at h'
    have h31 : (2 : Nat) ^ n ≤ 2 ^ 12 := Nat.pow_le_pow_right (by omega) n12
    have hends : 2 ^ x ||| 2 ^ y < 2 ^ n := Nat.or_lt_two_pow (Nat.pow_lt_pow_right (by omega) hx) (Nat.pow_lt_pow_right (by omega) hy)
    have go : ∀ s', s' < 2 ^ n → X (nI ob) (nI (lp (psF (fun j => (A 17 j).toNatClampNeg) (fun j => (A 18 j).toNatClampNeg) ob) d (j + 1) s')) x5 x6 → g_Pi_joined_80 I A a1 a2 P (g_Pi_joined_26 I A a1 a2 P X (d + 1)) (nI ob) (nI s') x5 x6 (nI j) := by
      intro s' hs' q
      show g_Pi_joined_26 I A a1 a2 P X (d + 1) (nI ob) (nI s') x5 x6 (nI j + 1)
      rw [nI_1]
      exact C_join_in hm m18 n12 he d (j + 1) s' (by omega) hs' q
    refine c2f (lit_lt hm (by omega) (by omega)) ⟨hin, hin, y1 ?_⟩
    rw [hcl, ex, ey, shl1 (by omega), shl1 (by omega), fa_or]
    refine g_bit rfl rfl (by omega) ?_
    cases e : ob.testBit j
    · rw [e, Bool.false_and, if_neg (by decide)] at h'
      exact c2t rfl (go s hs h')
    · rw [e, Bool.true_and] at h'
      refine c2f nz1 ?_
      rw [fa_and]
      have hand : s &&& (2 ^ x ||| 2 ^ y) < 2 ^ 12 := Nat.lt_of_le_of_lt Nat.and_le_left (by omega)
      have hz : nI (s &&& (2 ^ x ||| 2 ^ y)) = 0 ↔ (s.testBit x || s.testBit y) = false := by
        rw [← and2_0]
        show nI _ = nI 0 ↔ _
        rw [nI_eq (by omega) (by omega)]
      by_cases c : (s.testBit x || s.testBit y) = true
      · refine c2f (fun z => by rw [hz.mp z] at c; cases c) (y1 ?_)
        rw [if_pos c] at h'
        rw [fa_or]
        exact go _ (Nat.or_lt_two_pow hs hends) h'
      · rw [if_neg c] at h'
        exact c2t (hz.mpr (by simpa using c)) (go s hs h')
theorem C_join_out {X : Int32 → Prop} {ob : Nat} (hm : I 9 = nI m) (m18 : m ≤ 18) (n12 : n ≤ 12) (he : ∀ j, j < m → ∃ x y, x < n ∧ y < n ∧ A 17 j = nI x ∧ A 18 j = nI y) : ∀ (d k s : Nat), k + d = 12 → s < 2 ^ n → X (nI (pit (psM (fun j => (A 17 j).toNatClampNeg) (fun j => (A 18 j).toNatClampNeg) ob m) d s)) → g_Pi_joined_12 I A a1 a2 P X (d + 1) (nI ob) (nI s) (nI k)
  | 0, k, s, hk, hs, h => by
    have e : k = 12 := by omega
    subst e
    exact c2t (by decide) h
  | d + 1, k, s, hk, hs, h => by
    have h31 : (2 : Nat) ^ n ≤ 2 ^ 12 := Nat.pow_le_pow_right (by omega) n12
    have hx : ∀ j, j < m → (A 17 j).toNatClampNeg < n ∧ (A 18 j).toNatClampNeg < n := fun j hj => by
      obtain ⟨x, y, hx, hy, ex, ey⟩ := he j hj
      rw [ex, ey, nI_clamp (by omega), nI_clamp (by omega)]
      exact ⟨hx, hy⟩
    have hlt := psM_lt (ob := ob) (m := m) hx hs
    refine c2f (nI_ge (b := 12) (by omega) (by omega)) ⟨m + 1, C_join_in hm m18 n12 he m 0 s (by omega) hs ?_⟩
    show (¬ nI (psM (fun j => (A 17 j).toNatClampNeg) (fun j => (A 18 j).toNatClampNeg) ob m s) = nI s → _) ∧ (nI (psM (fun j => (A 17 j).toNatClampNeg) (fun j => (A 18 j).toNatClampNeg) ob m s) = nI s → _)
    refine ⟨fun z => ?_, fun z => ?_⟩
    · rw [nI_1]
      exact C_join_out hm m18 n12 he d (k + 1) _ (by omega) hlt h
    · have e := (nI_eq (by omega) (by omega)).mp z
      have h' : X (nI (pit (psM (fun j => (A 17 j).toNatClampNeg) (fun j => (A 18 j).toNatClampNeg) ob m) d (psM (fun j => (A 17 j).toNatClampNeg) (fun j => (A 18 j).toNatClampNeg) ob m s))) := h
      rw [e, pit_fix e d] at h'
      have h2 : X (nI (psM (fun j => (A 17 j).toNatClampNeg) (fun j => (A 18 j).toNatClampNeg) ob m s)) := by rw [e]; exact h'
      exact h2
theorem C_joined {bs s : Nat} (n12 : n ≤ 12) (hm : Rmain n m (I 9) (J 1) (A 17) (A 18) (A 19) (B 14) (B 15) (B 16)) (hv : Rvalve m v sh (I 10) (I 11) (J 2) (A 20) (A 21) (B 17) (B 18) (B 19)) (hs : s < 2 ^ n) (h : P (nI (pit (psM (fun j => (B 14 j).toNatClampNeg) (fun j => (B 15 j).toNatClampNeg) (omB (B 17) (sh ||| bs) v m) m) 12 s))) : g_Pi_joined I A (nI s) (nI bs) P := by
  have m18 := hm.1
  refine C_open (sh := sh) (bs := bs) hm.2.1 hv.2.1 hv.1 hv.2.2.2.1 (fun i hi => ?_) m18 ⟨13, ?_⟩
  · obtain ⟨q1, -, -, q2, -⟩ := hv.2.2.2.2.2.1 i hi
    rw [q1]; exact q2
  · rw [om_eq hv]
    refine C_join_out (n := n) hm.2.1 m18 n12 (fun j hj => ?_) 12 0 s (by omega) hs ?_
    · obtain ⟨q1, q2, -, x, y, w, hx, hy, -, -, -, ex, ey, -⟩ := hm.2.2.2 j hj
      exact ⟨x, y, hx, hy, q1.trans ex, q2.trans ey⟩
    · have e : psM (fun j => (A 17 j).toNatClampNeg) (fun j => (A 18 j).toNatClampNeg) (omB (B 17) (sh ||| bs) v m) m = psM (fun j => (B 14 j).toNatClampNeg) (fun j => (B 15 j).toNatClampNeg) (omB (B 17) (sh ||| bs) v m) m := by
        funext s'
        unfold psM
        refine lp_cong _ _ _ (fun j a _ hj => ?_)
        obtain ⟨q1, q2, -⟩ := hm.2.2.2 j (by omega)
        unfold psF
        simp only [q1, q2]
      rw [e]
      exact h
theorem M_join_in {X : Int32 → Int32 → Prop} {ob bs : Nat} {x3 : Int32} (n12 : n ≤ 12) (hm : Rmain n m (I 9) (J 1) (A 17) (A 18) (A 19) (B 14) (B 15) (B 16)) (hv : Rvalve m v sh (I 10) (I 11) (J 2) (A 20) (A 21) (B 17) (B 18) (B 19)) (hob : ∀ j, j < m → ob.testBit j = opn (sh ||| bs) (fd (fun i => B 17 i = nI j) v 0)) : ∀ (d j s : Nat), j + d = m → s < 2 ^ n → X (nI (lp (psF (fun j => (B 14 j).toNatClampNeg) (fun j => (B 15 j).toNatClampNeg) ob) d j s)) x3 → g_Mo_joined_49 J B (nI bs) P X (d + 1) (nI s) x3 (nI j)
  | 0, j, s, hj, _, h => c2t (lit_le hm.2.2.1 (by omega) (by have := hm.1; omega)) h
  | d + 1, j, s, hj, hs, h => by
    have m18 := hm.1
    have v12 := hv.1
    have hj2 := hv.2.2.1
    have hin : vp_in (nI j) 18 := vin (by omega) (by omega)
    have hcl : (nI j).toNatClampNeg = j := nI_clamp (by omega)
    obtain ⟨-, -, -, x, y, w, hx, hy, -, -, -, ex, ey, -⟩ := hm.2.2.2 j (by omega)
    have hx1 : (B 14 j).toNatClampNeg = x := by rw [ex]; exact nI_clamp (by omega)
    have hy1 : (B 15 j).toNatClampNeg = y := by rw [ey]; exact nI_clamp (by omega)
    have h' : X (nI (lp (psF (fun j => (B 14 j).toNatClampNeg) (fun j => (B 15 j).toNatClampNeg) ob) d (j + 1) (psF (fun j => (B 14 j).toNatClampNeg) (fun j => (B 15 j).toNatClampNeg) ob j s))) x3 := h
    have eps : psF (fun j => (B 14 j).toNatClampNeg) (fun j => (B 15 j).toNatClampNeg) ob j s = if (ob.testBit j && (s.testBit x || s.testBit y)) = true then s ||| (2 ^ x ||| 2 ^ y) else s := by
      unfold psF
      simp only [hx1, hy1]
    have hends : 2 ^ x ||| 2 ^ y < 2 ^ n := Nat.or_lt_two_pow (Nat.pow_lt_pow_right (by omega) hx) (Nat.pow_lt_pow_right (by omega) hy)
    have g160 : ∀ e, e < 2 ^ n → psF (fun j => (B 14 j).toNatClampNeg) (fun j => (B 15 j).toNatClampNeg) ob j s = s ||| e → g_Mo_joined_160 J B (nI bs) P (g_Mo_joined_49 J B (nI bs) P X (d + 1)) x3 (nI j) (nI s) (nI e) := by
      intro e he q
      refine y1 ?_
      rw [nI_1, fa_or]
      rw [q] at h'
      exact M_join_in n12 hm hv hob d (j + 1) (s ||| e) (by omega) (Nat.or_lt_two_pow hs he) h'
    have g159 : psF (fun j => (B 14 j).toNatClampNeg) (fun j => (B 15 j).toNatClampNeg) ob j s = s → g_Mo_joined_159 J B (nI bs) P (g_Mo_joined_49 J B (nI bs) P X (d + 1)) x3 (nI j) (nI s) := by
      intro q
      exact g160 0 (Nat.two_pow_pos n) (by rw [q, Nat.or_zero])
    have g94 : ∀ b : Bool, b = ob.testBit j → g_Mo_joined_94 J B (nI bs) P (g_Mo_joined_49 J B (nI bs) P X (d + 1)) (nI s) x3 (nI j) (bI b) := by
      intro b hb
      refine ⟨hin, y1 ⟨hin, y1 ?_⟩⟩
      rw [hcl, ex, ey, shr_bit _ (by omega), shr_bit _ (by omega), bt_nI (by omega), bt_nI (by omega)]
      cases b
      · refine c2t rfl (g159 ?_)
        rw [eps, ← hb, Bool.false_and, if_neg (by decide)]
      · refine c2f nz1 ?_
        rw [← hb, Bool.true_and] at eps
        cases e1 : s.testBit x
        · cases e2 : s.testBit y
          · rw [e1, e2] at eps
            exact n2f (by decide) (g159 (by rw [eps]; rfl))
          · rw [e1, e2] at eps
            refine n2t (by decide) ⟨hin, hin, ?_⟩
            rw [shl1 (by omega), shl1 (by omega), fa_or]
            exact g160 _ hends (by rw [eps]; rfl)
        · cases e2 : s.testBit y
          · rw [e1, e2] at eps
            refine n2t (by decide) ⟨hin, hin, ?_⟩
            rw [shl1 (by omega), shl1 (by omega), fa_or]
            exact g160 _ hends (by rw [eps]; rfl)
          · refine n2f (by decide) (g159 (psF_both ?_ ?_))
            · rw [hx1]; exact e1
            · rw [hy1]; exact e2
    refine c2f (lit_lt hm.2.2.1 (by omega) (by omega)) (M_valveOn hj2 v12 (M_isOpen hj2 v12 ?_))
    rw [opn_eq hv (fun i q => fd_lt q)]
    have hoj := hob j (by omega)
    cases e : fd (fun i => decide (B 17 i = nI j)) v 0 with
    | none =>
      rw [e] at hoj
      refine c2f nz1 (c2t (by decide) (g94 true ?_))
      rw [hoj]; rfl
    | some i =>
      rw [e] at hoj
      have hi := fd_lt e
      have hoj' : ob.testBit j = !(sh.testBit i || bs.testBit i) := by rw [hoj]; show (!(sh ||| bs).testBit i) = _; rw [Nat.testBit_or]
      show (bI (!sh.testBit i) = 0 → _) ∧ (¬ bI (!sh.testBit i) = 0 → ((nI i < 0 → _) ∧ (¬ nI i < 0 → _)))
      cases e1 : sh.testBit i
      · refine c2f nz1 (c2f (nI_pos (by omega)) ?_)
        rw [show (oN (some i)) = nI i from rfl, shr_bit _ (by omega), bt_nI (by omega)]
        cases e2 : bs.testBit i
        · exact n2t rfl (g94 true (by rw [hoj', e1, e2]; rfl))
        · exact n2f nz1 (g94 false (by rw [hoj', e1, e2]; rfl))
      · exact c2t rfl (g94 false (by rw [hoj', e1]; rfl))
theorem M_join_out {X : Int32 → Prop} {ob bs : Nat} (n12 : n ≤ 12) (hj0 : J 0 = nI n) (hm : Rmain n m (I 9) (J 1) (A 17) (A 18) (A 19) (B 14) (B 15) (B 16)) (hv : Rvalve m v sh (I 10) (I 11) (J 2) (A 20) (A 21) (B 17) (B 18) (B 19)) (hob : ∀ j, j < m → ob.testBit j = opn (sh ||| bs) (fd (fun i => B 17 i = nI j) v 0)) : ∀ (d k s : Nat), k + d = n → s < 2 ^ n → X (nI (pit (psM (fun j => (B 14 j).toNatClampNeg) (fun j => (B 15 j).toNatClampNeg) ob m) d s)) → g_Mo_joined_38 J B (nI bs) P X (d + 1) (nI s) (nI k)
  | 0, k, s, hk, hs, h => c2t (lit_le hj0 (by omega) (by omega)) h
  | d + 1, k, s, hk, hs, h => by
    have hx : ∀ j, j < m → (B 14 j).toNatClampNeg < n ∧ (B 15 j).toNatClampNeg < n := fun j hj => by
      obtain ⟨-, -, -, x, y, w, hx, hy, -, -, -, ex, ey, -⟩ := hm.2.2.2 j hj
      rw [ex, ey, nI_clamp (by omega), nI_clamp (by omega)]
      exact ⟨hx, hy⟩
    refine c2f (lit_lt hj0 (by omega) (by omega)) ⟨m + 1, M_join_in n12 hm hv hob m 0 s (by omega) hs ?_⟩
    rw [nI_1]
    exact M_join_out n12 hj0 hm hv hob d (k + 1) _ (by omega) (psM_lt hx hs) h
def srcN (src : Nat → Bool) (n : Nat) : Nat := lp (fun i x => if src i then x ||| 2 ^ i else x) n 0 0
theorem srcN_lt (src : Nat → Bool) (n : Nat) : srcN src n < 2 ^ n := by
  have := lp_inv (f := fun i x => if src i then x ||| 2 ^ i else x) (Q := fun j x => x < 2 ^ j) n 0 0 (by decide) (fun j x _ _ h => by
    show (if src j then x ||| 2 ^ j else x) < 2 ^ (j + 1)
    have h2 : x < 2 ^ (j + 1) := Nat.lt_of_lt_of_le h (Nat.pow_le_pow_right (by omega) (by omega))
    split
    · exact Nat.or_lt_two_pow h2 (Nat.pow_lt_pow_right (by omega) (by omega))
    · exact h2)
  rw [Nat.zero_add] at this
  exact this
theorem M_src_l {X : Int32 → Prop} {t : Nat} (n12 : n ≤ 12) (hj0 : J 0 = nI n) (h3 : J 3 = nI t) : ∀ (d j s : Nat), j + d = n → X (nI (lp (fun i x => if sSrc B (nI t) i then x ||| 2 ^ i else x) d j s)) → g_Mo_joined_4 J B a1 P X (d + 1) (nI s) (nI j)
  | 0, j, s, hj, h => c2t (lit_le hj0 (by omega) (by omega)) h
  | d + 1, j, s, hj, h => by
    have h' : X (nI (lp (fun i x => if sSrc B (nI t) i then x ||| 2 ^ i else x) d (j + 1) (if sSrc B (nI t) j then s ||| 2 ^ j else s))) := h
    refine c2f (lit_lt hj0 (by omega) (by omega)) (M_isSource (by omega) ?_)
    rw [h3]
    show (bI (sSrc B (nI t) j) = 0 → _) ∧ (¬ bI (sSrc B (nI t) j) = 0 → _)
    cases e : sSrc B (nI t) j
    · refine c2t rfl (y1 ?_)
      rw [e] at h'
      rw [nI_1, show nI s ||| 0 = nI (s ||| 0) from fa_or s 0, Nat.or_zero]
      exact M_src_l n12 hj0 h3 d (j + 1) s (by omega) h'
    · refine c2f nz1 (y1 ?_)
      rw [e] at h'
      rw [nI_1, shl1 (by omega), fa_or]
      exact M_src_l n12 hj0 h3 d (j + 1) _ (by omega) h'
theorem M_joined {bs t : Nat} (n12 : n ≤ 12) (hj0 : J 0 = nI n) (h3 : J 3 = nI t) (hm : Rmain n m (I 9) (J 1) (A 17) (A 18) (A 19) (B 14) (B 15) (B 16)) (hv : Rvalve m v sh (I 10) (I 11) (J 2) (A 20) (A 21) (B 17) (B 18) (B 19)) (h : P (nI (pit (psM (fun j => (B 14 j).toNatClampNeg) (fun j => (B 15 j).toNatClampNeg) (omB (B 17) (sh ||| bs) v m) m) n (srcN (sSrc B (nI t)) n)))) : g_Mo_joined J B (nI bs) P := by
  refine ⟨n + 1, M_src_l n12 hj0 h3 n 0 0 (by omega) ⟨n + 1, ?_⟩⟩
  exact M_join_out n12 hj0 hm hv (fun j hj => om_opn hm.1 hv hj) n 0 _ (by omega) (srcN_lt _ _) h
theorem C_src_l {T : Nat → Option Nat} {L : List Nat} {K : Nat → Nat} {F : Nat → Nat → Int32} {X : Int32 → Prop} {t : Nat} (n12 : n ≤ 12) (hi4 : I 4 = nI n) (hth : thN n T L K F B) : ∀ (d j s : Nat), j + d = n → X (nI (lp (fun i x => if sSrc B (nI t) i then x ||| 2 ^ i else x) d j s)) → g_Ne_sources_4 I T L K F (nI t) P X (d + 1) (nI s) (nI j)
  | 0, j, s, hj, h => c2t (lit_le hi4 (by omega) (by omega)) h
  | d + 1, j, s, hj, h => by
    have h' : X (nI (lp (fun i x => if sSrc B (nI t) i then x ||| 2 ^ i else x) d (j + 1) (if sSrc B (nI t) j then s ||| 2 ^ j else s))) := h
    refine c2f (lit_lt hi4 (by omega) (by omega)) (C_isSource (by omega) (hth j (by omega)) ?_)
    show (bI (sSrc B (nI t) j) = 0 → _) ∧ (¬ bI (sSrc B (nI t) j) = 0 → _)
    cases e : sSrc B (nI t) j
    · refine c2t rfl ?_
      rw [e] at h'
      show g_Ne_sources_4 I T L K F (nI t) P X (d + 1) (nI s) (nI j + 1)
      rw [nI_1]
      exact C_src_l n12 hi4 hth d (j + 1) s (by omega) h'
    · refine c2f nz1 (y1 ?_)
      rw [e] at h'
      rw [shl1 (by omega), fa_or]
      show g_Ne_sources_4 I T L K F (nI t) P X (d + 1) _ (nI j + 1)
      rw [nI_1]
      exact C_src_l n12 hi4 hth d (j + 1) _ (by omega) h'
theorem C_src {T : Nat → Option Nat} {L : List Nat} {K : Nat → Nat} {F : Nat → Nat → Int32} {t : Nat} (n12 : n ≤ 12) (hi4 : I 4 = nI n) (hth : thN n T L K F B) (h : P (nI (srcN (sSrc B (nI t)) n))) : g_Ne_sources I T L K F (nI t) P := ⟨n + 1, C_src_l n12 hi4 hth n 0 0 (by omega) h⟩
end JN
