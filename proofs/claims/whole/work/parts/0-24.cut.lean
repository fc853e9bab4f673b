/-! ===== layer 2: the fewest valves ===== -/
def popc (s : Nat) : Nat := lp (fun k x => x + (if s.testBit k then 1 else 0)) 18 0 0
def bcV (a1 : Int32) : Int32 :=
  let y1 := a1 - (((a1.toUInt32 >>> ((1 : Int32).toUInt32 &&& Int32.toUInt32 31)).toInt32) &&& (1431655765 : Int32))
  let y2 := (y1 &&& (858993459 : Int32)) + (((y1.toUInt32 >>> ((2 : Int32).toUInt32 &&& Int32.toUInt32 31)).toInt32) &&& (858993459 : Int32))
  let y3 := (y2 + ((y2.toUInt32 >>> ((4 : Int32).toUInt32 &&& Int32.toUInt32 31)).toInt32)) &&& (252645135 : Int32)
  let y4 := y3 + ((y3.toUInt32 >>> ((8 : Int32).toUInt32 &&& Int32.toUInt32 31)).toInt32)
  let y5 := y4 + ((y4.toUInt32 >>> ((16 : Int32).toUInt32 &&& Int32.toUInt32 31)).toInt32)
  y5 &&& (63 : Int32)
set_option maxRecDepth 100000 in
theorem bcV_tab : ∀ a, a < 64 → ∀ b, b < 64 → bcV (nI (64 * a + b)) = nI (popc (64 * a + b)) := by decide +kernel
theorem bcV_eq {s : Nat} (h : s < 4096) : bcV (nI s) = nI (popc s) := by
  have := bcV_tab (s / 64) (by omega) (s % 64) (by omega)
  rw [Nat.div_add_mod] at this
  exact this
theorem C_bits {s : Nat} {P : Int32 → Prop} (h : s < 4096) (p : P (nI (popc s))) : g_JInt_bitCount (nI s) P := by
  rw [← bcV_eq h] at p
  exact y1 (y1 (y1 (y1 (y1 p))))
theorem M_bits_l {s : Nat} {P X : Int32 → Prop} : ∀ (d j x : Nat), j + d = 18 → X (nI (lp (fun k x => x + (if s.testBit k then 1 else 0)) d j x)) → g_Mo_bits_4 (nI s) P X (d + 1) (nI x) (nI j)
  | 0, j, x, hj, h => by
    have e : j = 18 := by omega
    subst e
    exact c2t (by decide) h
  | d + 1, j, x, hj, h => by
    refine c2f (nI_ge (b := 18) (by omega) (by omega)) (y1 ?_)
    rw [shr_bit _ (by omega), bt_nI (by omega), nI_1]
    have h' : X (nI (lp (fun k x => x + (if s.testBit k then 1 else 0)) d (j + 1) (x + (if s.testBit j then 1 else 0)))) := h
    have e : nI x + bI (s.testBit j) = nI (x + (if s.testBit j then 1 else 0)) := by
      cases s.testBit j
      · exact Int32.add_zero _
      · exact nI_1 x
    rw [e]
    exact M_bits_l d (j + 1) _ (by omega) h'
theorem M_bits {s : Nat} {P : Int32 → Prop} (p : P (nI (popc s))) : g_Mo_bits (nI s) P := ⟨19, M_bits_l 18 0 0 (by omega) p⟩
theorem popc_le {s v : Nat} (h : s < 2 ^ v) (v12 : v ≤ 12) : popc s ≤ v := by
  have := lp_inv (f := fun k x => x + (if s.testBit k then 1 else 0)) (Q := fun k x => x ≤ k ∧ x ≤ v) 18 0 0 ⟨by omega, by omega⟩ (fun k x _ _ hq => by
    show x + (if s.testBit k then 1 else 0) ≤ k + 1 ∧ x + (if s.testBit k then 1 else 0) ≤ v
    rcases Nat.lt_or_ge k v with c | c
    · split <;> omega
    · have : s.testBit k = false := Nat.testBit_lt_two_pow (Nat.lt_of_lt_of_le h (Nat.pow_le_pow_right (by omega) c))
      rw [this]
      simp
      omega)
  exact this.2
/-- the best of the sets below N -/
def Best (good : Nat → Bool) (N : Nat) (r : Option Nat) : Prop :=
  (r = none → ∀ s, s < N → good s = false) ∧ ∀ b, r = some b → b < N ∧ good b = true ∧ ∀ s, s < N → good s = true → popc b < popc s ∨ (popc b = popc s ∧ b ≤ s)
theorem Best.one {good : Nat → Bool} {N : Nat} {r r2 : Option Nat} (h : Best good N r) (h2 : Best good N r2) : r = r2 := by
  cases e : r with
  | none =>
    cases e2 : r2 with
    | none => rfl
    | some b =>
      obtain ⟨q1, q2, -⟩ := h2.2 b e2
      rw [h.1 e b q1] at q2
      cases q2
  | some a =>
    obtain ⟨p1, p2, p3⟩ := h.2 a e
    cases e2 : r2 with
    | none => rw [h2.1 e2 a p1] at p2; cases p2
    | some b =>
      obtain ⟨q1, q2, q3⟩ := h2.2 b e2
      have := p3 b q1 q2
      have := q3 a p1 p2
      congr 1
      omega
def bst (good : Nat → Bool) (s : Nat) (r : Option Nat) : Option Nat := if good s = true ∧ (∀ b, r = some b → popc s < popc b) then some s else r
theorem bst_best {good : Nat → Bool} (N : Nat) : ∃ r, Best good N r := by
  induction N with
  | zero => exact ⟨none, fun _ s h => absurd h (by omega), fun b h => by cases h⟩
  | succ N ih =>
    obtain ⟨r, h⟩ := ih
    by_cases c : good N = true ∧ ∀ b, r = some b → popc N < popc b
    · refine ⟨some N, fun e => (by cases e), fun b e => ?_⟩
      cases e
      refine ⟨by omega, c.1, fun s hs hg => ?_⟩
      rcases Nat.lt_succ_iff_lt_or_eq.mp hs with q | q
      · cases e : r with
        | none => rw [h.1 e s q] at hg; cases hg
        | some b =>
          have := c.2 b e
          have := (h.2 b e).2.2 s q hg
          omega
      · subst q; exact Or.inr ⟨rfl, Nat.le_refl _⟩
    · refine ⟨r, fun e s hs => ?_, fun b e => ?_⟩
      · rcases Nat.lt_succ_iff_lt_or_eq.mp hs with q | q
        · exact h.1 e s q
        · subst q
          cases g : good s
          · rfl
          · exact absurd ⟨g, fun b eb => by rw [e] at eb; cases eb⟩ c
      · obtain ⟨q1, q2, q3⟩ := h.2 b e
        refine ⟨by omega, q2, fun s hs hg => ?_⟩
        rcases Nat.lt_succ_iff_lt_or_eq.mp hs with q | q
        · exact q3 s q hg
        · subst q
          have : ¬ popc s < popc b := fun z => c ⟨hg, fun b' eb => by rw [e] at eb; cases eb; exact z⟩
          omega
theorem Best.step {good : Nat → Bool} {N : Nat} {r : Option Nat} (h : Best good N r) : (good N = true → (∀ b, r = some b → popc N < popc b) → Best good (N + 1) (some N)) ∧ (good N = false ∨ (∃ b, r = some b ∧ ¬ popc N < popc b) → Best good (N + 1) r) := by
  refine ⟨fun g c => ⟨fun e => (by cases e), fun b e => ?_⟩, fun c => ⟨fun e s hs => ?_, fun b e => ?_⟩⟩
  · cases e
    refine ⟨by omega, g, fun s hs hg => ?_⟩
    rcases Nat.lt_succ_iff_lt_or_eq.mp hs with q | q
    · cases e : r with
      | none => rw [h.1 e s q] at hg; cases hg
      | some b =>
        have := c b e
        have := (h.2 b e).2.2 s q hg
        omega
    · subst q; exact Or.inr ⟨rfl, Nat.le_refl _⟩
  · rcases Nat.lt_succ_iff_lt_or_eq.mp hs with q | q
    · exact h.1 e s q
    · subst q
      rcases c with c | ⟨b, eb, -⟩
      · exact c
      · rw [e] at eb; cases eb
  · obtain ⟨q1, q2, q3⟩ := h.2 b e
    refine ⟨by omega, q2, fun s hs hg => ?_⟩
    rcases Nat.lt_succ_iff_lt_or_eq.mp hs with q | q
    · exact q3 s q hg
    · subst q
      rcases c with c | ⟨b', eb, c⟩
      · rw [c] at hg; cases hg
      · rw [e] at eb; cases eb; omega
theorem andn_0 {a b : Nat} (ha : a < 4096) : nI a &&& (nI b ^^^ (-1)) = 0 ↔ Sb a b := by
  constructor
  · intro h i hi
    have hi32 : i < 32 := by
      rcases Nat.lt_or_ge i 32 with c | c
      · exact c
      · rw [Nat.testBit_lt_two_pow (Nat.lt_of_lt_of_le (show a < 2 ^ 12 from ha) (Nat.pow_le_pow_right (by omega) (by omega)))] at hi; cases hi
    have := congrArg (fun z => bt z i) h
    rw [b_and, b_xor, bt_nJ hi32, bt_nJ hi32, b_m1 i hi32, b_0, hi] at this
    simpa using this
  · intro h
    apply b_ext
    intro i hi
    rw [b_and, b_xor, bt_nJ hi, bt_nJ hi, b_m1 i hi, b_0]
    cases e : a.testBit i
    · rfl
    · rw [h i e]; rfl
theorem and_0_iff (a b : Nat) : a &&& b = 0 ↔ ∀ i, a.testBit i = true → b.testBit i = false := by
  constructor
  · intro h i hi
    have := congrArg (fun z => z.testBit i) h
    rw [Nat.testBit_and, hi, Nat.zero_testBit] at this
    simpa using this
  · intro h
    apply Nat.eq_of_testBit_eq
    intro i
    rw [Nat.testBit_and, Nat.zero_testBit]
    cases e : a.testBit i
    · rfl
    · rw [h i e]; rfl
section CUT
variable {k : Nat} {I : Nat → Int32} {A : Nat → Nat → Int32} {T : Nat → Option Nat} {L : List Nat} {K : Nat → Nat} {F : Nat → Nat → Int32} {J : Nat → Int32} {B : Nat → Nat → Int32} {n m v sh t node : Nat} {P : Int32 → Prop} {a1 : Int32}
/-- what is joined to the sources with the valves bs shut besides -/
def jnd (B : Nat → Nat → Int32) (n m v sh t bs : Nat) : Nat := pit (psM (fun j => (B 14 j).toNatClampNeg) (fun j => (B 15 j).toNatClampNeg) (omB (B 17) (sh ||| bs) v m) m) n (srcN (sSrc B (nI t)) n)
def goodS (B : Nat → Nat → Int32) (n m v sh t node s : Nat) : Bool := decide (s &&& sh = 0) && !(jnd B n m v sh t s).testBit node
theorem M_able_l {X : Int32 → Prop} (hv : Rvalve m v sh (I 10) (I 11) (J 2) (A 20) (A 21) (B 17) (B 18) (B 19)) (hX : ∀ ab, (∀ i, i < v → ab.testBit i = !sh.testBit i) → ab < 2 ^ v → X (nI ab)) : ∀ (d j ab : Nat), j + d = v → (∀ i, i < j → ab.testBit i = !sh.testBit i) → ab < 2 ^ j → g_Mo_cutOff_4 J B a1 P X (d + 1) (nI ab) (nI j)
  | 0, j, ab, hj, h1, h2 => by
    have e : j = v := by omega
    subst e
    exact c2t (lit_le hv.2.2.1 (Nat.le_refl _) (by have := hv.1; omega)) (hX ab h1 h2)
  | d + 1, j, ab, hj, h1, h2 => by
    have v12 := hv.1
    have hb := (hv.2.2.2.2.2.1 j (by omega)).2.2.1
    refine c2f (lit_lt hv.2.2.1 (by omega) (by omega)) ⟨vin (by omega) (by omega), ?_⟩
    rw [nI_clamp (by omega), hb]
    have h3 : ab < 2 ^ (j + 1) := Nat.lt_of_lt_of_le h2 (Nat.pow_le_pow_right (by omega) (by omega))
    cases e : sh.testBit j
    · refine c2t rfl (y1 ?_)
      rw [shl1 (by omega), fa_or, nI_1]
      refine M_able_l hv hX d (j + 1) _ (by omega) (fun i hi => ?_) (Nat.or_lt_two_pow h3 (Nat.pow_lt_pow_right (by omega) (by omega)))
      rw [fb_bit_set]
      by_cases c : i = j
      · subst c; rw [e]; simp
      · rw [h1 i (by omega)]; simp [c]
    · refine c2f nz1 (y1 ?_)
      rw [show nI ab ||| 0 = nI (ab ||| 0) from fa_or ab 0, Nat.or_zero, nI_1]
      refine M_able_l hv hX d (j + 1) _ (by omega) (fun i hi => ?_) h3
      by_cases c : i = j
      · subst c; rw [e, Nat.testBit_lt_two_pow h2]; rfl
      · exact h1 i (by omega)
theorem M_cut_l {X : Int32 → Prop} {ab : Nat} (n12 : n ≤ 12) (hj0 : J 0 = nI n) (h3 : J 3 = nI t) (hm : Rmain n m (I 9) (J 1) (A 17) (A 18) (A 19) (B 14) (B 15) (B 16)) (hv : Rvalve m v sh (I 10) (I 11) (J 2) (A 20) (A 21) (B 17) (B 18) (B 19)) (hnode : node < n) (hab : ∀ i, i < v → ab.testBit i = !sh.testBit i) (hab2 : ab < 2 ^ v)
    (hX : ∀ r, Best (goodS B n m v sh t node) (2 ^ v) r → X (oN r)) : ∀ (d s : Nat) (r : Option Nat), s + d = 2 ^ v → Best (goodS B n m v sh t node) s r → g_Mo_cutOff_43 J B (nI node) P X (d + 1) (nI ab) (oN r) (nI s)
  | 0, s, r, hs, hr => by
    have v12 := hv.1
    have h12 : (2 : Nat) ^ v ≤ 2 ^ 12 := Nat.pow_le_pow_right (by omega) v12
    refine c2t ?_ (hX r (by rw [← hs]; exact hr))
    rw [hv.2.2.1, shl1 (by omega)]
    exact nI_le (by omega) (by omega)
  | d + 1, s, r, hs, hr => by
    have v12 := hv.1
    have h12 : (2 : Nat) ^ v ≤ 2 ^ 12 := Nat.pow_le_pow_right (by omega) v12
    have hsv : s < 2 ^ v := by omega
    have next : ∀ r2, Best (goodS B n m v sh t node) (s + 1) r2 → g_Mo_cutOff_107 J B (nI node) P (g_Mo_cutOff_43 J B (nI node) P X (d + 1)) (nI ab) (oN r2) (nI s) := by
      intro r2 h2
      show g_Mo_cutOff_43 J B (nI node) P X (d + 1) (nI ab) (oN r2) (nI s + 1)
      rw [nI_1]
      exact M_cut_l n12 hj0 h3 hm hv hnode hab hab2 hX d (s + 1) r2 (by omega) h2
    have hsub : nI s &&& (nI ab ^^^ (-1)) = 0 ↔ s &&& sh = 0 := by
      rw [andn_0 (by omega), and_0_iff]
      constructor
      · intro h i hi
        have hiv : i < v := by
          rcases Nat.lt_or_ge i v with c | c
          · exact c
          · rw [Nat.testBit_lt_two_pow (Nat.lt_of_lt_of_le hsv (Nat.pow_le_pow_right (by omega) c))] at hi; cases hi
        have := h i hi
        rw [hab i hiv] at this
        simpa using this
      · intro h i hi
        have hiv : i < v := by
          rcases Nat.lt_or_ge i v with c | c
          · exact c
          · rw [Nat.testBit_lt_two_pow (Nat.lt_of_lt_of_le hsv (Nat.pow_le_pow_right (by omega) c))] at hi; cases hi
        rw [hab i hiv, h i hi]; rfl
    have g75 : ∀ fw : Bool, (fw = true → ∀ b, r = some b → popc s < popc b) → (fw = false → ∃ b, r = some b ∧ ¬ popc s < popc b) → g_Mo_cutOff_75 J B (nI node) P (g_Mo_cutOff_43 J B (nI node) P X (d + 1)) (nI ab) (oN r) (nI s) (bI fw) := by
      intro fw f1 f0
      refine ⟨fun z => next r (hr.step.2 (Or.inl ?_)), fun z => ⟨fun z2 => next r (hr.step.2 (Or.inr (f0 (bI_0.mp z2)))), fun z2 => M_joined n12 hj0 h3 hm hv ?_⟩⟩
      · unfold goodS
        rw [show decide (s &&& sh = 0) = false from decide_eq_false (fun q => z (hsub.mpr q))]
        rfl
      · show (¬ ((nI (jnd B n m v sh t s) >>> (nI node &&& 31)) &&& 1) = 0 → _) ∧ (((nI (jnd B n m v sh t s) >>> (nI node &&& 31)) &&& 1) = 0 → _)
        rw [shr_bit _ (by omega), bt_nI (by omega)]
        have hg : goodS B n m v sh t node s = !(jnd B n m v sh t s).testBit node := by
          unfold goodS
          rw [show decide (s &&& sh = 0) = true from decide_eq_true (hsub.mp z)]
          rfl
        cases e : (jnd B n m v sh t s).testBit node
        · rw [e] at hg
          exact n2t rfl (next (some s) (hr.step.1 hg (f1 (bI_n.mp z2))))
        · rw [e] at hg
          exact n2f nz1 (next r (hr.step.2 (Or.inl hg)))
    refine c2f (by rw [hv.2.2.1, shl1 (by omega)]; exact nI_ge hsv (by omega)) ?_
    cases e : r with
    | none =>
      rw [e] at g75
      exact c2t (by decide) (g75 true (fun _ b eb => by cases eb) (fun z => (by cases z)))
    | some b =>
      rw [e] at g75
      have hb := (hr.2 b e).1
      refine c2f (nI_pos (by omega)) (M_bits ?_)
      show g_Mo_bits (nI b) _
      refine M_bits ?_
      have p1 := popc_le (s := s) (v := 12) (by omega) (by omega)
      have p2 := popc_le (s := b) (v := 12) (by omega) (by omega)
      refine ⟨fun z => g75 false (fun q => by cases q) (fun _ => ⟨b, rfl, ?_⟩), fun z => g75 true (fun _ b' eb => ?_) (fun q => by cases q)⟩
      · rw [nI_leI (by omega) (by omega)] at z; omega
      · cases eb
        rw [nI_leI (by omega) (by omega)] at z; omega
theorem M_cut (n12 : n ≤ 12) (hj0 : J 0 = nI n) (h3 : J 3 = nI t) (hm : Rmain n m (I 9) (J 1) (A 17) (A 18) (A 19) (B 14) (B 15) (B 16)) (hv : Rvalve m v sh (I 10) (I 11) (J 2) (A 20) (A 21) (B 17) (B 18) (B 19)) (hnode : node < n) {r : Option Nat} (hr : Best (goodS B n m v sh t node) (2 ^ v) r) (h : P (oN r)) : g_Mo_cutOff J B (nI node) P := by
  refine ⟨v + 1, M_able_l (sh := sh) hv (fun ab h1 h2 => ⟨2 ^ v + 1, ?_⟩) v 0 0 (by omega) (fun i hi => absurd hi (by omega)) (by decide)⟩
  exact M_cut_l n12 hj0 h3 hm hv hnode h1 h2 (fun r2 h2 => by rw [h2.one hr]; exact h) (2 ^ v) 0 none (by omega) ⟨fun _ s hs => absurd hs (by omega), fun b e => by cases e⟩
theorem C_few_in {X : Int32 → Int32 → Prop} {sz : Nat} (n12 : n ≤ 12) (hm : Rmain n m (I 9) (J 1) (A 17) (A 18) (A 19) (B 14) (B 15) (B 16)) (hv : Rvalve m v sh (I 10) (I 11) (J 2) (A 20) (A 21) (B 17) (B 18) (B 19)) (hnode : node < n) (hsz : sz ≤ 13) : ∀ (d s : Nat), s + d = 2 ^ v → (∀ s', s' < s → goodS B n m v sh t node s' = true → popc s' ≠ sz) → ((∀ s', s' < 2 ^ v → goodS B n m v sh t node s' = true → popc s' ≠ sz) → X (nI (2 ^ v)) (nI sz)) → (∀ b, b < 2 ^ v → goodS B n m v sh t node b = true → popc b = sz → (∀ s', s' < b → goodS B n m v sh t node s' = true → popc s' ≠ sz) → P (nI b)) →
    g_Pi_fewestValves_40 I A (nI node) (nI (srcN (sSrc B (nI t)) n)) P X (d + 1) (nI (2 ^ v)) (nI sz) (nI s)
  | 0, s, hs, h1, hX, hP => by
    have v12 := hv.1
    have h12 : (2 : Nat) ^ v ≤ 2 ^ 12 := Nat.pow_le_pow_right (by omega) v12
    exact c2t (nI_le (by omega) (by omega)) (hX (fun s' hs' => h1 s' (by omega)))
  | d + 1, s, hs, h1, hX, hP => by
    have v12 := hv.1
    have h12 : (2 : Nat) ^ v ≤ 2 ^ 12 := Nat.pow_le_pow_right (by omega) v12
    have hsv : s < 2 ^ v := by omega
    have next : (goodS B n m v sh t node s = true → popc s ≠ sz) → g_Pi_fewestValves_95 I A (nI node) (nI (srcN (sSrc B (nI t)) n)) P (g_Pi_fewestValves_40 I A (nI node) (nI (srcN (sSrc B (nI t)) n)) P X (d + 1)) (nI (2 ^ v)) (nI sz) (nI s) := by
      intro hno
      show g_Pi_fewestValves_40 I A (nI node) (nI (srcN (sSrc B (nI t)) n)) P X (d + 1) (nI (2 ^ v)) (nI sz) (nI s + 1)
      rw [nI_1]
      refine C_few_in n12 hm hv hnode hsz d (s + 1) (by omega) (fun s' hs' hg => ?_) hX hP
      rcases Nat.lt_succ_iff_lt_or_eq.mp hs' with q | q
      · exact h1 s' q hg
      · subst q; exact hno hg
    have p1 := popc_le (s := s) (v := 12) (by omega) (by omega)
    refine c2f (nI_ge hsv (by omega)) (C_bits (by omega) ?_)
    have hskip : (goodS B n m v sh t node s = true → popc s ≠ sz) → g_Pi_fewestValves_70 I A (nI node) (nI (srcN (sSrc B (nI t)) n)) P (g_Pi_fewestValves_40 I A (nI node) (nI (srcN (sSrc B (nI t)) n)) P X (d + 1)) (nI (2 ^ v)) (nI sz) (nI s) := fun q => c2t rfl (next q)
    by_cases c : nI (popc s) = nI sz
    · refine n2t c ?_
      have hand : s &&& sh < 2 ^ 12 := Nat.lt_of_le_of_lt Nat.and_le_left (by omega)
      rw [hv.2.2.2.1, fa_and]
      have hz : nI (s &&& sh) = 0 ↔ s &&& sh = 0 := by
        show nI _ = nI 0 ↔ _
        rw [nI_eq (by omega) (by omega)]
      by_cases c2 : s &&& sh = 0
      · refine n2t (hz.mpr c2) (c2f nz1 (C_joined n12 hm hv (srcN_lt _ _) ?_))
        rw [pit_12 n12 (fun j hj => by
          obtain ⟨-, -, -, x, y, w, hx, hy, -, -, -, ex, ey, -⟩ := hm.2.2.2 j hj
          rw [ex, ey, nI_clamp (by omega), nI_clamp (by omega)]
          exact ⟨hx, hy⟩) (srcN_lt _ _)]
        refine g_bit (x := jnd B n m v sh t s) rfl rfl (by omega) ?_
        have hg : goodS B n m v sh t node s = !(jnd B n m v sh t s).testBit node := by
          unfold goodS
          rw [show decide (s &&& sh = 0) = true from decide_eq_true c2]
          rfl
        cases e : (jnd B n m v sh t s).testBit node
        · rw [e] at hg
          refine n2t rfl ?_
          rw [nI_eq (by omega) (by omega)] at c
          exact hP s hsv hg c h1
        · rw [e] at hg
          exact n2f nz1 (next (fun q => by rw [hg] at q; cases q))
      · refine n2f (fun z => c2 (hz.mp z)) (hskip (fun q => ?_))
        unfold goodS at q
        rw [show decide (s &&& sh = 0) = false from decide_eq_false c2] at q
        cases q
    · refine n2f c (hskip (fun _ q => c (by rw [q])))
theorem C_few_out (n12 : n ≤ 12) (hm : Rmain n m (I 9) (J 1) (A 17) (A 18) (A 19) (B 14) (B 15) (B 16)) (hv : Rvalve m v sh (I 10) (I 11) (J 2) (A 20) (A 21) (B 17) (B 18) (B 19)) (hnode : node < n) {r : Option Nat} (hr : Best (goodS B n m v sh t node) (2 ^ v) r) (h : P (oN r)) : ∀ (d sz : Nat), sz + d = v + 1 → (∀ s', s' < 2 ^ v → goodS B n m v sh t node s' = true → sz ≤ popc s') → g_Pi_fewestValves_28 I A (nI node) (nI (srcN (sSrc B (nI t)) n)) P (P (-6)) (d + 1) (nI (2 ^ v)) (nI sz)
  | 0, sz, hs, h1 => by
    have v12 := hv.1
    refine c2t ?_ ?_
    · rw [hv.2.1]; exact nI_lt (by omega) (by omega)
    · cases e : r with
      | none => rw [e] at h; exact h
      | some b =>
        exfalso
        obtain ⟨q1, q2, -⟩ := hr.2 b e
        have := h1 b q1 q2
        have := popc_le q1 v12
        omega
  | d + 1, sz, hs, h1 => by
    have v12 := hv.1
    refine c2f (by rw [hv.2.1]; exact nI_nlt (by omega) (by omega)) ⟨2 ^ v + 1, C_few_in (sz := sz) n12 hm hv hnode (by omega) (2 ^ v) 0 (by omega) (fun s' hs' => absurd hs' (by omega)) (fun hno => ?_) (fun b hb hg hp hfirst => ?_)⟩
    · rw [nI_1]
      refine C_few_out n12 hm hv hnode hr h d (sz + 1) (by omega) (fun s' hs' hg => ?_)
      have := h1 s' hs' hg
      have := hno s' hs' hg
      omega
    · have hB : Best (goodS B n m v sh t node) (2 ^ v) (some b) := by
        refine ⟨fun e => (by cases e), fun b' e => ?_⟩
        cases e
        refine ⟨hb, hg, fun s' hs' hg' => ?_⟩
        have := h1 s' hs' hg'
        rcases Nat.lt_or_ge s' b with c | c
        · have := hfirst s' c hg'
          omega
        · omega
      rw [hr.one hB] at h
      exact h
theorem jnd_mono {bs bs' : Nat} (h : Sb bs bs') : Sb (jnd B n m v sh t bs') (jnd B n m v sh t bs) := by
  refine pit_mono (fun j hj => ?_) n _ _ (Sb.rf _)
  rw [omB_bit] at hj ⊢
  have hj' := of_decide_eq_true hj
  apply decide_eq_true
  refine ⟨hj'.1, fun i hi hs => hj'.2 i hi ?_⟩
  rw [Nat.testBit_or, Bool.or_eq_true] at hs ⊢
  exact hs.elim Or.inl (fun z => Or.inr (h i z))
theorem C_few (n12 : n ≤ 12) (hm : Rmain n m (I 9) (J 1) (A 17) (A 18) (A 19) (B 14) (B 15) (B 16)) (hv : Rvalve m v sh (I 10) (I 11) (J 2) (A 20) (A 21) (B 17) (B 18) (B 19)) (hnode : node < n) {r : Option Nat} (hr : Best (goodS B n m v sh t node) (2 ^ v) r) (h : P (oN r)) : g_Pi_fewestValves I A (nI node) (nI (srcN (sSrc B (nI t)) n)) P := by
  have v12 := hv.1
  have hpos := Nat.two_pow_pos v
  refine y1 ?_
  rw [hv.2.1, shl1 (by omega)]
  obtain ⟨z, hz⟩ : ∃ z, 2 ^ v = z + 1 := ⟨2 ^ v - 1, by omega⟩
  have ez : nI (2 ^ v) - 1 = nI z := by rw [hz, nI_pred]
  rw [ez]
  refine C_joined n12 hm hv (srcN_lt _ _) ?_
  rw [pit_12 n12 (fun j hj => by
    obtain ⟨-, -, -, x, y, w, hx, hy, -, -, -, ex, ey, -⟩ := hm.2.2.2 j hj
    rw [ex, ey, nI_clamp (by omega), nI_clamp (by omega)]
    exact ⟨hx, hy⟩) (srcN_lt _ _)]
  refine g_bit (x := jnd B n m v sh t z) rfl rfl (by omega) ?_
  cases e : (jnd B n m v sh t z).testBit node
  · exact c2t rfl ⟨v + 2, C_few_out n12 hm hv hnode hr h (v + 1) 0 (by omega) (fun _ _ _ => by omega)⟩
  · refine c2f nz1 ?_
    cases er : r with
    | none => rw [er] at h; exact h
    | some b =>
      exfalso
      obtain ⟨q1, q2, -⟩ := hr.2 b er
      have hs : Sb b z := by
        intro i hi
        have hiv : i < v := by
          rcases Nat.lt_or_ge i v with c | c
          · exact c
          · rw [Nat.testBit_lt_two_pow (Nat.lt_of_lt_of_le q1 (Nat.pow_le_pow_right (by omega) c))] at hi; cases hi
        rw [show z = 2 ^ v - 1 by omega, Nat.testBit_two_pow_sub_one]
        exact decide_eq_true hiv
      have := jnd_mono (B := B) (n := n) (m := m) (v := v) (sh := sh) (t := t) hs node e
      unfold goodS at q2
      rw [this] at q2
      simp at q2
theorem op_cut (hk : k < 512) (hR : Rel k I A T L K F J B) : g_Pw_cut I A T L K F a1 (fun r => g_Mo_cut J B a1 (fun r2 => r = r2 ∧ Rel (k + 1) I A T L K F J B)) := by
  have hU := hR.up
  obtain ⟨tk, n, m, v, sh, nr, sg, od, bk, h⟩ := hR
  have hN := h.net (by omega)
  obtain ⟨ht31, h3, hn, hm, hv, -, -, -, hth⟩ := id hN
  obtain ⟨n12, hi4, hj0, -⟩ := id hn
  refine g_has n12 hi4 (fun i hi e => ?_) (fun hno => c2t rfl (m_nodeF n12 hj0 hno (c2t rfl ⟨rfl, hU⟩)))
  subst e
  rw [h.1.2.1]
  obtain ⟨r, hr⟩ := bst_best (good := goodS B n m v sh tk i) (2 ^ v)
  exact c2f nz1 (C_src n12 hi4 hth (C_few n12 hm hv hi hr (m_nodeT n12 hj0 hi (c2f nz1 (M_cut n12 hj0 h3 hm hv hi hr ⟨rfl, hU⟩)))))
theorem op_dry (hk : k < 512) (hR : Rel k I A T L K F J B) : g_Pw_dry I A T L K F a1 (fun r => g_Mo_dry J B a1 (fun r2 => r = r2 ∧ Rel (k + 1) I A T L K F J B)) := by
  have hU := hR.up
  obtain ⟨tk, n, m, v, sh, nr, sg, od, bk, h⟩ := hR
  have hN := h.net (by omega)
  obtain ⟨ht31, h3, hn, hm, hv, -, -, -, hth⟩ := id hN
  obtain ⟨n12, hi4, hj0, -⟩ := id hn
  refine g_has n12 hi4 (fun i hi e => ?_) (fun hno => n2t rfl (m_nodeF n12 hj0 hno (n2t rfl ⟨rfl, hU⟩)))
  subst e
  rw [h.1.2.1]
  obtain ⟨r, hr⟩ := bst_best (good := goodS B n m v sh tk i) (2 ^ v)
  have hx : ∀ j, j < m → (B 14 j).toNatClampNeg < n ∧ (B 15 j).toNatClampNeg < n := fun j hj => by
    obtain ⟨-, -, -, x, y, w, hx, hy, -, -, -, ex, ey, -⟩ := hm.2.2.2 j hj
    rw [ex, ey, nI_clamp (by omega), nI_clamp (by omega)]
    exact ⟨hx, hy⟩
  refine n2f nz1 (C_src n12 hi4 hth (C_few n12 hm hv hi hr ?_))
  cases er : r with
  | none =>
    rw [er] at hr
    exact n2t rfl (m_nodeT n12 hj0 hi (n2f nz1 (M_cut n12 hj0 h3 hm hv hi hr (c2f (by decide) ⟨rfl, hU⟩))))
  | some b =>
    rw [er] at hr
    have v12 := hv.1
    have h12 : (2 : Nat) ^ v ≤ 2 ^ 12 := Nat.pow_le_pow_right (by omega) v12
    have hb := (hr.2 b rfl).1
    refine n2f (m6_nI (by omega)) (C_joined (bs := 0) n12 hm hv (srcN_lt _ _) (C_joined (bs := b) n12 hm hv (srcN_lt _ _) ?_))
    rw [pit_12 n12 hx (srcN_lt _ _), pit_12 n12 hx (srcN_lt _ _)]
    exact m_nodeT n12 hj0 hi (n2f nz1 (M_cut n12 hj0 h3 hm hv hi hr (c2t (nI_pos' (by omega)) (M_joined (bs := 0) n12 hj0 h3 hm hv (M_joined (bs := b) n12 hj0 h3 hm hv ⟨rfl, hU⟩)))))
end CUT
