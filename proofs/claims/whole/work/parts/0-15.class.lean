/-! ===== layer 2: the class's own work ===== -/
theorem bt_nJ {n j : Nat} (hj : j < 32) : bt (nI n) j = n.testBit j := by
  show (BitVec.ofNat 32 n).getLsbD j = _
  rw [BitVec.getLsbD_ofNat]
  simp [hj]
def clr (x j : Nat) : Nat := x ^^^ (x &&& 2 ^ j)
theorem clr_bit (x j i : Nat) : (clr x j).testBit i = (x.testBit i && !decide (i = j)) := by
  unfold clr
  rw [Nat.testBit_xor, Nat.testBit_and, Nat.testBit_two_pow]
  by_cases e : j = i
  · subst e; simp
  · simp [e, Ne.symm e]
theorem nI_clr (x j : Nat) (hj : j < 32) : nI x &&& (nI (2 ^ j) ^^^ (-1)) = nI (clr x j) := by
  apply b_ext
  intro i hi
  rw [b_and, b_xor, bt_nJ hi, bt_nJ hi, bt_nJ hi, b_m1 i hi, clr_bit, Nat.testBit_two_pow]
  by_cases e : j = i
  · subst e; simp
  · simp [e, Ne.symm e]
def omF (on : Nat → Int32) (s : Nat) (i x : Nat) : Nat := if s.testBit i then clr x (on i).toNatClampNeg else x
def omB (on : Nat → Int32) (s v m : Nat) : Nat := lp (omF on s) v 0 (2 ^ m - 1)
theorem omB_bit {on : Nat → Int32} {s v m : Nat} (j : Nat) : (omB on s v m).testBit j = decide (j < m ∧ ∀ i, i < v → s.testBit i = true → (on i).toNatClampNeg ≠ j) := by
  have := lp_inv (f := omF on s) (Q := fun k x => ∀ j, x.testBit j = decide (j < m ∧ ∀ i, i < k → s.testBit i = true → (on i).toNatClampNeg ≠ j)) v 0 (2 ^ m - 1) (fun j => by
    rw [Nat.testBit_two_pow_sub_one]
    simp) (fun i x _ _ hx j => by
    unfold omF
    cases e : s.testBit i
    · simp only [Bool.false_eq_true, if_false]
      rw [hx j]
      congr 1
      apply propext
      constructor
      · rintro ⟨h1, h2⟩
        refine ⟨h1, fun i' hi' hs => ?_⟩
        rcases Nat.lt_succ_iff_lt_or_eq.mp hi' with h | h
        · exact h2 i' h hs
        · subst h; rw [e] at hs; cases hs
      · rintro ⟨h1, h2⟩
        exact ⟨h1, fun i' hi' hs => h2 i' (by omega) hs⟩
    · simp only [if_true]
      rw [clr_bit, hx j]
      by_cases c : (on i).toNatClampNeg = j
      · have e1 : decide (j = (on i).toNatClampNeg) = true := decide_eq_true c.symm
        rw [e1, Bool.not_true, Bool.and_false]
        symm
        apply decide_eq_false
        rintro ⟨-, h2⟩
        exact h2 i (by omega) e c
      · have e1 : decide (j = (on i).toNatClampNeg) = false := decide_eq_false (Ne.symm c)
        rw [e1, Bool.not_false, Bool.and_true]
        congr 1
        apply propext
        constructor
        · rintro ⟨h1, h2⟩
          refine ⟨h1, fun i' hi' hs => ?_⟩
          rcases Nat.lt_succ_iff_lt_or_eq.mp hi' with h | h
          · exact h2 i' h hs
          · subst h; exact c
        · rintro ⟨h1, h2⟩
          exact ⟨h1, fun i' hi' hs => h2 i' (by omega) hs⟩)
  rw [Nat.zero_add] at this
  exact this j
theorem omB_lt {on : Nat → Int32} {s v m : Nat} : omB on s v m < 2 ^ m := by
  apply Nat.lt_pow_two_of_testBit
  intro i hi
  rw [omB_bit]
  apply decide_eq_false
  rintro ⟨h, -⟩
  omega
theorem C_open_l {I : Nat → Int32} {A : Nat → Nat → Int32} {P X : Int32 → Prop} {m v sh bs : Nat} (hv : I 10 = nI v) (v12 : v ≤ 12) (hs : I 11 = nI sh) (ho : ∀ i, i < v → inN (A 20 i) m) (m18 : m ≤ 18) : ∀ (d j x : Nat), j + d = v → X (nI (lp (omF (A 20) (sh ||| bs)) d j x)) → g_Pi_openMains_11 I A (nI bs) P X (d + 1) (nI x) (nI j)
  | 0, j, x, hj, h => c2t (lit_le hv (by omega) (by omega)) h
  | d + 1, j, x, hj, h => by
    refine c2f (lit_lt hv (by omega) (by omega)) (g_bit (x := sh ||| bs) (j := j) (by rw [hs, fa_or]) rfl (by omega) ?_)
    cases e : (sh ||| bs).testBit j
    · refine c2t rfl ?_
      show g_Pi_openMains_11 I A (nI bs) P X (d + 1) (nI x) (nI j + 1)
      rw [nI_1]
      refine C_open_l hv v12 hs ho m18 d (j + 1) x (by omega) ?_
      have h' : X (nI (lp (omF (A 20) (sh ||| bs)) d (j + 1) (omF (A 20) (sh ||| bs) j x))) := h
      unfold omF at h'
      rw [e] at h'
      exact h'
    · refine c2f nz1 ⟨vin (by omega) (by omega), y1 ?_⟩
      obtain ⟨y, hy, ey⟩ := ho j (by omega)
      rw [nI_clamp (by omega), ey, shl1 (by omega), nI_clr x y (by omega)]
      show g_Pi_openMains_11 I A (nI bs) P X (d + 1) (nI (clr x y)) (nI j + 1)
      rw [nI_1]
      refine C_open_l hv v12 hs ho m18 d (j + 1) (clr x y) (by omega) ?_
      have h' : X (nI (lp (omF (A 20) (sh ||| bs)) d (j + 1) (omF (A 20) (sh ||| bs) j x))) := h
      rw [show omF (A 20) (sh ||| bs) j x = clr x y by
        unfold omF
        rw [e, ey, nI_clamp (by omega)]
        rfl] at h'
      exact h'
theorem C_open {I : Nat → Int32} {A : Nat → Nat → Int32} {P : Int32 → Prop} {m v sh bs : Nat} (hm : I 9 = nI m) (hv : I 10 = nI v) (v12 : v ≤ 12) (hs : I 11 = nI sh) (ho : ∀ i, i < v → inN (A 20 i) m) (m18 : m ≤ 18) (h : P (nI (omB (A 20) (sh ||| bs) v m))) : g_Pi_openMains I A (nI bs) P := by
  refine y1 ⟨v + 1, ?_⟩
  rw [hm, shl1 (by omega)]
  obtain ⟨z, hz⟩ : ∃ z, 2 ^ m = z + 1 := ⟨2 ^ m - 1, by have := Nat.two_pow_pos m; omega⟩
  have h' : P (nI (lp (omF (A 20) (sh ||| bs)) v 0 (2 ^ m - 1))) := h
  rw [hz, Nat.add_sub_cancel] at h'
  rw [hz, nI_pred]
  exact C_open_l hv v12 hs ho m18 v 0 z (by omega) h'
/-- what the sweeps see of the things -/
def clsV (n : Nat) (T : Nat → Option Nat) (L : List Nat) (K : Nat → Nat) (F : Nat → Nat → Int32) (tick : Int32) (S : Nat → Option Int32) (tk : Nat → Int32 → Int32) : Prop :=
  (∀ (i : Nat) (P : Int32 → Prop), i < n → P (bI (S i).isSome) → g_Ne_isSource T L K F (nI i) tick P) ∧
  (∀ (i : Nat) (A : Nat → Nat → Int32) (P : Int32 → Prop), i < n → S i = none → P (tk i (A 9 i - 10 * A 7 i)) → g_Ne_taken A T L K F (nI i) tick P) ∧
  (∀ (i : Nat) (x : Int32), i < n → S i = some x → ∃ q, T i = some q ∧ ∀ P : Int32 → Prop, P x → gd_weight L K F q P)
section CW
variable {I : Nat → Int32} {A A0 : Nat → Nat → Int32} {T : Nat → Option Nat} {L : List Nat} {K : Nat → Nat} {F : Nat → Nat → Int32} {tick : Int32} {n m : Nat} {S : Nat → Option Int32} {tk : Nat → Int32 → Int32}
theorem C_begin_l {P X : (Nat → Nat → Int32) → Prop} (hV : clsV n T L K F tick S tk) (hn : I 4 = nI n) (n12 : n ≤ 12) : ∀ (d j : Nat) (A : Nat → Nat → Int32), j + d = n → (∀ c, c ≠ 9 → c ≠ 10 → A c = A0 c) → (∀ i, i < j → A 10 i = bI (S i).isSome ∧ A 9 i = 10 * A0 7 i + (S i).getD 0) →
    (∀ A2, (∀ c, c ≠ 9 → c ≠ 10 → A2 c = A0 c) → (∀ i, i < n → A2 10 i = bI (S i).isSome ∧ A2 9 i = 10 * A0 7 i + (S i).getD 0) → X A2) → g_Ne_beginHeads_2 I T L K F tick P X (d + 1) A (nI j)
  | 0, j, A, hj, hf, hi, h => by
    have e : j = n := by omega
    subst e
    exact c2t (lit_le hn (Nat.le_refl _) (by omega)) (h A hf hi)
  | d + 1, j, A, hj, hf, hi, h => by
    have hjn : j < n := by omega
    have hin : vp_in (nI j) 12 := vin (by omega) (by omega)
    have hcl : (nI j).toNatClampNeg = j := nI_clamp (by omega)
    refine c2f (lit_lt hn (by omega) (by omega)) (hV.1 j _ hjn ⟨hin, hin, ?_⟩)
    rw [nar_B (bI_B _), sA_at, hcl, up_at]
    have next : ∀ x : Int32, x = (S j).getD 0 → g_Ne_beginHeads_53 I T L K F tick P (g_Ne_beginHeads_2 I T L K F tick P X (d + 1)) (sA A 10 (nI j) (bI (S j).isSome)) (nI j) x := by
      intro x hx
      refine ⟨hin, hin, ?_⟩
      rw [nI_1, hcl]
      refine C_begin_l hV hn n12 d (j + 1) _ (by omega) (fun c h9 h10 => ?_) (fun i hlt => ?_) h
      · rw [sA_ne h9, sA_ne h10]; exact hf c h9 h10
      · by_cases e : i = j
        · subst e
          rw [sA_ne (by decide), sA_at, sA_at, hcl, up_at, up_at, sA_ne (by decide), hf 7 (by decide) (by decide), hx]
          exact ⟨rfl, rfl⟩
        · rw [sA_ne (by decide), sA_at, sA_at, hcl, up_ne e, up_ne e, sA_ne (by decide)]
          exact hi i (by omega)
    cases e : S j with
    | none =>
      rw [e] at next
      exact c2t rfl (next 0 rfl)
    | some x =>
      rw [e] at next
      obtain ⟨q, hq, hw⟩ := hV.2.2 j x hjn e
      refine c2f nz1 ⟨hin, ?_⟩
      refine ⟨fun hT => (by rw [hq] at hT; cases hT), fun q2 hT => ⟨hin, ?_⟩⟩
      rw [hq] at hT
      cases hT
      exact hw _ (next x rfl)
/-! the open mains, node by node -/
def flat (M : List (Nat × Nat × Int32)) : Nat → List (Nat × Int32)
  | 0 => []
  | i + 1 => flat M i ++ adj M i
theorem adj_s (e : Nat × Nat × Int32) (M : List (Nat × Nat × Int32)) (i : Nat) : adj (e :: M) i = if e.1 = i then (e.2.1, e.2.2) :: adj M i else if e.2.1 = i then (e.1, e.2.2) :: adj M i else adj M i := rfl
theorem adj_len (e : Nat × Nat × Int32) (M : List (Nat × Nat × Int32)) (i : Nat) : (adj (e :: M) i).length ≤ (adj M i).length + (if e.1 = i then 1 else 0) + (if e.2.1 = i then 1 else 0) := by
  rw [adj_s]
  by_cases c1 : e.1 = i
  · rw [if_pos c1, if_pos c1]; simp only [List.length_cons]; omega
  · rw [if_neg c1, if_neg c1]
    by_cases c2 : e.2.1 = i
    · rw [if_pos c2, if_pos c2]; simp only [List.length_cons]; omega
    · rw [if_neg c2, if_neg c2]; omega
theorem flat_cons (e : Nat × Nat × Int32) (M : List (Nat × Nat × Int32)) : ∀ i, (flat (e :: M) i).length ≤ (flat M i).length + (if e.1 < i then 1 else 0) + (if e.2.1 < i then 1 else 0)
  | 0 => by simp [flat]
  | i + 1 => by
    have h1 := flat_cons e M i
    have h2 := adj_len e M i
    unfold flat
    rw [List.length_append, List.length_append]
    split at h1 <;> split at h1 <;> split at h2 <;> split at h2 <;> split <;> split <;> omega
theorem flat_nil : ∀ i, flat [] i = []
  | 0 => rfl
  | i + 1 => by unfold flat; rw [flat_nil i]; rfl
theorem flat_le : ∀ (M : List (Nat × Nat × Int32)) (i : Nat), (flat M i).length ≤ 2 * M.length
  | [], i => by rw [flat_nil]; simp
  | e :: M, i => by
    have h1 := flat_cons e M i
    have h2 := flat_le M i
    simp only [List.length_cons]
    split at h1 <;> split at h1 <;> omega
theorem flat_mono (M : List (Nat × Nat × Int32)) (i : Nat) : ∀ d, ∃ l, flat M (i + d) = flat M i ++ l
  | 0 => ⟨[], by simp⟩
  | d + 1 => by
    obtain ⟨l, hl⟩ := flat_mono M i d
    refine ⟨l ++ adj M (i + d), ?_⟩
    show flat M (i + d) ++ adj M (i + d) = _
    rw [hl, List.append_assoc]
def okF (A : Nat → Nat → Int32) (l : List (Nat × Int32)) : Prop := ∀ t p, l[t]? = some p → A 15 t = nI p.1 ∧ A 16 t = p.2
theorem okF.add {l : List (Nat × Int32)} {p : Nat × Int32} (h : okF A l) (hl : l.length < 36) : okF (sA (sA A 15 (nI l.length) (nI p.1)) 16 (nI l.length) p.2) (l ++ [p]) := by
  intro t q hq
  rw [sA_ne (by decide), sA_at, sA_at, sA_ne (by decide), nI_clamp (by omega)]
  rcases Nat.lt_trichotomy t l.length with h1 | h1 | h1
  · rw [List.getElem?_append_left h1] at hq
    rw [up_ne (by omega), up_ne (by omega)]
    exact h t q hq
  · subst h1
    rw [List.getElem?_append_right (Nat.le_refl _), Nat.sub_self] at hq
    cases hq
    rw [up_at, up_at]
    exact ⟨rfl, rfl⟩
  · rw [List.getElem?_eq_none (by simp; omega)] at hq
    cases hq
theorem C_list_in {P : (Nat → Nat → Int32) → Prop} {X : (Nat → Nat → Int32) → Int32 → Int32 → Int32 → Prop} {bits i : Nat} {e1 e2 w : Nat → Int32} (hm : I 9 = nI m) (m18 : m ≤ 18) (n12 : n ≤ 12) (hi : i < n) (he : ∀ j, j < m → ∃ x y, x < n ∧ y < n ∧ e1 j = nI x ∧ e2 j = nI y) : ∀ (d j : Nat) (A : Nat → Nat → Int32) (l : List (Nat × Int32)), j + d = m → A 17 = e1 → A 18 = e2 → A 19 = w → okF A l → l.length + (adj (mls bits e1 e2 w d j) i).length ≤ 36 →
    (∀ A2, (∀ c, c ≠ 15 → c ≠ 16 → A2 c = A c) → okF A2 (l ++ adj (mls bits e1 e2 w d j) i) → X A2 (nI bits) (nI (l ++ adj (mls bits e1 e2 w d j) i).length) (nI i)) → g_Ne_listMains_31 I P X (d + 1) A (nI bits) (nI l.length) (nI i) (nI j)
  | 0, j, A, l, hj, h17, h18, h19, hf, hb, h => by
    have e : j = m := by omega
    subst e
    refine c2t (lit_le hm (Nat.le_refl _) (by omega)) ?_
    have := h A (fun _ _ _ => rfl)
    rw [show adj (mls bits e1 e2 w 0 j) i = [] from rfl, List.append_nil] at this
    exact this hf
  | d + 1, j, A, l, hj, h17, h18, h19, hf, hb, h => by
    have hjm : j < m := by omega
    have hin : vp_in (nI j) 18 := vin (by omega) (by omega)
    have hcl : (nI j).toNatClampNeg = j := nI_clamp (by omega)
    obtain ⟨x, y, hx, hy, ex, ey⟩ := he j hjm
    refine c2f (lit_lt hm (by omega) (by omega)) ⟨hin, ?_⟩
    rw [hcl, h17, ex]
    have skip : adj (mls bits e1 e2 w (d + 1) j) i = adj (mls bits e1 e2 w d (j + 1)) i → g_Ne_listMains_154 I P (g_Ne_listMains_31 I P X (d + 1)) A (nI bits) (nI l.length) (nI i) (nI j) := by
      intro es
      rw [es] at hb h
      show g_Ne_listMains_31 I P X (d + 1) A (nI bits) (nI l.length) (nI i) (nI j + 1)
      rw [nI_1]
      exact C_list_in hm m18 n12 hi he d (j + 1) A l (by omega) h17 h18 h19 hf hb h
    have put : ∀ (far : Nat) (s0 : Int32), adj (mls bits e1 e2 w (d + 1) j) i = (far, w j) :: adj (mls bits e1 e2 w d (j + 1)) i → ((s0 = 0 ∧ far = x) ∨ (¬ s0 = 0 ∧ far = y)) → g_Ne_listMains_92 I P (g_Ne_listMains_31 I P X (d + 1)) A (nI bits) (nI l.length) (nI i) (nI j) s0 := by
      intro far s0 es hs
      rw [es] at hb h
      have hlen : l.length < 36 := by simp only [List.length_cons] at hb; omega
      have go : ∀ z : Int32, z = nI far → g_Ne_listMains_134 I P (g_Ne_listMains_31 I P X (d + 1)) A (nI bits) (nI l.length) (nI i) (nI j) (nI l.length) z := by
        intro z hz
        subst hz
        refine ⟨vin hlen (by omega), hin, vin hlen (by omega), ?_⟩
        show g_Ne_listMains_31 I P X (d + 1) (sA (sA A 15 (nI l.length) (nI far)) 16 (nI l.length) ((sA A 15 (nI l.length) (nI far)) 19 (nI j).toNatClampNeg)) (nI bits) (nI l.length + 1) (nI i) (nI j + 1)
        rw [nI_1, nI_1, sA_ne (show (19 : Nat) ≠ 15 by decide), hcl, h19]
        have hf2 := hf.add (p := (far, w j)) hlen
        have hl2 : l.length + 1 = (l ++ [(far, w j)]).length := by simp
        rw [hl2]
        refine C_list_in (w := w) hm m18 n12 hi he d (j + 1) _ (l ++ [(far, w j)]) (by omega) ?_ ?_ ?_ hf2 (by simp only [List.length_append, List.length_cons, List.length_nil] at hb ⊢; omega) (fun A2 hfr hok => ?_)
        · rw [sA_ne (by decide), sA_ne (by decide)]; exact h17
        · rw [sA_ne (by decide), sA_ne (by decide)]; exact h18
        · rw [sA_ne (by decide), sA_ne (by decide)]; exact h19
        · rw [List.append_assoc] at hok ⊢
          exact h A2 (fun c h15 h16 => by rw [hfr c h15 h16, sA_ne h16, sA_ne h15]) hok
      refine c2f (nI_ge (b := 36) hlen (by omega)) ?_
      rcases hs with ⟨hs, rfl⟩ | ⟨hs, rfl⟩
      · refine c2t hs ⟨hin, ?_⟩
        rw [hcl, h17]
        exact go _ ex
      · refine c2f hs ⟨hin, ?_⟩
        rw [hcl, h18]
        exact go _ ey
    have hx1 : (e1 j).toNatClampNeg = x := by rw [ex]; exact nI_clamp (by omega)
    have hy1 : (e2 j).toNatClampNeg = y := by rw [ey]; exact nI_clamp (by omega)
    have es0 : bits.testBit j = false → adj (mls bits e1 e2 w (d + 1) j) i = adj (mls bits e1 e2 w d (j + 1)) i := by
      intro e
      rw [mls_s, if_neg (by rw [e]; decide)]
    have es1 : bits.testBit j = true → adj (mls bits e1 e2 w (d + 1) j) i = if x = i then (y, w j) :: adj (mls bits e1 e2 w d (j + 1)) i else if y = i then (x, w j) :: adj (mls bits e1 e2 w d (j + 1)) i else adj (mls bits e1 e2 w d (j + 1)) i := by
      intro e
      rw [mls_s, if_pos e]
      show (if (e1 j).toNatClampNeg = i then _ else if (e2 j).toNatClampNeg = i then _ else _) = _
      rw [hx1, hy1]
    by_cases c1 : x = i
    · refine n2t (by rw [c1]) (g_bit rfl rfl (by omega) ?_)
      cases e : bits.testBit j
      · exact c2t rfl (skip (es0 e))
      · refine c2f nz1 (n2f nz1 (put y 1 ?_ (Or.inr ⟨nz1, rfl⟩)))
        rw [es1 e, if_pos c1]
    · refine n2f (by rw [nI_eq (by omega) (by omega)]; exact c1) (g_bit rfl rfl (by omega) ?_)
      cases e : bits.testBit j
      · exact c2t rfl (skip (es0 e))
      · refine c2f nz1 (n2t rfl ⟨hin, ?_⟩)
        rw [hcl, h18, ey]
        by_cases c2 : y = i
        · refine n2t (by rw [c2]) (put x 0 ?_ (Or.inl ⟨rfl, rfl⟩))
          rw [es1 e, if_neg c1, if_pos c2]
        · refine n2f (by rw [nI_eq (by omega) (by omega)]; exact c2) (skip ?_)
          rw [es1 e, if_neg c1, if_neg c2]
theorem C_list_out {P : (Nat → Nat → Int32) → Prop} {X : (Nat → Nat → Int32) → Int32 → Prop} {bits : Nat} {e1 e2 w : Nat → Int32} (hm : I 9 = nI m) (m18 : m ≤ 18) (hn : I 4 = nI n) (n12 : n ≤ 12) (he : ∀ j, j < m → ∃ x y, x < n ∧ y < n ∧ e1 j = nI x ∧ e2 j = nI y) : ∀ (d i : Nat) (A : Nat → Nat → Int32), i + d = n → (∀ c, c ≠ 14 → c ≠ 15 → c ≠ 16 → A c = A0 c) → A0 17 = e1 → A0 18 = e2 → A0 19 = w → okF A (flat (mlist m bits e1 e2 w) i) → (∀ i', i' < i → A 14 i' = nI (flat (mlist m bits e1 e2 w) i').length) →
    (∀ A2, (∀ c, c ≠ 14 → c ≠ 15 → c ≠ 16 → A2 c = A0 c) → okF A2 (flat (mlist m bits e1 e2 w) n) → (∀ i', i' < n → A2 14 i' = nI (flat (mlist m bits e1 e2 w) i').length) → X A2 (nI (flat (mlist m bits e1 e2 w) n).length)) → g_Ne_listMains_13 I P X (d + 1) A (nI bits) (nI (flat (mlist m bits e1 e2 w) i).length) (nI i)
  | 0, i, A, hi, hf, h17, h18, h19, ok, hb, h => by
    have e : i = n := by omega
    subst e
    exact c2t (lit_le hn (Nat.le_refl _) (by omega)) (h A hf ok hb)
  | d + 1, i, A, hi, hf, h17, h18, h19, ok, hb, h => by
    have hle := flat_le (mlist m bits e1 e2 w) (i + 1)
    have hl18 : (mlist m bits e1 e2 w).length ≤ m := mls_len m 0
    have hcl : (nI i).toNatClampNeg = i := nI_clamp (by omega)
    refine c2f (lit_lt hn (by omega) (by omega)) ⟨vin (by omega) (by omega), m + 1, ?_⟩
    refine C_list_in (w := w) hm m18 n12 (show i < n by omega) he m 0 _ _ (by omega) ?_ ?_ ?_ ?_ ?_ (fun A2 hfr hok => ?_)
    · rw [sA_ne (by decide), hf 17 (by decide) (by decide) (by decide)]; exact h17
    · rw [sA_ne (by decide), hf 18 (by decide) (by decide) (by decide)]; exact h18
    · rw [sA_ne (by decide), hf 19 (by decide) (by decide) (by decide)]; exact h19
    · intro t p hp
      rw [sA_ne (by decide), sA_ne (by decide)]
      exact ok t p hp
    · have : (flat (mlist m bits e1 e2 w) (i + 1)).length = (flat (mlist m bits e1 e2 w) i).length + (adj (mlist m bits e1 e2 w) i).length := by
        show (flat (mlist m bits e1 e2 w) i ++ adj (mlist m bits e1 e2 w) i).length = _
        rw [List.length_append]
      show (flat (mlist m bits e1 e2 w) i).length + (adj (mlist m bits e1 e2 w) i).length ≤ 36
      omega
    · rw [nI_1]
      refine C_list_out hm m18 hn n12 he d (i + 1) A2 (by omega) (fun c h14 h15 h16 => ?_) h17 h18 h19 hok (fun i' hi' => ?_) h
      · rw [hfr c h15 h16, sA_ne h14]; exact hf c h14 h15 h16
      · rw [hfr 14 (by decide) (by decide), sA_at, hcl]
        by_cases e : i' = i
        · subst e; rw [up_at]
        · rw [up_ne e]; exact hb i' (by omega)
/-- the lists that the sweeps go by -/
def LK (A : Nat → Nat → Int32) (M : List (Nat × Nat × Int32)) (n : Nat) : Prop := okF A (flat M n) ∧ ∀ i, i ≤ n → A 14 i = nI (flat M i).length
theorem adj_lt {M : List (Nat × Nat × Int32)} {i : Nat} : ∀ {p : Nat × Int32}, okM n M → p ∈ adj M i → p.1 < n := by
  induction M with
  | nil => intro p _ h; cases h
  | cons e M ih =>
    intro p ok h
    obtain ⟨h1, h2, -⟩ := ok e List.mem_cons_self
    rw [adj_s] at h
    by_cases c1 : e.1 = i
    · rw [if_pos c1] at h
      rcases List.mem_cons.mp h with rfl | h
      · exact h2
      · exact ih ok.tl h
    · rw [if_neg c1] at h
      by_cases c2 : e.2.1 = i
      · rw [if_pos c2] at h
        rcases List.mem_cons.mp h with rfl | h
        · exact h1
        · exact ih ok.tl h
      · rw [if_neg c2] at h
        exact ih ok.tl h
theorem C_next_l {P : Int32 → Prop} {X : Int32 → Int32 → Prop} {i : Nat} {a2 : Int32} (hi : i < 12) : ∀ (l : List (Nat × Int32)) (t : Nat) (s w : Int32), (∀ u p, l[u]? = some p → A 15 (t + u) = nI p.1 ∧ A 16 (t + u) = p.2 ∧ p.1 < 12) → t + l.length ≤ 36 → A 14 (i + 1) = nI (t + l.length) → X (fsum (A 9) l (s, w)).1 (fsum (A 9) l (s, w)).2 → g_Ne_nextHead_13 A (nI i) a2 P X (l.length + 1) s w (nI t)
  | [], t, s, w, _, hb, he, h => by
    refine ⟨by rw [nI_1]; exact vin (by omega) (by omega), c2t ?_ h⟩
    rw [nI_1, nI_clamp (by omega), he]
    exact nI_le (by simp) (by simp at hb; omega)
  | p :: l, t, s, w, hl, hb, he, h => by
    obtain ⟨q1, q2, q3⟩ := hl 0 p rfl
    rw [Nat.add_zero] at q1 q2
    have hb' : t + (l.length + 1) ≤ 36 := hb
    have hin : vp_in (nI t) 36 := vin (by omega) (by omega)
    have hcl : (nI t).toNatClampNeg = t := nI_clamp (by omega)
    have hc2 : (nI p.1).toNatClampNeg = p.1 := nI_clamp (by omega)
    refine ⟨by rw [nI_1]; exact vin (by omega) (by omega), c2f ?_ ⟨hin, hin, ?_, ?_⟩⟩
    · rw [nI_1, nI_clamp (by omega), he]
      exact nI_ge (by simp) (by omega)
    · rw [hcl, q1]; exact vin q3 (by omega)
    · rw [hcl, q1, q2, hc2]
      refine y1 ⟨hin, y1 ?_⟩
      rw [nI_1]
      refine C_next_l hi l (t + 1) _ _ (fun u p hp => ?_) (by omega) (by rw [he]; congr 1; simp only [List.length_cons]; omega) h
      have := hl (u + 1) p hp
      rw [show t + (u + 1) = t + 1 + u by omega] at this
      exact this
theorem C_next {P : Int32 → Prop} {M : List (Nat × Nat × Int32)} {i : Nat} {H : Nat → Int32} (ok : okM n M) (hl : M.length ≤ 18) (n12 : n ≤ 12) (hi : i < n) (hK : LK A M n) (hb : hdB n (A 9)) (hH : A 7 i = H i) (h : P (nxt H tk M (A 9) i)) : g_Ne_nextHead A (nI i) (tk i (A 9 i - 10 * A 7 i)) P := by
  have hcl : (nI i).toNatClampNeg = i := nI_clamp (by omega)
  have hle := flat_le M (i + 1)
  have hfl : flat M (i + 1) = flat M i ++ adj M i := rfl
  have hlen : (flat M (i + 1)).length = (flat M i).length + (adj M i).length := by rw [hfl, List.length_append]
  obtain ⟨rest, hrest⟩ := flat_mono M (i + 1) (n - (i + 1))
  rw [show i + 1 + (n - (i + 1)) = n by omega] at hrest
  refine ⟨vin (by omega) (by omega), y1 ⟨(adj M i).length + 1, ?_⟩⟩
  rw [hcl, hK.2 i (by omega)]
  refine C_next_l (by omega) (adj M i) _ _ _ (fun u p hp => ?_) (by omega) (by rw [hK.2 (i + 1) (by omega), hlen]) ?_
  · have hu : u < (adj M i).length := (List.getElem?_eq_some_iff.mp hp).1
    have hg : (flat M n)[(flat M i).length + u]? = some p := by
      rw [hrest, hfl, List.append_assoc, List.getElem?_append_right (by omega), show (flat M i).length + u - (flat M i).length = u by omega, List.getElem?_append_left hu]
      exact hp
    obtain ⟨q1, q2⟩ := hK.1 _ _ hg
    exact ⟨q1, q2, by have := adj_lt ok (List.mem_of_getElem? hp); omega⟩
  · rw [← hsum_adj]
    obtain ⟨Sx, W, e1, -, e3⟩ := hsum_bd (i := i) hb M 0 0 ok
    rw [Nat.zero_add, Nat.zero_add] at e1
    have e1' : hsum M (A 9) i (0, 0) = (nI Sx, nI W) := e1
    refine ⟨vin (by omega) (by omega), y1 ?_⟩
    unfold nxt at h
    rw [e1', ← hH] at h
    rw [e1']
    dsimp only at h ⊢
    by_cases c : W = 0
    · subst c
      rw [if_pos (show nI 0 = 0 from rfl)] at h
      exact c2f (show ¬ (0 : Int32) < nI 0 by decide) h
    · have hz : ¬ nI W = 0 := nI_ne0 (by omega) (by omega)
      rw [if_neg hz] at h
      refine c2t (show (0 : Int32) < nI W from nI_lt (a := 0) (by omega) (by omega)) ⟨hz, ?_⟩
      by_cases c2 : (nI Sx - 1000 * tk i (A 9 i - 10 * A 7 i)) / nI W < 10 * A 7 i
      · rw [if_pos c2] at h
        rw [if_neg (fa_of_lt c2).2.2.1]
        exact h
      · rw [if_neg c2] at h
        by_cases c3 : 10 * A 7 i < (nI Sx - 1000 * tk i (A 9 i - 10 * A 7 i)) / nI W
        · rw [if_pos c3]; exact h
        · rw [if_neg c3]
          have e : 10 * A 7 i = (nI Sx - 1000 * tk i (A 9 i - 10 * A 7 i)) / nI W := by
            rw [fa_lt] at c2 c3
            rw [fa_eq]
            omega
          rw [e]
          exact h
end CW
