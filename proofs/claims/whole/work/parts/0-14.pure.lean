/-! ===== layer 2: the net's work, by itself ===== -/
def EqN (n : Nat) (f g : Nat → Int32) : Prop := ∀ i, i < n → f i = g i
theorem EqN.rf {n : Nat} {f : Nat → Int32} : EqN n f f := fun _ _ => rfl
theorem EqN.sm {n : Nat} {f g : Nat → Int32} (h : EqN n f g) : EqN n g f := fun i hi => (h i hi).symm
theorem EqN.tr {n : Nat} {f g e : Nat → Int32} (h : EqN n f g) (h2 : EqN n g e) : EqN n f e := fun i hi => (h i hi).trans (h2 i hi)
/-- a node's own mains: the far end, the width -/
def adj : List (Nat × Nat × Int32) → Nat → List (Nat × Int32)
  | [], _ => []
  | e :: M, i => if e.1 = i then (e.2.1, e.2.2) :: adj M i else if e.2.1 = i then (e.1, e.2.2) :: adj M i else adj M i
def fsum (h : Nat → Int32) : List (Nat × Int32) → Int32 × Int32 → Int32 × Int32
  | [], sa => sa
  | e :: l, sa => fsum h l (sa.1 + e.2 * h e.1, sa.2 + e.2)
theorem hsum_adj {h : Nat → Int32} {i : Nat} : ∀ (M : List (Nat × Nat × Int32)) (sa : Int32 × Int32), hsum M h i sa = fsum h (adj M i) sa
  | [], _ => rfl
  | e :: M, sa => by
    unfold adj
    show hsum M h i (if e.1 = i then (sa.1 + e.2.2 * h e.2.1, sa.2 + e.2.2) else if e.2.1 = i then (sa.1 + e.2.2 * h e.1, sa.2 + e.2.2) else sa) = _
    rw [hsum_adj M]
    by_cases c1 : e.1 = i
    · rw [if_pos c1, if_pos c1]; rfl
    · rw [if_neg c1, if_neg c1]
      by_cases c2 : e.2.1 = i
      · rw [if_pos c2, if_pos c2]; rfl
      · rw [if_neg c2, if_neg c2]
def okM (n : Nat) (M : List (Nat × Nat × Int32)) : Prop := ∀ e ∈ M, e.1 < n ∧ e.2.1 < n ∧ ∃ w, 1 ≤ w ∧ w ≤ 1000 ∧ e.2.2 = nI w
theorem okM.tl {n : Nat} {e : Nat × Nat × Int32} {M : List (Nat × Nat × Int32)} (h : okM n (e :: M)) : okM n M := fun x hx => h x (List.mem_cons_of_mem _ hx)
theorem hsum_cong {n : Nat} {h h' : Nat → Int32} {i : Nat} (hh : EqN n h h') : ∀ (M : List (Nat × Nat × Int32)) (sa : Int32 × Int32), okM n M → hsum M h i sa = hsum M h' i sa
  | [], _, _ => rfl
  | e :: M, sa, ok => by
    obtain ⟨h1, h2, -⟩ := ok e List.mem_cons_self
    show hsum M h i (if e.1 = i then (sa.1 + e.2.2 * h e.2.1, sa.2 + e.2.2) else if e.2.1 = i then (sa.1 + e.2.2 * h e.1, sa.2 + e.2.2) else sa) = hsum M h' i (if e.1 = i then (sa.1 + e.2.2 * h' e.2.1, sa.2 + e.2.2) else if e.2.1 = i then (sa.1 + e.2.2 * h' e.1, sa.2 + e.2.2) else sa)
    rw [hh _ h1, hh _ h2]
    exact hsum_cong hh M _ ok.tl
def hdB (n : Nat) (h : Nat → Int32) : Prop := ∀ i, i < n → ∃ x, x ≤ 7000 ∧ h i = nI x
theorem hsum_bd {n i : Nat} {h : Nat → Int32} (hb : hdB n h) : ∀ (M : List (Nat × Nat × Int32)) (s w : Nat), okM n M → ∃ S W, hsum M h i (nI s, nI w) = (nI (s + S), nI (w + W)) ∧ S ≤ 7000 * W ∧ W ≤ 1000 * M.length
  | [], s, w, _ => ⟨0, 0, rfl, by omega, by omega⟩
  | e :: M, s, w, ok => by
    obtain ⟨h1, h2, x, hx1, hx2, ex⟩ := ok e List.mem_cons_self
    obtain ⟨y1, hy1, ey1⟩ := hb _ h1
    obtain ⟨y2, hy2, ey2⟩ := hb _ h2
    show ∃ S W, hsum M h i (if e.1 = i then (nI s + e.2.2 * h e.2.1, nI w + e.2.2) else if e.2.1 = i then (nI s + e.2.2 * h e.1, nI w + e.2.2) else (nI s, nI w)) = _ ∧ _
    have key : ∀ y, y ≤ 7000 → ∃ S W, hsum M h i (nI s + nI x * nI y, nI w + nI x) = (nI (s + S), nI (w + W)) ∧ S ≤ 7000 * W ∧ W ≤ 1000 * (M.length + 1) := by
      intro y hy
      obtain ⟨S, W, e1, e2, e3⟩ := hsum_bd hb M (s + x * y) (w + x) ok.tl
      refine ⟨x * y + S, x + W, ?_, ?_, by omega⟩
      · rw [pk_mul, nI_add, nI_add, e1]
        congr 2 <;> omega
      · have : x * y ≤ x * 7000 := Nat.mul_le_mul_left x hy
        omega
    rw [ex, ey1, ey2]
    by_cases c1 : e.1 = i
    · rw [if_pos c1]; exact key y2 hy2
    · rw [if_neg c1]
      by_cases c2 : e.2.1 = i
      · rw [if_pos c2]; exact key y1 hy1
      · rw [if_neg c2]
        obtain ⟨S, W, e1, e2, e3⟩ := hsum_bd hb M s w ok.tl
        exact ⟨S, W, e1, e2, by simp only [List.length_cons]; omega⟩
theorem nI_of_int {x : Int32} {m : Nat} (h0 : 0 ≤ x.toInt) (h : x.toInt ≤ m) : ∃ y, y ≤ m ∧ x = nI y := by
  obtain ⟨y, hy, rfl⟩ := nI_of (x := x) (by rw [fa_lt, show (0 : Int32).toInt = 0 from by decide]; omega)
  rw [nI_toInt hy] at h
  exact ⟨y, by omega, rfl⟩
theorem tdiv_le {z : Int} {W : Nat} {b : Nat} (hW : 0 < W) (h : z ≤ b * W) : z.tdiv W ≤ b := by
  rcases Int.le_total 0 z with h0 | h0
  · rw [Int.tdiv_eq_ediv_of_nonneg h0]
    have hW' : (0 : Int) < W := by omega
    have := Int.ediv_le_ediv hW' h
    rw [Int.mul_ediv_cancel _ (by omega)] at this
    exact this
  · have : z.tdiv W ≤ 0 := by
      obtain ⟨y, rfl⟩ : ∃ y : Int, z = -y := ⟨-z, by omega⟩
      rw [Int.neg_tdiv]
      have : 0 ≤ y.tdiv W := Int.tdiv_nonneg (by omega) (by omega)
      omega
    omega
/-- the next head stays within bounds -/
theorem nxt_bd {n i hh t : Nat} {H : Nat → Int32} {tk : Nat → Int32 → Int32} {M : List (Nat × Nat × Int32)} {h : Nat → Int32} (ok : okM n M) (hl : M.length ≤ 18) (hb : hdB n h) (hH : H i = nI hh) (h200 : hh ≤ 200) (ht : tk i (h i - 10 * H i) = nI t) (h14 : t ≤ 14000) : ∃ x, x ≤ 7000 ∧ nxt H tk M h i = nI x := by
  obtain ⟨S, W, e1, e2, e3⟩ := hsum_bd (i := i) hb M 0 0 ok
  rw [Nat.zero_add, Nat.zero_add] at e1
  have e1' : hsum M h i (0, 0) = (nI S, nI W) := e1
  have eg : (10 : Int32) * H i = nI (10 * hh) := by rw [hH]; exact pk_mul 10 hh
  unfold nxt
  rw [e1', ht, eg]
  show ∃ x, x ≤ 7000 ∧ (if nI W = 0 then nI (10 * hh) else if (nI S - 1000 * nI t) / nI W < nI (10 * hh) then nI (10 * hh) else (nI S - 1000 * nI t) / nI W) = nI x
  by_cases c : nI W = 0
  · rw [if_pos c]; exact ⟨10 * hh, by omega, rfl⟩
  · rw [if_neg c]
    have hW : 0 < W := by
      rcases Nat.eq_zero_or_pos W with rfl | q
      · exact absurd rfl c
      · exact q
    by_cases c2 : (nI S - 1000 * nI t) / nI W < nI (10 * hh)
    · rw [if_pos c2]; exact ⟨10 * hh, by omega, rfl⟩
    · rw [if_neg c2]
      have hz : (nI S - 1000 * nI t).toInt = (S : Int) - (1000 * t : Nat) := by
        rw [show (1000 : Int32) = nI 1000 from rfl, pk_mul, fb_subI, nI_toInt (by omega), nI_toInt (by omega)]
        · rw [nI_toInt (by omega), nI_toInt (by omega)]; omega
        · rw [nI_toInt (by omega), nI_toInt (by omega)]; omega
      have hv : ((nI S - 1000 * nI t) / nI W).toInt = ((S : Int) - (1000 * t : Nat)).tdiv W := by
        rw [Int32.toInt_div_of_ne_right _ _ (by
          intro e
          rw [fa_eq, nI_toInt (by omega), show (-1 : Int32).toInt = -1 from by decide] at e
          omega), hz, nI_toInt (by omega)]
      have hle : ((nI S - 1000 * nI t) / nI W).toInt ≤ (7000 : Nat) := by
        rw [hv]
        exact tdiv_le (b := 7000) hW (by omega)
      have hge : 0 ≤ ((nI S - 1000 * nI t) / nI W).toInt := by
        rw [fa_lt, nI_toInt (by omega)] at c2
        omega
      obtain ⟨y, hy, ey⟩ := nI_of_int hge hle
      exact ⟨y, hy, ey⟩
theorem nxt_cong {n i : Nat} {H H' : Nat → Int32} {tk tk' : Nat → Int32 → Int32} {M : List (Nat × Nat × Int32)} {h h' : Nat → Int32} (ok : okM n M) (hi : i < n) (hh : EqN n h h') (hH : H i = H' i) (ht : ∀ p, tk i p = tk' i p) : nxt H tk M h i = nxt H' tk' M h' i := by
  unfold nxt
  rw [hsum_cong hh M (0, 0) ok, hH, hh i hi, ht]
theorem sweep_cong {n : Nat} {H H' : Nat → Int32} {S S' : Nat → Option Int32} {tk tk' : Nat → Int32 → Int32} {M : List (Nat × Nat × Int32)} {h h' : Nat → Int32} (ok : okM n M) (hH : EqN n H H') (hS : ∀ i, i < n → S i = S' i) (ht : ∀ i, i < n → S i = none → ∀ p, tk i p = tk' i p) (hh : EqN n h h') :
    EqN n (sweepP n H S tk M h).1 (sweepP n H' S' tk' M h').1 ∧ (sweepP n H S tk M h).2 = (sweepP n H' S' tk' M h').2 := by
  unfold sweepP
  have := lp_rel (f := sw1 H S tk M) (g := sw1 H' S' tk' M) (Q := fun _ a b => EqN n a.1 b.1 ∧ a.2 = b.2) n 0 (h, 0) (h', 0) ⟨hh, rfl⟩ (fun i a b _ hi q => by
    have hi' : i < n := by omega
    unfold sw1
    rw [← hS i hi']
    cases e : S i with
    | some x => exact q
    | none =>
      have en := nxt_cong ok hi' q.1 (hH i hi') (ht i hi' e)
      simp only [Option.isSome_none, Bool.false_eq_true, if_false]
      refine ⟨fun j hj => ?_, ?_⟩
      · by_cases ej : j = i
        · subst ej; rw [up_at, up_at]; exact en
        · rw [up_ne ej, up_ne ej]; exact q.1 j hj
      · rw [en, q.1 i hi', q.2])
  exact this
theorem sweep_bd {n : Nat} {H : Nat → Int32} {S : Nat → Option Int32} {tk : Nat → Int32 → Int32} {M : List (Nat × Nat × Int32)} {h : Nat → Int32} (ok : okM n M) (hl : M.length ≤ 18) (hH : ∀ i, i < n → ∃ x, x ≤ 200 ∧ H i = nI x) (ht : ∀ i p, i < n → S i = none → p.toInt ≤ 7000 → ∃ t, t ≤ 14000 ∧ tk i p = nI t) (hb : hdB n h) : hdB n (sweepP n H S tk M h).1 := by
  unfold sweepP
  refine lp_inv (f := sw1 H S tk M) (Q := fun _ q => hdB n q.1) n 0 (h, 0) hb (fun i q _ hi hq => ?_)
  have hi' : i < n := by omega
  unfold sw1
  cases e : S i with
  | some x => exact hq
  | none =>
    obtain ⟨x, hx, ex⟩ := hH i hi'
    obtain ⟨y, hy, ey⟩ := hq i hi'
    have hp : (q.1 i - 10 * H i).toInt ≤ 7000 := by
      rw [ey, ex, show (10 : Int32) = nI 10 from rfl, pk_mul, fb_subI, nI_toInt (by omega), nI_toInt (by omega)]
      · omega
      · rw [nI_toInt (by omega), nI_toInt (by omega)]; omega
      · rw [nI_toInt (by omega), nI_toInt (by omega)]; omega
    obtain ⟨t, ht1, ht2⟩ := ht i _ hi' e hp
    obtain ⟨z, hz, ez⟩ := nxt_bd (n := n) ok hl hq ex hx ht2 ht1
    simp only [Option.isSome_none, Bool.false_eq_true, if_false]
    intro j hj
    by_cases ej : j = i
    · subst ej; rw [up_at]; exact ⟨z, hz, ez⟩
    · rw [up_ne ej]; exact hq j hj
/-- heads behind k sweeps -/
def itH (sw : (Nat → Int32) → (Nat → Int32) × Int32) (h : Nat → Int32) : Nat → (Nat → Int32)
  | 0 => h
  | k + 1 => (sw (itH sw h k)).1
theorem itH_sh {sw : (Nat → Int32) → (Nat → Int32) × Int32} : ∀ (h : Nat → Int32) (k : Nat), itH sw (sw h).1 k = itH sw h (k + 1)
  | _, 0 => rfl
  | h, k + 1 => by show (sw (itH sw (sw h).1 k)).1 = _; rw [itH_sh h k]; rfl
theorem wk_no {sw : (Nat → Int32) → (Nat → Int32) × Int32} {nr : Int32} : ∀ (d c : Nat) (h : Nat → Int32), (∀ s, s < d → ¬ (sw (itH sw h s)).2 ≤ nr) → wk sw nr d c h = (itH sw h d, c + d, false)
  | 0, _, _, _ => rfl
  | d + 1, c, h, hs => by
    unfold wk
    rw [if_neg (show ¬ (sw h).2 ≤ nr from hs 0 (by omega)), wk_no d (c + 1) _ (fun s hsd => by rw [itH_sh]; exact hs (s + 1) (by omega)), itH_sh, show c + 1 + d = c + (d + 1) by omega]
theorem wk_yes {sw : (Nat → Int32) → (Nat → Int32) × Int32} {nr : Int32} : ∀ (d c t : Nat) (h : Nat → Int32), t < d → (∀ s, s < t → ¬ (sw (itH sw h s)).2 ≤ nr) → (sw (itH sw h t)).2 ≤ nr → wk sw nr d c h = (itH sw h (t + 1), c + t + 1, true)
  | 0, _, _, _, h0, _, _ => by omega
  | d + 1, c, 0, h, _, _, h2 => by
    unfold wk
    rw [if_pos (show (sw h).2 ≤ nr from h2)]; rfl
  | d + 1, c, t + 1, h, ht, hs, h2 => by
    unfold wk
    rw [if_neg (show ¬ (sw h).2 ≤ nr from hs 0 (by omega)), wk_yes d (c + 1) t _ (by omega) (fun s hsd => by rw [itH_sh]; exact hs (s + 1) (by omega)) (by rw [itH_sh]; exact h2), itH_sh, show c + 1 + t + 1 = c + (t + 1) + 1 by omega]
/-- heads that come back go round in a ring -/
theorem itH_cong {n : Nat} {sw sw' : (Nat → Int32) → (Nat → Int32) × Int32} (hsw : ∀ h h', EqN n h h' → EqN n (sw h).1 (sw' h').1 ∧ (sw h).2 = (sw' h').2) : ∀ (k : Nat) (h h' : Nat → Int32), EqN n h h' → EqN n (itH sw h k) (itH sw' h' k)
  | 0, _, _, e => e
  | k + 1, h, h', e => (hsw _ _ (itH_cong hsw k h h' e)).1
theorem itH_add {sw : (Nat → Int32) → (Nat → Int32) × Int32} {h : Nat → Int32} {a : Nat} : ∀ b, itH sw h (a + b) = itH sw (itH sw h a) b
  | 0 => rfl
  | b + 1 => by show (sw (itH sw h (a + b))).1 = (sw (itH sw (itH sw h a) b)).1; rw [itH_add b]
theorem ring_step {n a p : Nat} {sw : (Nat → Int32) → (Nat → Int32) × Int32} {h : Nat → Int32} (hsw : ∀ h h', EqN n h h' → EqN n (sw h).1 (sw h').1 ∧ (sw h).2 = (sw h').2) (e : EqN n (itH sw h (p + a)) (itH sw h p)) (s : Nat) : EqN n (itH sw h (p + a + s)) (itH sw h (p + s)) := by
  rw [itH_add (a := p + a) s, itH_add (a := p) s]
  exact itH_cong hsw s _ _ e
theorem ring_mul {n a p : Nat} {sw : (Nat → Int32) → (Nat → Int32) × Int32} {h : Nat → Int32} (hsw : ∀ h h', EqN n h h' → EqN n (sw h).1 (sw h').1 ∧ (sw h).2 = (sw h').2) (e : EqN n (itH sw h (p + a)) (itH sw h p)) : ∀ (q s : Nat), EqN n (itH sw h (p + s + a * q)) (itH sw h (p + s))
  | 0, s => by rw [Nat.mul_zero]; exact EqN.rf
  | q + 1, s => by
    have h1 := ring_step hsw e (s + a * q)
    have h2 := ring_mul hsw e q s
    rw [show p + s + a * (q + 1) = p + a + (s + a * q) by rw [Nat.mul_succ]; omega]
    rw [show p + s + a * q = p + (s + a * q) by omega] at h2
    exact h1.tr h2
theorem wk_cong {n : Nat} {sw sw' : (Nat → Int32) → (Nat → Int32) × Int32} {nr : Int32} (hsw : ∀ h h', EqN n h h' → EqN n (sw h).1 (sw' h').1 ∧ (sw h).2 = (sw' h').2) : ∀ (d c : Nat) (h h' : Nat → Int32), EqN n h h' → EqN n (wk sw nr d c h).1 (wk sw' nr d c h').1 ∧ (wk sw nr d c h).2 = (wk sw' nr d c h').2
  | 0, _, _, _, e => ⟨e, rfl⟩
  | d + 1, c, h, h', e => by
    obtain ⟨h1, h2⟩ := hsw h h' e
    unfold wk
    rw [h2]
    by_cases q : (sw' h').2 ≤ nr
    · rw [if_pos q, if_pos q]; exact ⟨h1, rfl⟩
    · rw [if_neg q, if_neg q]; exact wk_cong hsw d (c + 1) _ _ h1
theorem work_cong {n : Nat} {H H' : Nat → Int32} {S S' : Nat → Option Int32} {tk tk' : Nat → Int32 → Int32} {M : List (Nat × Nat × Int32)} {nr : Int32} (ok : okM n M) (hH : EqN n H H') (hS : ∀ i, i < n → S i = S' i) (ht : ∀ i, i < n → S i = none → ∀ p, tk i p = tk' i p) :
    EqN n (workP n H S tk M nr).1 (workP n H' S' tk' M nr).1 ∧ (workP n H S tk M nr).2 = (workP n H' S' tk' M nr).2 := by
  unfold workP
  refine wk_cong (fun h h' e => sweep_cong ok hH hS ht e) 500 0 _ _ (fun i hi => ?_)
  unfold beginP
  rw [hH i hi, hS i hi]
theorem wk_bd {n : Nat} {sw : (Nat → Int32) → (Nat → Int32) × Int32} {nr : Int32} (hsw : ∀ h, hdB n h → hdB n (sw h).1) : ∀ (d c : Nat) (h : Nat → Int32), hdB n h → hdB n (wk sw nr d c h).1 ∧ (wk sw nr d c h).2.1 ≤ c + d
  | 0, c, h, e => ⟨e, by show c ≤ c + 0; omega⟩
  | d + 1, c, h, e => by
    unfold wk
    by_cases q : (sw h).2 ≤ nr
    · rw [if_pos q]; exact ⟨hsw h e, by show c + 1 ≤ c + (d + 1); omega⟩
    · rw [if_neg q]
      have := wk_bd (nr := nr) hsw d (c + 1) _ (hsw h e)
      exact ⟨this.1, by have := this.2; omega⟩
theorem mls_cong {bits : Nat} {e1 e2 w f1 f2 u : Nat → Int32} (d : Nat) : ∀ (j : Nat), (∀ i, j ≤ i → i < j + d → bits.testBit i = true → e1 i = f1 i ∧ e2 i = f2 i ∧ w i = u i) → mls bits e1 e2 w d j = mls bits f1 f2 u d j := by
  induction d with
  | zero => intro j _; rfl
  | succ d ih =>
    intro j h
    have h2 := ih (j + 1) (fun i h1 h2 h3 => h i (by omega) (by omega) h3)
    have h3 := h j (Nat.le_refl _) (by omega)
    show (if bits.testBit j = true then ((e1 j).toNatClampNeg, (e2 j).toNatClampNeg, w j) :: mls bits e1 e2 w d (j + 1) else mls bits e1 e2 w d (j + 1)) = (if bits.testBit j = true then ((f1 j).toNatClampNeg, (f2 j).toNatClampNeg, u j) :: mls bits f1 f2 u d (j + 1) else mls bits f1 f2 u d (j + 1))
    rw [h2]
    by_cases e : bits.testBit j = true
    · obtain ⟨q1, q2, q3⟩ := h3 e
      rw [q1, q2, q3]
    · rw [if_neg e, if_neg e]
theorem mls_no {bits : Nat} {e1 e2 w : Nat → Int32} : ∀ (d j : Nat), (∀ i, j ≤ i → i < j + d → bits.testBit i = false) → mls bits e1 e2 w d j = []
  | 0, _, _ => rfl
  | d + 1, j, h => by
    unfold mls
    rw [h j (Nat.le_refl _) (by omega), mls_no d (j + 1) (fun i h1 h2 => h i (by omega) (by omega))]
    rfl
theorem mls_s {bits : Nat} {e1 e2 w : Nat → Int32} {d j : Nat} : mls bits e1 e2 w (d + 1) j = if bits.testBit j = true then ((e1 j).toNatClampNeg, (e2 j).toNatClampNeg, w j) :: mls bits e1 e2 w d (j + 1) else mls bits e1 e2 w d (j + 1) := rfl
theorem mls_app {bits : Nat} {e1 e2 w : Nat → Int32} : ∀ (a b j : Nat), mls bits e1 e2 w (a + b) j = mls bits e1 e2 w a j ++ mls bits e1 e2 w b (j + a)
  | 0, b, j => by rw [Nat.zero_add]; rfl
  | a + 1, b, j => by
    rw [show a + 1 + b = (a + b) + 1 by omega, mls_s, mls_s, mls_app a b (j + 1), show j + 1 + a = j + (a + 1) by omega]
    by_cases e : bits.testBit j = true
    · rw [if_pos e, if_pos e]; rfl
    · rw [if_neg e, if_neg e]
theorem mlist_18 {bits m : Nat} {e1 e2 w : Nat → Int32} (hm : m ≤ 18) (hb : bits < 2 ^ m) : mlist 18 bits e1 e2 w = mlist m bits e1 e2 w := by
  unfold mlist
  rw [show 18 = m + (18 - m) by omega, mls_app, mls_no (18 - m) (0 + m) (fun i h1 _ => Nat.testBit_lt_two_pow (Nat.lt_of_lt_of_le hb (Nat.pow_le_pow_right (by omega) (by omega)))), List.append_nil]
theorem mls_len {bits : Nat} {e1 e2 w : Nat → Int32} : ∀ (d j : Nat), (mls bits e1 e2 w d j).length ≤ d
  | 0, _ => Nat.le_refl _
  | d + 1, j => by
    unfold mls
    have := mls_len (bits := bits) (e1 := e1) (e2 := e2) (w := w) d (j + 1)
    cases bits.testBit j
    · simp; omega
    · simp; omega
theorem mls_ok {n bits : Nat} {e1 e2 w : Nat → Int32} (n12 : n ≤ 12) : ∀ (d j : Nat), (∀ i, j ≤ i → i < j + d → ∃ x y z, x < n ∧ y < n ∧ 1 ≤ z ∧ z ≤ 1000 ∧ e1 i = nI x ∧ e2 i = nI y ∧ w i = nI z) → okM n (mls bits e1 e2 w d j)
  | 0, _, _ => fun e he => by cases he
  | d + 1, j, h => by
    have ih := mls_ok (bits := bits) (e1 := e1) (e2 := e2) (w := w) n12 d (j + 1) (fun i h1 h2 => h i (by omega) (by omega))
    unfold mls
    cases bits.testBit j
    · exact ih
    · intro e he
      rcases List.mem_cons.mp he with rfl | he
      · obtain ⟨x, y, z, hx, hy, hz1, hz2, ex, ey, ez⟩ := h j (Nat.le_refl _) (by omega)
        refine ⟨?_, ?_, z, hz1, hz2, ez⟩
        · show (e1 j).toNatClampNeg < n
          rw [ex, nI_clamp (by omega)]; exact hx
        · show (e2 j).toNatClampNeg < n
          rw [ey, nI_clamp (by omega)]; exact hy
      · exact ih e he
