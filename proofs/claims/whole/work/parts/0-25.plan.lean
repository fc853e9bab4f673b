/-! ===== layer 2: the plan of a day ===== -/
theorem nI_sb {a b : Nat} (h : b ≤ a) : nI a - nI b = nI (a - b) := by
  have : nI a = nI (a - b) + nI b := by rw [nI_add, Nat.sub_add_cancel h]
  rw [this, Int32.add_sub_cancel]
theorem nI_sbn {a b : Nat} (h : a < b) (hb : b < 2 ^ 31) : ¬ 0 ≤ nI a - nI b := by
  intro c
  have e : nI a - nI b = 0 - nI (b - a) := by
    have : nI b = nI (b - a) + nI a := by rw [nI_add, Nat.sub_add_cancel (Nat.le_of_lt h)]
    rw [this]
    rw [Int32.sub_eq_iff_eq_add]
    rw [← Int32.add_assoc, Int32.sub_add_cancel, Int32.zero_add]
  rw [e, fa_le, Int32.toInt_sub, nI_toInt (by omega)] at c
  have e0 : (0 : Int32).toInt = 0 := by decide
  rw [e0, Int.bmod_eq_of_le (by omega) (by omega)] at c
  omega
theorem sm3_le {g : Nat → Nat} {s : Nat} (h : ∀ i, i < 3 → g i ≤ 100) : sm3 g s ≤ 300 := by
  have h0 := h 0 (by omega)
  have h1 := h 1 (by omega)
  have h2 := h 2 (by omega)
  unfold sm3
  split <;> split <;> split <;> omega
theorem sm3_cong {g g2 : Nat → Nat} (s : Nat) (h : ∀ i, i < 3 → g i = g2 i) : sm3 g s = sm3 g2 s := by
  unfold sm3
  rw [h 0 (by omega), h 1 (by omega), h 2 (by omega)]
/-- what is left behind a block, above its need -/
def wb (gv : Nat → Nat) (a lit w : Nat) : Nat := min 200 (w + sm3 gv (a &&& lit))
def cv (nd gv cl : Nat → Nat) (d b a lit w : Nat) : Nat := sm3 cl lit + if wb gv a lit w < nd b then 1000000 else lc nd gv cl d (b + 1) lit (wb gv a lit w - nd b)
def lstep (nd gv cl : Nat → Nat) (d b a w lit best : Nat) : Nat := min best (if wb gv a lit w < nd b then 1000000 else sm3 cl lit + lc nd gv cl d (b + 1) lit (wb gv a lit w - nd b))
theorem lc_succ (nd gv cl : Nat → Nat) (d b a w : Nat) : lc nd gv cl (d + 1) b a w = lp (lstep nd gv cl d b a w) 8 0 1000000 := rfl
theorem lstep_cv {nd gv cl : Nat → Nat} {d b a w lit best : Nat} (h : best ≤ 1000000) : lstep nd gv cl d b a w lit best = min best (cv nd gv cl d b a lit w) := by
  unfold lstep cv
  split <;> omega
theorem lp_le {nd gv cl : Nat → Nat} {d b a w : Nat} : ∀ (e j x : Nat), x ≤ 1000000 → lp (lstep nd gv cl d b a w) e j x ≤ 1000000
  | 0, _, _, h => h
  | e + 1, j, x, h => lp_le e (j + 1) _ (by unfold lstep; omega)
theorem lc_le (nd gv cl : Nat → Nat) : ∀ (d b a w : Nat), lc nd gv cl d b a w ≤ 1000000
  | 0, _, _, _ => by show 0 ≤ _; omega
  | d + 1, b, a, w => by rw [lc_succ]; exact lp_le _ _ _ (Nat.le_refl _)
theorem lp_min {nd gv cl : Nat → Nat} {d b a w : Nat} : ∀ (e j x : Nat), x ≤ 1000000 → lp (lstep nd gv cl d b a w) e j x ≤ x ∧ (∀ i, j ≤ i → i < j + e → lp (lstep nd gv cl d b a w) e j x ≤ cv nd gv cl d b a i w) ∧ (lp (lstep nd gv cl d b a w) e j x = x ∨ ∃ i, j ≤ i ∧ i < j + e ∧ lp (lstep nd gv cl d b a w) e j x = cv nd gv cl d b a i w)
  | 0, j, x, h => ⟨Nat.le_refl _, fun i h1 h2 => by omega, Or.inl rfl⟩
  | e + 1, j, x, h => by
    have hs := lstep_cv (nd := nd) (gv := gv) (cl := cl) (d := d) (b := b) (a := a) (w := w) (lit := j) h
    obtain ⟨h1, h2, h3⟩ := lp_min (nd := nd) (gv := gv) (cl := cl) (d := d) (b := b) (a := a) (w := w) e (j + 1) (lstep nd gv cl d b a w j x) (by omega)
    have e1 : lp (lstep nd gv cl d b a w) (e + 1) j x = lp (lstep nd gv cl d b a w) e (j + 1) (lstep nd gv cl d b a w j x) := rfl
    rw [e1]
    refine ⟨by omega, fun i hi1 hi2 => ?_, ?_⟩
    · rcases Nat.eq_or_lt_of_le hi1 with q | q
      · subst q; omega
      · exact h2 i q (by omega)
    · rcases h3 with q | ⟨i, q1, q2, q3⟩
      · rw [hs] at q
        by_cases c : x ≤ cv nd gv cl d b a j w
        · left; rw [hs]; rw [q]; omega
        · right; exact ⟨j, Nat.le_refl _, by omega, by rw [hs]; rw [q]; omega⟩
      · exact Or.inr ⟨i, by omega, by omega, q3⟩
theorem lc_cong {nd gv cl nd2 gv2 cl2 : Nat → Nat} (hg : ∀ i, i < 3 → gv i = gv2 i) (hc : ∀ i, i < 3 → cl i = cl2 i) : ∀ (d b a w : Nat), (∀ i, b ≤ i → i < b + d → nd i = nd2 i) → lc nd gv cl d b a w = lc nd2 gv2 cl2 d b a w
  | 0, _, _, _, _ => rfl
  | d + 1, b, a, w, h => by
    rw [lc_succ, lc_succ]
    refine lp_cong _ _ _ fun lit best _ _ => ?_
    unfold lstep wb
    rw [sm3_cong _ hg, sm3_cong _ hc, h b (Nat.le_refl _) (by omega), lc_cong hg hc d (b + 1) lit _ (fun i h1 h2 => h i (by omega) (by omega))]
/-- the class's tables -/
def stt (bk : Nat) (nd gv cl : Nat → Nat) (I : Nat → Int32) (A : Nat → Nat → Int32) : Prop :=
  bk ≤ 8 ∧ I 14 = nI bk ∧ (∀ i, i < bk → A 25 i = nI (nd i) ∧ nd i ≤ 100) ∧ (∀ s, s < 8 → A 28 s = nI (sm3 gv s) ∧ A 29 s = nI (sm3 cl s)) ∧ ∀ i, i < 3 → gv i ≤ 100 ∧ cl i ≤ 100
def mem (bk : Nat) (nd gv cl : Nat → Nat) (f : Nat → Int32) : Prop := ∀ b s w, b < bk → s < 8 → w ≤ 200 → f ((b * 8 + s) * 201 + w) = -1 ∨ f ((b * 8 + s) * 201 + w) = nI (lc nd gv cl (bk - b) b s w)
section PLAN
variable {bk : Nat} {nd gv cl : Nat → Nat} {I : Nat → Int32} {A : Nat → Nat → Int32}
theorem stt.fr {A' : Nat → Nat → Int32} (h : stt bk nd gv cl I A) (e : ∀ c, c ≠ 30 → A' c = A c) : stt bk nd gv cl I A' := by
  unfold stt
  rw [e 25 (by omega), e 28 (by omega), e 29 (by omega)]
  exact h
theorem and8 {a b : Nat} (h : a < 8) : a &&& b < 8 := Nat.lt_of_le_of_lt Nat.and_le_left h
theorem C_behind {b a w : Nat} {P : Int32 → Prop} (h : stt bk nd gv cl I A) (hb : b < bk) (ha : a < 8) (hw : w ≤ 200) (p : P (nI (min 200 (w + sm3 gv a)) - nI (nd b))) : g_Pl_weightsBehind A (nI b) (nI a) (nI w) P := by
  obtain ⟨b8, -, hn, hs, hg⟩ := h
  refine ⟨vin ha (by omega), vin (by omega) (by omega), ?_⟩
  rw [nI_clamp (by omega), nI_clamp (by omega), (hs a ha).1, (hn b hb).1, nI_add]
  have hl : sm3 gv a ≤ 300 := sm3_le (fun i hi => (hg i hi).1)
  have e : (if nI (w + sm3 gv a) < (200 : Int32) then nI (w + sm3 gv a) else (200 : Int32)) = nI (min 200 (w + sm3 gv a)) := by
    rw [show (200 : Int32) = nI 200 from rfl]
    by_cases c : w + sm3 gv a < 200
    · rw [if_pos (nI_lt c (by omega))]; congr 1; omega
    · rw [if_neg (nI_nlt (by omega) (by omega))]; congr 1; omega
  rw [e]
  exact p
def lsp (bk : Nat) (nd gv cl : Nat → Nat) (I : Nat → Int32) (d : Nat) : Prop := ∀ (A : Nat → Nat → Int32) (b s w : Nat) (P : Int32 → (Nat → Nat → Int32) → Prop), bk - b < d → b ≤ bk → s < 8 → w ≤ 200 → stt bk nd gv cl I A → mem bk nd gv cl (A 30) →
  (∀ A', (∀ c, c ≠ 30 → A' c = A c) → mem bk nd gv cl (A' 30) → P (nI (lc nd gv cl (bk - b) b s w)) A') → G_least d I A (nI b) (nI s) (nI w) P
theorem C_coal {d b s w lit : Nat} {P : Int32 → (Nat → Nat → Int32) → Prop} (hd : lsp bk nd gv cl I d) (hb : b < bk) (hbd : bk - (b + 1) < d) (hs : s < 8) (hlit : lit < 8) (hw : w ≤ 200) (h : stt bk nd gv cl I A) (hm : mem bk nd gv cl (A 30))
    (hP : ∀ A', (∀ c, c ≠ 30 → A' c = A c) → mem bk nd gv cl (A' 30) → P (nI (cv nd gv cl (bk - (b + 1)) b s lit w)) A') : g_Pl_coalIfLit I A (nI b) (nI s) (nI lit) (nI w) (G_least d) P := by
  refine ⟨vin hlit (by omega), ?_⟩
  rw [fa_and]
  refine C_behind h hb (and8 hs) hw ?_
  show G_least d I A (nI b + 1) (nI lit) _ _
  rw [nI_1, nI_clamp (by omega), (h.2.2.2.1 lit hlit).2]
  have hnd := (h.2.2.1 b hb).2
  by_cases c : min 200 (w + sm3 gv (s &&& lit)) < nd b
  · cases d with
    | zero => omega
    | succ d =>
      refine ⟨fun q => absurd q (nI_sbn c (by omega)), fun _ => ?_⟩
      have := hP A (fun _ _ => rfl) hm
      unfold cv wb at this
      rw [if_pos c] at this
      show P (nI (sm3 cl lit) + nI 1000000) A
      rw [nI_add]
      exact this
  · rw [nI_sb (by omega)]
    refine hd A (b + 1) lit _ _ hbd (by omega) hlit (by omega) h hm fun A' e hm' => ?_
    have := hP A' e hm'
    unfold cv wb at this
    rw [if_neg c] at this
    show P (nI (sm3 cl lit) + nI _) A'
    rw [nI_add]
    exact this
theorem C_least_l {d b s w : Nat} {P : Int32 → (Nat → Nat → Int32) → Prop} {X : (Nat → Nat → Int32) → Int32 → Int32 → Prop} {y : Int32} (hd : lsp bk nd gv cl I d) (hb : b < bk) (hbd : bk - (b + 1) < d) (hs : s < 8) (hw : w ≤ 200) : ∀ (r j best : Nat) (A : Nat → Nat → Int32), j + r = 8 → best ≤ 1000000 → stt bk nd gv cl I A → mem bk nd gv cl (A 30) →
    (∀ A', (∀ c, c ≠ 30 → A' c = A c) → mem bk nd gv cl (A' 30) → X A' y (nI (lp (lstep nd gv cl (bk - (b + 1)) b s w) r j best))) → g_Pl_leastCoal_49 I (nI b) (nI s) (nI w) (G_least d) P X (r + 1) A y (nI best) (nI j)
  | 0, j, best, A, hj, hbest, h, hm, hX => by
    have e : j = 8 := by omega
    subst e
    exact c2t (by decide) (hX A (fun _ _ => rfl) hm)
  | r + 1, j, best, A, hj, hbest, h, hm, hX => by
    refine c2f (nI_ge (b := 8) (by omega) (by omega)) (C_coal hd hb hbd hs (by omega) hw h hm fun A' e hm' => y1 ?_)
    have hs1 := lstep_cv (nd := nd) (gv := gv) (cl := cl) (d := bk - (b + 1)) (b := b) (a := s) (w := w) (lit := j) hbest
    have hcv : cv nd gv cl (bk - (b + 1)) b s j w ≤ 1000300 := by
      have h1 : sm3 cl j ≤ 300 := sm3_le (fun i hi => (h.2.2.2.2 i hi).2)
      have h2 := lc_le nd gv cl (bk - (b + 1)) (b + 1) j (wb gv s j w - nd b)
      unfold cv
      split <;> omega
    have e2 : (if nI (cv nd gv cl (bk - (b + 1)) b s j w) < nI best then nI (cv nd gv cl (bk - (b + 1)) b s j w) else nI best) = nI (lstep nd gv cl (bk - (b + 1)) b s w j best) := by
      rw [hs1]
      by_cases c : cv nd gv cl (bk - (b + 1)) b s j w < best
      · rw [if_pos (nI_lt c (by omega))]; congr 1; omega
      · rw [if_neg (nI_nlt (by omega) (by omega))]; congr 1; omega
    rw [e2, nI_1]
    refine C_least_l hd hb hbd hs hw r (j + 1) _ A' (by omega) (by omega) (h.fr e) hm' fun A'' e' hm'' => ?_
    exact hX A'' (fun c hc => (e' c hc).trans (e c hc)) hm''
theorem C_least : ∀ d, lsp bk nd gv cl I d
  | 0 => fun A b s w P h => absurd h (by omega)
  | d + 1 => by
    intro A b s w P hbd hb hs hw h hm hP
    refine c2t (nI_pos' (by omega)) ?_
    have b8 := h.1
    by_cases c : b = bk
    · subst c
      have := hP A (fun _ _ => rfl) hm
      rw [Nat.sub_self] at this
      refine c2f ?_ this
      rw [h.2.1]; exact nI_nlt (Nat.le_refl _) (by omega)
    · refine c2t (by rw [h.2.1]; exact nI_lt (by omega) (by omega)) ?_
      have ey : (((nI b * (8 : Int32)) + nI s) * (201 : Int32)) + nI w = nI ((b * 8 + s) * 201 + w) := by
        rw [show (8 : Int32) = nI 8 from rfl, show (201 : Int32) = nI 201 from rfl, pk_mul, nI_add, pk_mul, nI_add]
      have hix : (b * 8 + s) * 201 + w < 12864 := by omega
      refine y1 ?_
      rw [ey, nI_clamp (by omega)]
      refine ⟨vin hix (by omega), ?_⟩
      refine ⟨fun hne => ⟨vin hix (by omega), ?_⟩, fun he => ⟨9, ?_⟩⟩
      · rw [nI_clamp (by omega)]
        have := hP A (fun _ _ => rfl) hm
        rcases hm b s w (by omega) hs hw with q | q
        · exact absurd q hne
        · rw [q]; exact this
      · refine C_least_l (C_least d) (by omega) (by omega) hs hw 8 0 1000000 A (by omega) (Nat.le_refl _) h hm fun A' e hm' => ?_
        rw [← lc_succ, show bk - (b + 1) + 1 = bk - b by omega]
        refine ⟨vin hix (by omega), vin hix (by omega), ?_⟩
        rw [sA_at, nI_clamp (by omega), up_at]
        refine hP _ (fun c hc => ?_) ?_
        · rw [sA_ne hc]; exact e c hc
        · rw [sA_at, nI_clamp (by omega)]
          intro b2 s2 w2 hb2 hs2 hw2
          by_cases q : (b2 * 8 + s2) * 201 + w2 = (b * 8 + s) * 201 + w
          · have e1 : b2 = b := by omega
            have e2 : s2 = s := by omega
            have e3 : w2 = w := by omega
            subst e1 e2 e3
            rw [up_at]; exact Or.inr rfl
          · rw [up_ne q]; exact hm' b2 s2 w2 hb2 hs2 hw2
theorem C_sum {k1 s : Nat} {g : Nat → Nat} {P : Int32 → Prop} (h3 : lenC k1 = 3) (hg : ∀ i, i < 3 → A k1 i = nI (g i)) (p : P (nI (sm3 g s))) : g_Pl_sumOf A k1 (nI s) P := by
  refine ⟨4, ?_⟩
  have stp : ∀ (n j x : Nat) (X : Int32 → Prop), j < 3 → g_Pl_sumOf_4 A k1 (nI s) P X n (nI (x + (if s.testBit j then g j else 0))) (nI (j + 1)) → g_Pl_sumOf_4 A k1 (nI s) P X (n + 1) (nI x) (nI j) := by
    intro n j x X hj q
    refine c2f (nI_ge (b := 3) hj (by omega)) (g_bit rfl rfl (by omega) ?_)
    cases hb : s.testBit j
    · rw [hb] at q
      refine c2t rfl ?_
      show g_Pl_sumOf_4 A k1 (nI s) P X n (nI x) (nI j + 1)
      rw [nI_1]; exact q
    · rw [hb] at q
      refine c2f nz1 ⟨by rw [h3]; exact vin hj (by omega), y1 ?_⟩
      show g_Pl_sumOf_4 A k1 (nI s) P X n (nI x + A k1 (nI j).toNatClampNeg) (nI j + 1)
      rw [nI_1, nI_clamp (by omega), hg j hj, nI_add]; exact q
  refine stp 3 0 0 _ (by omega) (stp 2 1 _ _ (by omega) (stp 1 2 _ _ (by omega) (c2t (by decide) ?_)))
  have e : 0 + (if s.testBit 0 then g 0 else 0) + (if s.testBit 1 then g 1 else 0) + (if s.testBit 2 then g 2 else 0) = sm3 g s := by unfold sm3; omega
  rw [e]; exact p
def prA (gv cl : Nat → Nat) (A : Nat → Nat → Int32) (j : Nat) : Nat → Nat → Int32 := va_up (va_up A 28 (fa_fill (fun s => nI (sm3 gv s)) (A 28) j)) 29 (fa_fill (fun s => nI (sm3 cl s)) (A 29) j)
theorem C_prep_l {P : ((Nat → Int32) × (Nat → Nat → Int32)) → Prop} {X : (Nat → Int32) → (Nat → Nat → Int32) → Prop} (h26 : ∀ i, i < 3 → A 26 i = nI (gv i)) (h27 : ∀ i, i < 3 → A 27 i = nI (cl i)) : ∀ (d j : Nat), j + d = 8 → X I (prA gv cl A 8) → g_Pl_prepare_10 P X (d + 1) I (prA gv cl A j) (nI j)
  | 0, j, hj, h => by
    have e : j = 8 := by omega
    subst e
    exact c2t (by decide) h
  | d + 1, j, hj, h => by
    refine c2f (nI_ge (b := 8) (by omega) (by omega)) (C_sum (g := gv) rfl h26 ⟨vin (by omega) (by omega), C_sum (g := cl) rfl h27 ⟨vin (by omega) (by omega), ?_⟩⟩)
    rw [nI_1]
    have e : sA (sA (prA gv cl A j) 28 (nI j) (nI (sm3 gv j))) 29 (nI j) (nI (sm3 cl j)) = prA gv cl A (j + 1) := by
      funext c
      by_cases c9 : c = 29
      · subst c9
        rw [sA_at, nI_clamp (by omega), sA_ne (by omega)]
        exact fa_fill_succ (fun s => nI (sm3 cl s)) (A 29) j
      · rw [sA_ne c9]
        by_cases c8 : c = 28
        · subst c8
          rw [sA_at, nI_clamp (by omega)]
          exact fa_fill_succ (fun s => nI (sm3 gv s)) (A 28) j
        · rw [sA_ne c8]
          show va_up _ 29 _ c = va_up _ 29 _ c
          rw [va_un c9, va_un c8, va_un c9, va_un c8]
    rw [e]
    exact C_prep_l h26 h27 d (j + 1) (by omega) h
end PLAN
