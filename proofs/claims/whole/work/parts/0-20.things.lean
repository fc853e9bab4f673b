/-! ===== layer 2: the class's step over its things ===== -/
section TH
variable {I I0 : Nat → Int32} {A A0 : Nat → Nat → Int32} {T : Nat → Option Nat} {L : List Nat} {K : Nat → Nat} {F F0 : Nat → Nat → Int32} {J : Nat → Int32} {B : Nat → Nat → Int32} {n m : Nat} {q : Nat} {kd on tw th fo lv li la a1 : Int32} {P : Int32 → Prop} {f : Nat → Int32}
theorem C_strokes (hq : q ∈ L) (h : thq (K q) f kd on tw th fo lv li la) (p : P (if (1 : Int32) ≤ kd ∧ kd ≤ 3 then a1 else 0)) : gd_strokesOf L K q a1 P := by
  rcases h with h | h | h | h | h | h
  · rw [h.2.1, if_pos (by decide)] at p; exact ⟨hq, Or.inr (Or.inl ⟨h.1, p⟩)⟩
  · rw [h.2.1, if_pos (by decide)] at p; exact ⟨hq, Or.inr (Or.inr (Or.inr (Or.inr (Or.inl ⟨h.1, p⟩))))⟩
  · rw [h.2.1, if_pos (by decide)] at p; exact ⟨hq, Or.inl ⟨h.1, p⟩⟩
  · rw [h.2.1, if_neg (by decide)] at p; exact ⟨hq, Or.inr (Or.inr (Or.inr (Or.inr (Or.inr ⟨h.1, p⟩))))⟩
  · rw [h.2.1, if_neg (by decide)] at p; exact ⟨hq, Or.inr (Or.inr (Or.inl ⟨h.1, p⟩))⟩
  · rw [if_neg (by rcases h.2.2.2.2.2.1 with ⟨-, z⟩ | ⟨-, z⟩ <;> rw [z] <;> decide)] at p; exact ⟨hq, Or.inr (Or.inr (Or.inr (Or.inl ⟨h.1, p⟩)))⟩
theorem C_gives (hq : q ∈ L) (h : thq (K q) f kd on tw th fo lv li la) (p : P (bI (decide (kd = 4)))) : gd_givesAndTakes L K q P := by
  rcases h with h | h | h | h | h | h
  · rw [h.2.1] at p; exact ⟨hq, Or.inr (Or.inl ⟨h.1, p⟩)⟩
  · rw [h.2.1] at p; exact ⟨hq, Or.inr (Or.inr (Or.inr (Or.inr (Or.inl ⟨h.1, p⟩))))⟩
  · rw [h.2.1] at p; exact ⟨hq, Or.inl ⟨h.1, p⟩⟩
  · rw [h.2.1] at p; exact ⟨hq, Or.inr (Or.inr (Or.inr (Or.inr (Or.inr ⟨h.1, p⟩))))⟩
  · rw [h.2.1] at p; exact ⟨hq, Or.inr (Or.inr (Or.inl ⟨h.1, p⟩))⟩
  · rcases h.2.2.2.2.2.1 with ⟨-, z⟩ | ⟨-, z⟩
    · rw [z] at p; exact ⟨hq, Or.inr (Or.inr (Or.inr (Or.inl ⟨h.1, p⟩)))⟩
    · rw [z] at p; exact ⟨hq, Or.inr (Or.inr (Or.inr (Or.inl ⟨h.1, p⟩)))⟩
theorem C_burns (hq : q ∈ L) (h : thq (K q) f kd on tw th fo lv li la) (hF : kd = 5 → F q = f) (p : P (if kd = 5 ∧ ¬ li = 0 ∧ a1 - a1 / 4 * 4 = 3 then th else 0)) : gd_burns L K F q a1 P := by
  rcases h with h | h | h | h | h | h
  · rw [h.2.1, if_neg (fun z => absurd z.1 (by decide))] at p; exact ⟨hq, Or.inr (Or.inl ⟨h.1, p⟩)⟩
  · rw [h.2.1, if_neg (fun z => absurd z.1 (by decide))] at p; exact ⟨hq, Or.inr (Or.inr (Or.inr (Or.inr (Or.inl ⟨h.1, p⟩))))⟩
  · rw [h.2.1, if_neg (fun z => absurd z.1 (by decide))] at p; exact ⟨hq, Or.inl ⟨h.1, p⟩⟩
  · rw [h.2.1, if_neg (fun z => absurd z.1 (by decide))] at p; exact ⟨hq, Or.inr (Or.inr (Or.inr (Or.inr (Or.inr ⟨h.1, p⟩))))⟩
  · refine ⟨hq, Or.inr (Or.inr (Or.inl ⟨h.1, ?_⟩))⟩
    obtain ⟨e0, e1, e2, e3, e4, e5, e6, e7, -⟩ := h
    show (F q 5 = 0 → P 0) ∧ (¬ F q 5 = 0 → ((¬ a1 - a1 / 4 * 4 = 3 → P 0) ∧ (a1 - a1 / 4 * 4 = 3 → P (F q 4))))
    rw [hF e1, e7, e6]
    by_cases c : li = 0
    · rw [if_neg (fun z => z.2.1 c)] at p; exact c2t c p
    · refine c2f c ?_
      by_cases c2 : a1 - a1 / 4 * 4 = 3
      · rw [if_pos ⟨e1, c, c2⟩] at p; exact n2t c2 p
      · rw [if_neg (fun z => c2 z.2.2)] at p; exact n2f c2 p
  · rw [if_neg (fun z => by rcases h.2.2.2.2.2.1 with ⟨-, y⟩ | ⟨-, y⟩ <;> (rw [y] at z; exact absurd z.1 (by decide)))] at p; exact ⟨hq, Or.inr (Or.inr (Or.inr (Or.inl ⟨h.1, p⟩)))⟩
theorem C_tfill {P : Int32 → (Nat → Nat → Int32) → Prop} {a2 : Int32} (hq : q ∈ L) (hK : K q = 9) (p : P (if (0 : Int32) < (if F q 2 ≤ 0 then a1 else F q 2 - a2) - F q 1 then (if F q 2 ≤ 0 then a1 else F q 2 - a2) - F q 1 else 0) (sF F q 2 (if (0 : Int32) < (if (if F q 2 ≤ 0 then a1 else F q 2 - a2) < F q 1 then (if F q 2 ≤ 0 then a1 else F q 2 - a2) else F q 1) then (if (if F q 2 ≤ 0 then a1 else F q 2 - a2) < F q 1 then (if F q 2 ≤ 0 then a1 else F q 2 - a2) else F q 1) else 0))) : gd_fill L K F q a1 a2 P := by
  refine ⟨hq, Or.inr (Or.inr (Or.inr (Or.inr (Or.inr ⟨hK, ?_⟩))))⟩
  have h17 : ∀ s : Int32, P (if (0 : Int32) < s - F q 1 then s - F q 1 else 0) (sF F q 2 (if (0 : Int32) < (if s < F q 1 then s else F q 1) then (if s < F q 1 then s else F q 1) else 0)) → g_To_fill_To_17 q a1 a2 P F s := by
    intro s hs
    unfold g_To_fill_To_17
    rw [sF_at]
    exact hs
  by_cases c : F q 2 ≤ 0
  · rw [if_pos c] at p; exact c2t c (h17 _ p)
  · rw [if_neg c] at p; exact c2f c (h17 _ p)
theorem C_flowOut_l {X : Int32 → Prop} {bits i : Nat} (n12 : n ≤ 12) (hm : Rmain n m (I 9) (J 1) (A 17) (A 18) (A 19) (B 14) (B 15) (B 16)) : ∀ (d j : Nat) (x : Int32), j + d = m → X (lp (fun j x => x + fTm (A 17) (A 18) (A 19) (A 9) bits i j) d j x) → g_Ne_flowOut_5 I A (nI i) (nI bits) P X (d + 1) x (nI j)
  | 0, j, x, hj, h => c2t (lit_le hm.2.1 (by omega) (by have := hm.1; omega)) h
  | d + 1, j, x, hj, h => by
    have m18 := hm.1
    have hin : vp_in (nI j) 18 := vin (by omega) (by omega)
    have hcl : (nI j).toNatClampNeg = j := nI_clamp (by omega)
    have h' : X (lp (fun j x => x + fTm (A 17) (A 18) (A 19) (A 9) bits i j) d (j + 1) (x + fTm (A 17) (A 18) (A 19) (A 9) bits i j)) := h
    have go : ∀ y : Int32, y = x + fTm (A 17) (A 18) (A 19) (A 9) bits i j → g_Ne_flowOut_77 I A (nI i) (nI bits) P (g_Ne_flowOut_5 I A (nI i) (nI bits) P X (d + 1)) y (nI j) := by
      intro y hy
      subst hy
      show g_Ne_flowOut_5 I A (nI i) (nI bits) P X (d + 1) _ (nI j + 1)
      rw [nI_1]
      exact C_flowOut_l n12 hm d (j + 1) _ (by omega) h'
    refine c2f (lit_lt hm.2.1 (by omega) (by omega)) (g_bit rfl rfl (by omega) ?_)
    cases e : bits.testBit j
    · refine c2t rfl (go x ?_)
      unfold fTm
      rw [e]
      exact (Int32.add_zero x).symm
    · refine c2f nz1 ⟨hin, ?_⟩
      rw [hcl]
      by_cases c1 : A 17 j = nI i
      · refine n2t c1 (C_flowOf n12 hm (by omega) (y1 (go _ ?_)))
        unfold fTm
        rw [e, if_pos rfl, if_pos c1]
      · refine n2f c1 ⟨hin, ?_⟩
        by_cases c2 : A 18 j = nI i
        · refine n2t c2 (C_flowOf n12 hm (by omega) (y1 (go _ ?_)))
          unfold fTm
          rw [e, if_pos rfl, if_neg c1, if_pos c2]
        · refine n2f c2 (y1 (go _ ?_))
          unfold fTm
          rw [e, if_pos rfl, if_neg c1, if_neg c2]
theorem C_flowOut {bits i : Nat} (n12 : n ≤ 12) (hm : Rmain n m (I 9) (J 1) (A 17) (A 18) (A 19) (B 14) (B 15) (B 16)) (hh : ∀ i, i < n → A 9 i = B 13 i) (p : P (sOut B bits m i)) : g_Ne_flowOut I A (nI i) (nI bits) P := by
  refine ⟨m + 1, C_flowOut_l n12 hm m 0 0 (by omega) ?_⟩
  unfold sOut at p
  rw [lp_cong (f := fun j x => x + fTm (A 17) (A 18) (A 19) (A 9) bits i j) (g := fun j x => x + fTm (B 14) (B 15) (B 16) (B 13) bits i j) m 0 0 (fun j x _ hj => by
    have hjm : j < m := by omega
    obtain ⟨q1, q2, -⟩ := hm.2.2.2 j hjm
    show x + fTm (A 17) (A 18) (A 19) (A 9) bits i j = x + fTm (B 14) (B 15) (B 16) (B 13) bits i j
    unfold fTm
    rw [flw_eq hm n12 hh hjm, q1, q2])]
  exact p
theorem tow_q (h : thq (K q) (F q) kd on tw th fo lv li la) (hk : kd = 4) : K q = 9 ∧ F q 1 = tw ∧ F q 2 = lv ∧ rg tw 1 100000 ∧ 0 ≤ lv.toInt ∧ lv.toInt ≤ tw.toInt := by
  rcases h with h | h | h | h | h | h
  · rw [h.2.1] at hk; exact absurd hk (by decide)
  · rw [h.2.1] at hk; exact absurd hk (by decide)
  · rw [h.2.1] at hk; exact absurd hk (by decide)
  · exact ⟨h.1, h.2.2.2.1, h.2.2.2.2.1, h.2.2.2.2.2.2.2.1, h.2.2.2.2.2.2.2.2⟩
  · rw [h.2.1] at hk; exact absurd hk (by decide)
  · rcases h.2.2.2.2.2.1 with ⟨-, y⟩ | ⟨-, y⟩ <;> (rw [y] at hk; exact absurd hk (by decide))
/-- the state behind the first j nodes of a step -/
def stI (B : Nat → Nat → Int32) (tick : Int32) (bits m j : Nat) (I I0 : Nat → Int32) : Prop :=
  (∀ c, c ≠ 1 → c ≠ 2 → c ≠ 3 → I c = I0 c) ∧ I 1 = lp (fun i x => x + bI (sDry B tick i)) j 0 (I0 1) ∧ I 2 = lp (fun i x => x + sSp B tick bits m i) j 0 (I0 2) ∧ I 3 = lp (fun i x => x + sBn B tick i) j 0 (I0 3)
def stA (B : Nat → Nat → Int32) (tick : Int32) (j : Nat) (A A0 : Nat → Nat → Int32) : Prop := (∀ c, c ≠ 0 → A c = A0 c) ∧ ∀ i, A 0 i = if i < j then A0 0 i + sStr B tick i else A0 0 i
def stF (B : Nat → Nat → Int32) (tick : Int32) (bits m j : Nat) (T : Nat → Option Nat) (F F0 : Nat → Nat → Int32) : Prop := ∀ i q, i < 12 → T i = some q → F q = if i < j ∧ B 2 i = 4 then va_up (F0 q) 2 (sLv B tick bits m i) else F0 q
theorem C_things_l {P : ((Nat → Int32) × (Nat → Nat → Int32) × (Nat → Nat → Int32)) → Prop} {X : (Nat → Int32) → (Nat → Nat → Int32) → (Nat → Nat → Int32) → Prop} {t bits : Nat} (n12 : n ≤ 12) (hn : I0 4 = nI n) (h0 : I0 0 = nI t) (ht : t < 2 ^ 31) (hm : Rmain n m (I0 9) (J 1) (A0 17) (A0 18) (A0 19) (B 14) (B 15) (B 16)) (h7 : ∀ i, i < n → A0 7 i = B 0 i) (h9 : ∀ i, i < n → A0 9 i = B 13 i) (h1 : ∀ i, i < n → A0 1 i = B 11 i)
    (hth : ∀ i, i < 12 → thI (T i) L K F0 (B 2 i) (B 3 i) (B 4 i) (B 5 i) (B 6 i) (B 7 i) (B 8 i) (B 9 i)) (hinj : ∀ i j q, i < 12 → j < 12 → T i = some q → T j = some q → i = j)
    (hX : ∀ I A F, stI B (nI t) bits m n I I0 → stA B (nI t) n A A0 → stF B (nI t) bits m n T F F0 → X I A F) : ∀ (d j : Nat) (I : Nat → Int32) (A F : Nat → Nat → Int32), j + d = n → stI B (nI t) bits m j I I0 → stA B (nI t) j A A0 → stF B (nI t) bits m j T F F0 → g_Pw_stepThings_2 T L K (nI bits) P X (d + 1) I A F (nI j)
  | 0, j, I, A, F, hj, hI, hA, hF => by
    have e : j = n := by omega
    subst e
    exact c2t (lit_le ((hI.1 4 (by decide) (by decide) (by decide)).trans hn) (Nat.le_refl _) (by omega)) (hX I A F hI hA hF)
  | d + 1, j, I, A, F, hj, hI, hA, hF => by
    have hjn : j < n := by omega
    have hin : vp_in (nI j) 12 := vin (by omega) (by omega)
    have hcl : (nI j).toNatClampNeg = j := nI_clamp (by omega)
    have hti := hth j (by omega)
    refine c2f (lit_lt ((hI.1 4 (by decide) (by decide) (by decide)).trans hn) (by omega) (by omega)) ⟨hin, ?_⟩
    rw [hcl]
    have next : ∀ I A F, stI B (nI t) bits m (j + 1) I I0 → stA B (nI t) (j + 1) A A0 → stF B (nI t) bits m (j + 1) T F F0 → g_Pw_stepThings_146 T L K (nI bits) P (g_Pw_stepThings_2 T L K (nI bits) P X (d + 1)) I A F (nI j) := by
      intro I A F q1 q2 q3
      show g_Pw_stepThings_2 T L K (nI bits) P X (d + 1) I A F (nI j + 1)
      rw [nI_1]
      exact C_things_l n12 hn h0 ht hm h7 h9 h1 hth hinj hX d (j + 1) I A F (by omega) q1 q2 q3
    have sn1 : ∀ (f : Nat → Int32) (a : Int32), lp (fun i x => x + f i) (j + 1) 0 a = lp (fun i x => x + f i) j 0 a + f j := fun f a => by rw [lp_snoc, Nat.zero_add]
    have stA_add : ∀ (A2 : Nat → Nat → Int32), (∀ c, c ≠ 0 → A2 c = A c) → (∀ i, A2 0 i = if i = j then A 0 i + sStr B (nI t) j else A 0 i) → stA B (nI t) (j + 1) A2 A0 := by
      intro A2 q1 q2
      refine ⟨fun c hc => by rw [q1 c hc]; exact hA.1 c hc, fun i => ?_⟩
      rw [q2 i, hA.2 i]
      by_cases e : i = j
      · subst e; rw [if_pos rfl, if_neg (Nat.lt_irrefl _), if_pos (Nat.lt_succ_self _)]
      · rw [if_neg e]
        by_cases c : i < j
        · rw [if_pos c, if_pos (by omega)]
        · rw [if_neg c, if_neg (by omega)]
    refine ⟨fun hT => ?_, fun q hT => ?_⟩
    · have k0 := (thI_none hti hT).1
      have e1 : sTk B (nI t) j = 0 := by unfold sTk; rw [k0, tkv_0]
      have e2 : sDry B (nI t) j = false := by
        unfold sDry
        rw [e1]
        exact decide_eq_false (fun z => z.1 (by decide))
      have e3 : sStr B (nI t) j = 0 := by
        unfold sStr
        rw [k0, if_neg (fun z => absurd z.1 (by decide))]
      have e4 : sSp B (nI t) bits m j = 0 := by
        unfold sSp
        rw [k0, if_neg (by decide)]
      have e5 : sBn B (nI t) j = 0 := by
        unfold sBn
        rw [k0, if_neg (fun z => absurd z.1 (by decide))]
      refine next I A F ⟨hI.1, ?_, ?_, ?_⟩ (stA_add A (fun _ _ => rfl) (fun i => ?_)) (fun i q' hi' hT' => ?_)
      · rw [sn1, e2, ← hI.2.1]; exact (Int32.add_zero _).symm
      · rw [sn1, e4, ← hI.2.2.1]; exact (Int32.add_zero _).symm
      · rw [sn1, e5, ← hI.2.2.2]; exact (Int32.add_zero _).symm
      · rw [e3, Int32.add_zero]
        by_cases e : i = j
        · rw [if_pos e]
        · rw [if_neg e]
      · rw [hF i q' hi' hT']
        by_cases e : i = j
        · subst e; rw [hT] at hT'; cases hT'
        · by_cases c : i < j
          · by_cases c2 : B 2 i = 4
            · rw [if_pos ⟨c, c2⟩, if_pos ⟨by omega, c2⟩]
            · rw [if_neg (fun z => c2 z.2), if_neg (fun z => c2 z.2)]
          · rw [if_neg (fun z => c z.1), if_neg (fun z => by omega)]
    · obtain ⟨hqL, hthq⟩ := thI_some hti hT
      have hFq : F q = F0 q := by rw [hF j q (by omega) hT, if_neg (fun z => Nat.lt_irrefl _ z.1)]
      have hti' : thI (T j) L K F (B 2 j) (B 3 j) (B 4 j) (B 5 j) (B 6 j) (B 7 j) (B 8 j) (B 9 j) := Or.inr ⟨q, hT, hqL, by rw [hFq]; exact hthq⟩
      have hI0 : I 0 = nI t := (hI.1 0 (by decide) (by decide) (by decide)).trans h0
      have hpr : A 9 j - 10 * A 7 j = sPr B j := by
        unfold sPr
        rw [hA.1 9 (by decide), hA.1 7 (by decide), h9 j hjn, h7 j hjn]
      -- behind the filling
      have s129 : ∀ I3 A3 F3, (∀ c, c ≠ 1 → c ≠ 2 → c ≠ 3 → I3 c = I0 c) → I3 1 = lp (fun i x => x + bI (sDry B (nI t) i)) (j + 1) 0 (I0 1) → I3 2 = lp (fun i x => x + sSp B (nI t) bits m i) (j + 1) 0 (I0 2) → I3 3 = lp (fun i x => x + sBn B (nI t) i) j 0 (I0 3) → stA B (nI t) (j + 1) A3 A0 → stF B (nI t) bits m (j + 1) T F3 F0 → g_Pw_stepThings_129 T L K (nI bits) P (g_Pw_stepThings_2 T L K (nI bits) P X (d + 1)) I3 A3 F3 (nI j) q := by
        intro I3 A3 F3 p1 p2 p3 p4 p5 p6
        refine C_burns hqL hthq (fun k5 => ?_) ?_
        · rw [p6 j q (by omega) hT, if_neg (fun z => by rw [k5] at z; exact absurd z.2 (by decide))]
        · rw [(p1 0 (by decide) (by decide) (by decide)).trans h0]
          refine next _ A3 F3 ⟨fun c c1 c2 c3 => by rw [va_un c3]; exact p1 c c1 c2 c3, ?_, ?_, ?_⟩ p5 p6
          · rw [va_un (by decide)]; exact p2
          · rw [va_un (by decide)]; exact p3
          · rw [vu_at, sn1, ← p4]; rfl
      have s98 : ∀ I2 A2, (∀ c, c ≠ 1 → c ≠ 2 → c ≠ 3 → I2 c = I0 c) → I2 1 = lp (fun i x => x + bI (sDry B (nI t) i)) (j + 1) 0 (I0 1) → I2 2 = lp (fun i x => x + sSp B (nI t) bits m i) j 0 (I0 2) → I2 3 = lp (fun i x => x + sBn B (nI t) i) j 0 (I0 3) → stA B (nI t) (j + 1) A2 A0 → g_Pw_stepThings_98 T L K (nI bits) P (g_Pw_stepThings_2 T L K (nI bits) P X (d + 1)) I2 A2 F (nI j) q (sGot B (nI t) j) := by
        intro I2 A2 p1 p2 p3 p4 p5
        refine C_gives hqL hthq ?_
        by_cases k4 : B 2 j = 4
        · rw [show decide (B 2 j = 4) = true from decide_eq_true k4]
          obtain ⟨hK9, f1, f2, -⟩ := tow_q hthq k4
          have hm2 : Rmain n m (I2 9) (J 1) (A2 17) (A2 18) (A2 19) (B 14) (B 15) (B 16) := by
            rw [p1 9 (by decide) (by decide) (by decide), p5.1 17 (by decide), p5.1 18 (by decide), p5.1 19 (by decide)]; exact hm
          refine c2f nz1 (C_flowOut n12 hm2 (fun i hi => by rw [p5.1 9 (by decide)]; exact h9 i hi) (C_tfill hqL hK9 ?_))
          rw [hFq, f1, f2]
          refine s129 _ A2 _ (fun c c1 c2 c3 => by rw [va_un c2]; exact p1 c c1 c2 c3) ?_ ?_ ?_ p5 (fun i q' hi' hT' => ?_)
          · rw [va_un (by decide)]; exact p2
          · rw [vu_at, sn1, ← p3]
            congr 1
            unfold sSp sNx
            rw [if_pos k4]
          · rw [va_un (by decide)]; exact p4
          · by_cases e : q' = q
            · subst e
              have := hinj i j q' hi' (by omega) hT' hT
              subst this
              rw [sF_at, hFq, if_pos (show i < i + 1 ∧ B 2 i = 4 from ⟨Nat.lt_succ_self _, k4⟩)]
              rfl
            · rw [sF_ne e, hF i q' hi' hT']
              have hij : i ≠ j := by rintro rfl; rw [hT] at hT'; cases hT'; exact e rfl
              by_cases c : i < j
              · by_cases c2 : B 2 i = 4
                · rw [if_pos ⟨c, c2⟩, if_pos ⟨by omega, c2⟩]
                · rw [if_neg (fun z => c2 z.2), if_neg (fun z => c2 z.2)]
              · rw [if_neg (fun z => c z.1), if_neg (fun z => by omega)]
        · rw [show decide (B 2 j = 4) = false from decide_eq_false k4]
          have e4 : sSp B (nI t) bits m j = 0 := by unfold sSp; rw [if_neg k4]
          refine c2t rfl (s129 I2 A2 F p1 p2 ?_ p4 p5 (fun i q' hi' hT' => ?_))
          · rw [sn1, e4, ← p3]; exact (Int32.add_zero _).symm
          · rw [hF i q' hi' hT']
            by_cases e : i = j
            · subst e; rw [if_neg (fun z => k4 z.2), if_neg (fun z => k4 z.2)]
            · by_cases c : i < j
              · by_cases c2 : B 2 i = 4
                · rw [if_pos ⟨c, c2⟩, if_pos ⟨by omega, c2⟩]
                · rw [if_neg (fun z => c2 z.2), if_neg (fun z => c2 z.2)]
              · rw [if_neg (fun z => c z.1), if_neg (fun z => by omega)]
      have s74 : ∀ I2, (∀ c, c ≠ 1 → c ≠ 2 → c ≠ 3 → I2 c = I0 c) → I2 1 = lp (fun i x => x + bI (sDry B (nI t) i)) (j + 1) 0 (I0 1) → I2 2 = I 2 → I2 3 = I 3 → ∀ g : Int32, g = sGot B (nI t) j → g_Pw_stepThings_74 T L K (nI bits) P (g_Pw_stepThings_2 T L K (nI bits) P X (d + 1)) I2 A F (nI j) q g := by
        intro I2 p1 p2 p3 p4 g hg
        subst hg
        refine ⟨hin, ?_⟩
        rw [hcl, hA.1 1 (by decide), h1 j hjn]
        refine ⟨fun z => ?_, fun z => ⟨hin, C_strokes hqL hthq ⟨hin, ?_⟩⟩⟩
        · refine s98 I2 A p1 p2 (p3.trans hI.2.2.1) (p4.trans hI.2.2.2) (stA_add A (fun _ _ => rfl) (fun i => ?_))
          have e3 : sStr B (nI t) j = 0 := by unfold sStr; rw [if_neg (fun y => z y.2)]
          rw [e3, Int32.add_zero]
          by_cases e : i = j
          · rw [if_pos e]
          · rw [if_neg e]
        · refine s98 I2 _ p1 p2 (p3.trans hI.2.2.1) (p4.trans hI.2.2.2) (stA_add _ (fun c hc => sA_ne hc) (fun i => ?_))
          rw [sA_at, hcl]
          by_cases e : i = j
          · subst e
            rw [up_at, if_pos rfl]
            congr 1
            unfold sStr
            by_cases c : (1 : Int32) ≤ B 2 i ∧ B 2 i ≤ 3
            · rw [if_pos c, if_pos ⟨c, z⟩]
            · rw [if_neg c, if_neg (fun y => c y.1)]
          · rw [up_ne e, if_neg e]
      refine C_taken (by omega) ht hI0 hti' ?_
      rw [hpr, hI0]
      show (sTk B (nI t) j < 1 → _) ∧ (¬ sTk B (nI t) j < 1 → _)
      have nodry : sDry B (nI t) j = false → g_Pw_stepThings_74 T L K (nI bits) P (g_Pw_stepThings_2 T L K (nI bits) P X (d + 1)) I A F (nI j) q (sTk B (nI t) j) := by
        intro hd
        refine s74 I hI.1 ?_ rfl rfl _ ?_
        · rw [sn1, hd, ← hI.2.1]; exact (Int32.add_zero _).symm
        · unfold sGot; rw [hd]; rfl
      refine ⟨fun c => nodry (decide_eq_false (fun z => z.1 c)), fun c => ⟨hin, hin, ?_⟩⟩
      rw [hcl, hpr]
      refine ⟨fun c2 => nodry (decide_eq_false (fun z => c2 z.2)), fun c2 => ?_⟩
      have hd : sDry B (nI t) j = true := decide_eq_true ⟨c, c2⟩
      refine s74 _ (fun c c1 _ _ => ?_) ?_ (va_un (by decide)) (va_un (by decide)) 0 ?_
      · rw [va_un c1]; exact hI.1 c c1 (by assumption) (by assumption)
      · rw [vu_at, sn1, hd, ← hI.2.1]; rfl
      · unfold sGot; rw [hd]; rfl
end TH
