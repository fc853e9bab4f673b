/-! ===== layer 2: the model's step ===== -/
section MS
variable {J J0 : Nat → Int32} {B B0 : Nat → Nat → Int32} {n m v t bits : Nat}
def sSrc (B : Nat → Nat → Int32) (tick : Int32) (i : Nat) : Bool := srcB (B 2 i) (B 7 i) (B 8 i) (B 4 i) (B 9 i) tick
def stM1 (B0 : Nat → Nat → Int32) (tick : Int32) (j : Nat) (B : Nat → Nat → Int32) : Prop :=
  (∀ c, c ≠ 10 → c ≠ 31 → c ≠ 32 → B c = B0 c) ∧ B 10 = fa_fill (fun i => B0 10 i + sStr B0 tick i) (B0 10) j ∧ B 31 = fa_fill (sGot B0 tick) (B0 31) j ∧ B 32 = fa_fill (fun i => bI (sSrc B0 tick i)) (B0 32) j
theorem M_st1_l {P : Int32 → ((Nat → Int32) × (Nat → Nat → Int32)) → Prop} {X : (Nat → Int32) → (Nat → Nat → Int32) → Int32 → Prop} (hk : mOk n m v t bits J B0) (hX : ∀ B2, stM1 B0 (nI t) n B2 → X J B2 (lp (fun i x => x + bI (sDry B0 (nI t) i)) n 0 0)) : ∀ (d j : Nat) (B : Nat → Nat → Int32), j + d = n → stM1 B0 (nI t) j B → g_Mo_stepOnce_9 P X (d + 1) J B (lp (fun i x => x + bI (sDry B0 (nI t) i)) j 0 0) (nI j)
  | 0, j, B, hj, hB => by
    have n12 := hk.2.2.2.2.1
    have e : j = n := by omega
    subst e
    exact c2t (lit_le hk.1 (Nat.le_refl _) (by omega)) (hX B hB)
  | d + 1, j, B, hj, hB => by
    have n12 := hk.2.2.2.2.1
    have h3 := hk.2.2.2.1
    have hjn : j < n := by omega
    have hin : vp_in (nI j) 12 := vin (by omega) (by omega)
    have hcl : (nI j).toNatClampNeg = j := nI_clamp (by omega)
    obtain ⟨hf, h10, h31, h32⟩ := hB
    have sn1 : lp (fun i x => x + bI (sDry B0 (nI t) i)) (j + 1) 0 0 = lp (fun i x => x + bI (sDry B0 (nI t) i)) j 0 0 + bI (sDry B0 (nI t) j) := by rw [lp_snoc, Nat.zero_add]
    -- behind strokes
    have nxt107 : ∀ (B3 : Nat → Nat → Int32) (x : Int32), (∀ c, c ≠ 10 → c ≠ 31 → c ≠ 32 → B3 c = B0 c) → B3 10 = B 10 → B3 31 = fa_fill (sGot B0 (nI t)) (B0 31) (j + 1) → B3 32 = fa_fill (fun i => bI (sSrc B0 (nI t) i)) (B0 32) (j + 1) → x = sStr B0 (nI t) j → g_Mo_stepOnce_107 P (g_Mo_stepOnce_9 P X (d + 1)) J B3 (lp (fun i x => x + bI (sDry B0 (nI t) i)) (j + 1) 0 0) (nI j) (nI j) (B0 10 j) x := by
      intro B3 x p1 p2 p3 p4 hx
      subst hx
      refine ⟨hin, ?_⟩
      rw [nI_1]
      refine M_st1_l hk hX d (j + 1) _ (by omega) ⟨fun c c1 c2 c3 => by rw [sA_ne c1]; exact p1 c c1 c2 c3, ?_, ?_, ?_⟩
      · rw [sA_at, hcl, p2, h10]
        exact fa_fill_succ (fun i => B0 10 i + sStr B0 (nI t) i) (B0 10) j
      · rw [sA_ne (by decide)]; exact p3
      · rw [sA_ne (by decide)]; exact p4
    have g67 : ∀ (B3 : Nat → Nat → Int32), (∀ c, c ≠ 10 → c ≠ 31 → c ≠ 32 → B3 c = B0 c) → B3 10 = B 10 → B3 31 = fa_fill (sGot B0 (nI t)) (B0 31) (j + 1) → B3 32 = fa_fill (fun i => bI (sSrc B0 (nI t) i)) (B0 32) (j + 1) → g_Mo_stepOnce_67 P (g_Mo_stepOnce_9 P X (d + 1)) J B3 (lp (fun i x => x + bI (sDry B0 (nI t) i)) (j + 1) 0 0) (nI j) := by
      intro B3 p1 p2 p3 p4
      refine ⟨hin, hin, ?_⟩
      rw [hcl, p1 2 (by decide) (by decide) (by decide)]
      have e10 : B3 10 j = B0 10 j := by rw [p2, h10, fa_fill_out (Nat.le_refl _)]
      have e31 : B3 31 j = sGot B0 (nI t) j := by rw [p3, fa_fill_in (Nat.lt_succ_self _)]
      rw [e10]
      by_cases c : (1 : Int32) ≤ B0 2 j ∧ B0 2 j ≤ 3
      · refine g_mt c (c2f nz1 ⟨hin, ?_⟩)
        rw [p1 11 (by decide) (by decide) (by decide)]
        refine ⟨fun z => nxt107 B3 0 p1 p2 p3 p4 ?_, fun z => ⟨hin, ?_⟩⟩
        · unfold sStr; rw [if_neg (fun y => z y.2)]
        · rw [e31]
          refine nxt107 B3 _ p1 p2 p3 p4 ?_
          unfold sStr; rw [if_pos ⟨c, z⟩]
      · refine g_mf c (c2t rfl (nxt107 B3 0 p1 p2 p3 p4 ?_))
        unfold sStr; rw [if_neg (fun y => c y.1)]
    refine c2f (lit_lt hk.1 (by omega) (by omega)) (M_isSource (by omega) ?_)
    rw [h3, hf 2 (by decide) (by decide) (by decide), hf 7 (by decide) (by decide) (by decide), hf 8 (by decide) (by decide) (by decide), hf 4 (by decide) (by decide) (by decide), hf 9 (by decide) (by decide) (by decide), nar_B (bI_B _)]
    refine ⟨hin, ?_⟩
    have q1 : ∀ c, c ≠ 10 → c ≠ 31 → c ≠ 32 → (sA B 32 (nI j) (bI (srcB (B0 2 j) (B0 7 j) (B0 8 j) (B0 4 j) (B0 9 j) (nI t)))) c = B0 c := fun c c1 c2 c3 => by rw [sA_ne c3]; exact hf c c1 c2 c3
    have q32 : (sA B 32 (nI j) (bI (srcB (B0 2 j) (B0 7 j) (B0 8 j) (B0 4 j) (B0 9 j) (nI t)))) 32 = fa_fill (fun i => bI (sSrc B0 (nI t) i)) (B0 32) (j + 1) := by
      rw [sA_at, hcl, h32]
      exact fa_fill_succ (fun i => bI (sSrc B0 (nI t) i)) (B0 32) j
    have q10 : (sA B 32 (nI j) (bI (srcB (B0 2 j) (B0 7 j) (B0 8 j) (B0 4 j) (B0 9 j) (nI t)))) 10 = B 10 := sA_ne (by decide)
    have q31 : (sA B 32 (nI j) (bI (srcB (B0 2 j) (B0 7 j) (B0 8 j) (B0 4 j) (B0 9 j) (nI t)))) 31 = B 31 := sA_ne (by decide)
    generalize sA B 32 (nI j) (bI (srcB (B0 2 j) (B0 7 j) (B0 8 j) (B0 4 j) (B0 9 j) (nI t))) = B1 at q1 q32 q10 q31
    obtain ⟨k1, k2⟩ := hk.2.2.2.2.2.2.2.1 j hjn
    refine M_takes (by omega) (by rw [q1 2 (by decide) (by decide) (by decide)]; exact k1) (by rw [q1 2 (by decide) (by decide) (by decide), q1 4 (by decide) (by decide) (by decide)]; exact k2) ?_
    rw [q1 2 (by decide) (by decide) (by decide), q1 3 (by decide) (by decide) (by decide), q1 4 (by decide) (by decide) (by decide), q1 5 (by decide) (by decide) (by decide), q1 6 (by decide) (by decide) (by decide), q1 7 (by decide) (by decide) (by decide), q1 13 (by decide) (by decide) (by decide), q1 0 (by decide) (by decide) (by decide), h3]
    refine ⟨hin, hin, ?_⟩
    rw [sA_at, hcl, up_at]
    show (sTk B0 (nI t) j < 1 → _) ∧ (¬ sTk B0 (nI t) j < 1 → _)
    have r31 : ∀ x : Int32, (sA B1 31 (nI j) x) 31 = upd (B1 31) j x := fun x => by rw [sA_at, hcl]
    have fin0 : sDry B0 (nI t) j = false → g_Mo_stepOnce_67 P (g_Mo_stepOnce_9 P X (d + 1)) J (sA B1 31 (nI j) (sTk B0 (nI t) j)) (lp (fun i x => x + bI (sDry B0 (nI t) i)) j 0 0) (nI j) := by
      intro hd
      have := g67 (sA B1 31 (nI j) (sTk B0 (nI t) j)) (fun c c1 c2 c3 => by rw [sA_ne c2]; exact q1 c c1 c2 c3) (by rw [sA_ne (by decide)]; exact q10) (by
        rw [r31, q31, h31]
        have e : sTk B0 (nI t) j = sGot B0 (nI t) j := by unfold sGot; rw [hd]; rfl
        rw [e]
        exact fa_fill_succ (sGot B0 (nI t)) (B0 31) j) (by rw [sA_ne (by decide)]; exact q32)
      rw [sn1, hd, bI_f, Int32.add_zero] at this
      exact this
    refine ⟨fun c => fin0 (decide_eq_false (fun z => z.1 c)), fun c => ⟨hin, hin, ?_⟩⟩
    rw [hcl, sA_ne (show (13 : Nat) ≠ 31 by decide), sA_ne (show (0 : Nat) ≠ 31 by decide), q1 13 (by decide) (by decide) (by decide), q1 0 (by decide) (by decide) (by decide)]
    refine ⟨fun c2 => fin0 (decide_eq_false (fun z => c2 z.2)), fun c2 => ⟨hin, ?_⟩⟩
    have hd : sDry B0 (nI t) j = true := decide_eq_true ⟨c, c2⟩
    have := g67 (sA (sA B1 31 (nI j) (sTk B0 (nI t) j)) 31 (nI j) 0) (fun c c1 c2 c3 => by rw [sA_ne c2, sA_ne c2]; exact q1 c c1 c2 c3) (by rw [sA_ne (by decide), sA_ne (by decide)]; exact q10) (by
      rw [sA_at, hcl, r31, fa_upd_twice, q31, h31]
      have e : (0 : Int32) = sGot B0 (nI t) j := by unfold sGot; rw [hd]; rfl
      rw [e]
      exact fa_fill_succ (sGot B0 (nI t)) (B0 31) j) (by rw [sA_ne (by decide), sA_ne (by decide)]; exact q32)
    rw [sn1, hd] at this
    exact this
/-- the flows of a tower that gave -/
theorem M_flows_l {P : Int32 → ((Nat → Int32) × (Nat → Nat → Int32)) → Prop} {X : (Nat → Int32) → (Nat → Nat → Int32) → Int32 → Int32 → Int32 → Prop} {i : Nat} {x1 : Int32} {I9 : Int32} {a17 a18 a19 : Nat → Int32} (n12 : n ≤ 12) (hi : i < n) (hm : Rmain n m I9 (J 1) a17 a18 a19 (B 14) (B 15) (B 16)) (v12 : v ≤ 12) (hv : J 2 = nI v) (hop : ∀ j, j < m → opnM (B 19) (fd (fun i => B 17 i = nI j) v 0) = bits.testBit j) (hg : ¬ B 32 i = 0) : ∀ (d j : Nat) (x : Int32), j + d = m → X J B x1 (nI i) (lp (fun j x => x - fTm (B 14) (B 15) (B 16) (B 13) bits i j) d j x) → g_Mo_stepOnce_145 P X (d + 1) J B x1 (nI i) x (nI j)
  | 0, j, x, hj, h => c2t (lit_le hm.2.2.1 (by omega) (by have := hm.1; omega)) h
  | d + 1, j, x, hj, h => by
    have m18 := hm.1
    have hin : vp_in (nI j) 18 := vin (by omega) (by omega)
    have hcl : (nI j).toNatClampNeg = j := nI_clamp (by omega)
    have hci : (nI i).toNatClampNeg = i := nI_clamp (by omega)
    have h' : X J B x1 (nI i) (lp (fun j x => x - fTm (B 14) (B 15) (B 16) (B 13) bits i j) d (j + 1) (x - fTm (B 14) (B 15) (B 16) (B 13) bits i j)) := h
    have go : ∀ s : Int32, s = fTm (B 14) (B 15) (B 16) (B 13) bits i j → g_Mo_stepOnce_206 P (g_Mo_stepOnce_145 P X (d + 1)) J B x1 (nI i) (nI j) x s := by
      intro s hs
      subst hs
      refine y1 ?_
      rw [nI_1]
      exact M_flows_l n12 hi hm v12 hv hop hg d (j + 1) _ (by omega) h'
    refine c2f (lit_lt hm.2.2.1 (by omega) (by omega)) ⟨vin (by omega) (by omega), ?_⟩
    rw [hci]
    refine c2f hg ⟨hin, ?_⟩
    rw [hcl]
    have hfl : ∀ {Q : Int32 → Prop}, Q (if bits.testBit j then flw (B 14) (B 15) (B 16) (B 13) j else 0) → g_Mo_flowOf J B (nI j) Q := by
      intro Q q
      refine M_flowOf (I := fun _ => I9) (A := fun c => if c = 17 then a17 else if c = 18 then a18 else a19) n12 hm v12 hv (by omega) ?_
      rw [hop j (by omega)]
      exact q
    by_cases c1 : B 14 j = nI i
    · refine n2t c1 (hfl (go _ ?_))
      unfold fTm
      cases e : bits.testBit j
      · rfl
      · rw [if_pos rfl, if_pos rfl, if_pos c1]
    · refine n2f c1 ⟨hin, ?_⟩
      by_cases c2 : B 15 j = nI i
      · refine n2t c2 (hfl (go _ ?_))
        unfold fTm
        cases e : bits.testBit j
        · show -(0 : Int32) = 0
          decide
        · rw [if_pos rfl, if_pos rfl, if_neg c1, if_pos c2]
      · refine n2f c2 (go 0 ?_)
        unfold fTm
        cases e : bits.testBit j
        · rfl
        · rw [if_pos rfl, if_neg c1, if_neg c2]
/-- level and spill, two ways -/
theorem lv_eq {x r : Int32} (h1 : -50000000 ≤ x.toInt) (h2 : x.toInt ≤ 50000000) (hr : rg r 1 100000) :
    ((0 : Int32) ≤ x → x ≤ r → (if (0 : Int32) < (if x < r then x else r) then (if x < r then x else r) else 0) = x) ∧ (¬ x ≤ r → (if (0 : Int32) < (if x < r then x else r) then (if x < r then x else r) else 0) = r) ∧ (¬ (0 : Int32) ≤ x → (if (0 : Int32) < (if x < r then x else r) then (if x < r then x else r) else 0) = 0) ∧
    (x ≤ r → (if (0 : Int32) < x - r then x - r else 0) = 0) ∧ (¬ x ≤ r → (if (0 : Int32) < x - r then x - r else 0) = x - r) := by
  have h0 : (0 : Int32).toInt = 0 := by decide
  obtain ⟨hr1, hr2⟩ := hr
  have hs : (x - r).toInt = x.toInt - r.toInt := fb_subI (by omega) (by omega)
  have eqI : ∀ {a b : Int32}, a.toInt = b.toInt → a = b := fun h => (fa_eq _ _).mpr h
  simp only [fa_lt, fa_le, hs, h0]
  refine ⟨fun q1 q2 => ?_, fun q => ?_, fun q => ?_, fun q => ?_, fun q => ?_⟩
  · by_cases c : x.toInt < r.toInt
    · rw [if_pos c]
      by_cases c2 : 0 < x.toInt
      · rw [if_pos c2]
      · rw [if_neg c2]; exact eqI (by omega)
    · rw [if_neg c, if_pos (by omega)]; exact eqI (by omega)
  · rw [if_neg (show ¬ x.toInt < r.toInt by omega), if_pos (show 0 < r.toInt by omega)]
  · rw [if_pos (show x.toInt < r.toInt by omega), if_neg (show ¬ 0 < x.toInt by omega)]
  · rw [if_neg (by omega)]
  · rw [if_pos (by omega)]
def stM2 (B0 B1 : Nat → Nat → Int32) (tick : Int32) (bits m j : Nat) (J J0 : Nat → Int32) (B : Nat → Nat → Int32) : Prop :=
  (∀ c, c ≠ 7 → c ≠ 8 → J c = J0 c) ∧ J 7 = lp (fun i x => x + sSp B0 tick bits m i) j 0 (J0 7) ∧ J 8 = lp (fun i x => x + sBn B0 tick i) j 0 (J0 8) ∧ (∀ c, c ≠ 7 → B c = B1 c) ∧ B 7 = fa_fill (fun i => if B0 2 i = 4 then sLv B0 tick bits m i else B0 7 i) (B0 7) j
theorem M_st2_l {P : Int32 → ((Nat → Int32) × (Nat → Nat → Int32)) → Prop} {X : (Nat → Int32) → (Nat → Nat → Int32) → Int32 → Prop} {B1 : Nat → Nat → Int32} {x1 I9 : Int32} {a17 a18 a19 : Nat → Int32} (hk : mOk n m v t bits J0 B0) (hm : Rmain n m I9 (J0 1) a17 a18 a19 (B0 14) (B0 15) (B0 16)) (h1 : stM1 B0 (nI t) n B1) (htw : ∀ i, i < n → B0 2 i = 4 → rg (B0 4 i) 1 100000 ∧ 0 ≤ (B0 7 i).toInt ∧ (B0 7 i).toInt ≤ 100000)
    (hX : ∀ J B, stM2 B0 B1 (nI t) bits m n J J0 B → X J B x1) : ∀ (d j : Nat) (J : Nat → Int32) (B : Nat → Nat → Int32), j + d = n → stM2 B0 B1 (nI t) bits m j J J0 B → g_Mo_stepOnce_117 P X (d + 1) J B x1 (nI j)
  | 0, j, J, B, hj, hS => by
    have n12 := hk.2.2.2.2.1
    have e : j = n := by omega
    subst e
    exact c2t (lit_le ((hS.1 0 (by decide) (by decide)).trans hk.1) (Nat.le_refl _) (by omega)) (hX J B hS)
  | d + 1, j, J, B, hj, hS => by
    have n12 := hk.2.2.2.2.1
    have hjn : j < n := by omega
    have hin : vp_in (nI j) 12 := vin (by omega) (by omega)
    have hcl : (nI j).toNatClampNeg = j := nI_clamp (by omega)
    obtain ⟨hJ, h7, h8, hf, hb7⟩ := hS
    have fB : ∀ c, c ≠ 7 → c ≠ 10 → c ≠ 31 → c ≠ 32 → B c = B0 c := fun c c7 c10 c31 c32 => by rw [hf c c7]; exact h1.1 c c10 c31 c32
    have hJ3 : J 3 = nI t := (hJ 3 (by decide) (by decide)).trans hk.2.2.2.1
    have sn1 : ∀ (f : Nat → Int32) (a : Int32), lp (fun i x => x + f i) (j + 1) 0 a = lp (fun i x => x + f i) j 0 a + f j := fun f a => by rw [lp_snoc, Nat.zero_add]
    have g294 : ∀ (J3 : Nat → Int32) (B3 : Nat → Nat → Int32), (∀ c, c ≠ 7 → c ≠ 8 → J3 c = J0 c) → J3 7 = lp (fun i x => x + sSp B0 (nI t) bits m i) (j + 1) 0 (J0 7) → J3 8 = J 8 → (∀ c, c ≠ 7 → B3 c = B1 c) → B3 7 = fa_fill (fun i => if B0 2 i = 4 then sLv B0 (nI t) bits m i else B0 7 i) (B0 7) (j + 1) → g_Mo_stepOnce_294 P (g_Mo_stepOnce_117 P X (d + 1)) J3 B3 x1 (nI j) := by
      intro J3 B3 p1 p2 p3 p4 p5
      have fB3 : ∀ c, c ≠ 7 → c ≠ 10 → c ≠ 31 → c ≠ 32 → B3 c = B0 c := fun c c7 c10 c31 c32 => by rw [p4 c c7]; exact h1.1 c c10 c31 c32
      have nx : ∀ x : Int32, x = sBn B0 (nI t) j → g_Mo_stepOnce_338 P (g_Mo_stepOnce_117 P X (d + 1)) J3 B3 x1 (nI j) (J3 8) x := by
        intro x hx
        subst hx
        show g_Mo_stepOnce_117 P X (d + 1) (va_up J3 8 (J3 8 + sBn B0 (nI t) j)) B3 x1 (nI j + 1)
        rw [nI_1]
        refine M_st2_l hk hm h1 htw hX d (j + 1) _ B3 (by omega) ⟨fun c c7 c8 => by rw [va_un c8]; exact p1 c c7 c8, ?_, ?_, p4, p5⟩
        · rw [va_un (by decide)]; exact p2
        · rw [vu_at, sn1, ← h8, p3]
      refine ⟨hin, ?_⟩
      rw [hcl, fB3 2 (by decide) (by decide) (by decide) (by decide), (p1 3 (by decide) (by decide)).trans hk.2.2.2.1]
      refine ⟨fun z => nx 0 ?_, fun z => ⟨hin, ?_⟩⟩
      · unfold sBn; rw [if_neg (fun y => z y.1)]
      · rw [fB3 8 (by decide) (by decide) (by decide) (by decide)]
        refine ⟨fun z2 => nx 0 ?_, fun z2 => ⟨fun z3 => nx 0 ?_, fun z3 => ⟨hin, ?_⟩⟩⟩
        · unfold sBn; rw [if_neg (fun y => y.2.1 z2)]
        · unfold sBn; rw [if_neg (fun y => z3 y.2.2)]
        · rw [fB3 5 (by decide) (by decide) (by decide) (by decide)]
          refine nx _ ?_
          unfold sBn; rw [if_pos ⟨z, z2, z3⟩]
    refine c2f (lit_lt ((hJ 0 (by decide) (by decide)).trans hk.1) (by omega) (by omega)) ⟨hin, ?_⟩
    rw [hcl, fB 2 (by decide) (by decide) (by decide) (by decide)]
    refine ⟨fun z => ?_, fun z => ⟨hin, y1 ⟨m + 1, ?_⟩⟩⟩
    · refine g294 J B hJ ?_ rfl hf ?_
      · have e4 : sSp B0 (nI t) bits m j = 0 := by unfold sSp; rw [if_neg z]
        rw [sn1, e4, ← h7]; exact (Int32.add_zero _).symm
      · rw [hb7]
        have := fa_fill_succ (fun i => if B0 2 i = 4 then sLv B0 (nI t) bits m i else B0 7 i) (B0 7) j
        rw [← this]
        show _ = upd _ j (if B0 2 j = 4 then _ else _)
        rw [if_neg z, fa_upd_same (fa_fill_out (Nat.le_refl _))]
    · have e31 : B 31 j = sGot B0 (nI t) j := by rw [hf 31 (by decide), h1.2.2.1, fa_fill_in hjn]
      have e32 : B 32 j = bI (sSrc B0 (nI t) j) := by rw [hf 32 (by decide), h1.2.2.2, fa_fill_in hjn]
      have e7 : B 7 j = B0 7 j := by rw [hb7, fa_fill_out (Nat.le_refl _)]
      obtain ⟨hroom, hl0, hl1⟩ := htw j hjn z
      have hsrc : sSrc B0 (nI t) j = true ↔ ¬ B0 7 j ≤ 0 := by
        unfold sSrc srcB
        rw [decide_eq_true_iff]
        constructor
        · rintro (q | q)
          · exact (fa_of_lt q.2).2.1
          · rw [z] at q; exact absurd q.1 (by decide)
        · intro q; exact Or.inl ⟨z, fa_of_nle q⟩
      have g214 : ∀ x : Int32, B0 7 j + x = sNx B0 (nI t) bits m j → g_Mo_stepOnce_214 P (g_Mo_stepOnce_117 P X (d + 1)) J B x1 (nI j) x := by
        intro x hx
        refine ⟨hin, y1 ⟨hin, ?_⟩⟩
        rw [hcl, e7, hx, fB 4 (by decide) (by decide) (by decide) (by decide)]
        have hbd : -50000000 ≤ (sNx B0 (nI t) bits m j).toInt ∧ (sNx B0 (nI t) bits m j).toInt ≤ 50000000 := by
          unfold sNx
          by_cases c : B0 7 j ≤ 0
          · rw [if_pos c]
            have : sGot B0 (nI t) j = 0 ∨ sGot B0 (nI t) j = 10 := by
              unfold sGot
              cases sDry B0 (nI t) j
              · simp only [Bool.false_eq_true, if_false]
                unfold sTk
                rw [z, tkv_4]
                by_cases c2 : B0 7 j = 0
                · rw [if_pos c2]; exact Or.inr rfl
                · rw [if_neg c2]; exact Or.inl rfl
              · exact Or.inl rfl
            rcases this with e | e <;> rw [e] <;> decide
          · rw [if_neg c]
            have ho := sOut_bd B0 (bits := bits) (i := j) hk.2.2.2.2.2.1
            rw [fb_subI (by omega) (by omega)]
            omega
        have le := lv_eq hbd.1 hbd.2 hroom
        have b7' : ∀ y : Int32, y = sLv B0 (nI t) bits m j → upd (B 7) j y = fa_fill (fun i => if B0 2 i = 4 then sLv B0 (nI t) bits m i else B0 7 i) (B0 7) (j + 1) := by
          intro y hy
          have := fa_fill_succ (fun i => if B0 2 i = 4 then sLv B0 (nI t) bits m i else B0 7 i) (B0 7) j
          rw [← this, hb7, hy]
          show _ = upd _ j (if B0 2 j = 4 then _ else _)
          rw [if_pos z]
        have g293 : ∀ y s2 : Int32, y = sLv B0 (nI t) bits m j → s2 = sSp B0 (nI t) bits m j → g_Mo_stepOnce_293 P (g_Mo_stepOnce_117 P X (d + 1)) (va_up J 7 (J 7 + s2)) B x1 (nI j) (nI j) y := by
          intro y s2 hy hs2
          refine ⟨hin, g294 _ _ (fun c c7 c8 => by rw [va_un c7]; exact hJ c c7 c8) ?_ (va_un (by decide)) (fun c c7 => by rw [sA_ne c7]; exact hf c c7) ?_⟩
          · rw [vu_at, sn1, ← h7, hs2]
          · rw [sA_at, hcl]; exact b7' y hy
        have spv : ∀ s : Int32, (if (0 : Int32) < sNx B0 (nI t) bits m j - B0 4 j then sNx B0 (nI t) bits m j - B0 4 j else 0) = s → s = sSp B0 (nI t) bits m j := by
          intro s hs
          unfold sSp
          rw [if_pos z, hs]
        have g253 : ∀ s2 : Int32, s2 = sSp B0 (nI t) bits m j → g_Mo_stepOnce_253 P (g_Mo_stepOnce_117 P X (d + 1)) J B x1 (nI j) (sNx B0 (nI t) bits m j) (J 7) s2 := by
          intro s2 hs2
          refine ⟨fun c0 => ⟨hin, ?_⟩, fun c0 => g293 _ _ (le.2.2.1 c0).symm hs2⟩
          rw [hcl, fB 4 (by decide) (by decide) (by decide) (by decide)]
          exact ⟨fun c1 => g293 _ _ (le.1 c0 c1).symm hs2, fun c1 => ⟨hin, g293 _ _ (le.2.1 c1).symm hs2⟩⟩
        exact ⟨fun c => g253 0 (spv 0 (le.2.2.2.1 c)), fun c => ⟨hin, g253 _ (spv _ (le.2.2.2.2 c))⟩⟩
      rw [e31]
      by_cases c : B0 7 j ≤ 0
      · have hs0 : sSrc B0 (nI t) j = false := by
          cases e : sSrc B0 (nI t) j
          · rfl
          · exact absurd c (hsrc.mp e)
        have hz7 : B0 7 j = 0 := by
          rw [fa_le, show (0 : Int32).toInt = 0 from by decide] at c
          rw [fa_eq, show (0 : Int32).toInt = 0 from by decide]
          omega
        have fin := g214 (sGot B0 (nI t) j) (by rw [hz7, Int32.zero_add]; unfold sNx; rw [if_pos c])
        by_cases cm : m = 0
        · subst cm
          exact c2t (lit_le (i := 0) (n := 0) ((hJ 1 (by decide) (by decide)).trans hk.2.1) (Nat.le_refl _) (by omega)) fin
        · refine c2f (lit_lt (i := 0) (n := m) ((hJ 1 (by decide) (by decide)).trans hk.2.1) (by omega) (by have := hk.2.2.2.2.2.1; omega)) ⟨hin, ?_⟩
          rw [hcl, e32, hs0]
          exact c2t rfl fin
      · have hs1 : sSrc B0 (nI t) j = true := hsrc.mpr c
        have hm2 : Rmain n m I9 (J 1) a17 a18 a19 (B 14) (B 15) (B 16) := by
          rw [hJ 1 (by decide) (by decide), fB 14 (by decide) (by decide) (by decide) (by decide), fB 15 (by decide) (by decide) (by decide) (by decide), fB 16 (by decide) (by decide) (by decide) (by decide)]; exact hm
        refine M_flows_l (bits := bits) (v := v) n12 hjn hm2 hk.2.2.2.2.2.2.1 ((hJ 2 (by decide) (by decide)).trans hk.2.2.1) (fun j' hj' => ?_) (by rw [e32, hs1]; decide) m 0 _ (by omega) ?_
        · rw [fB 19 (by decide) (by decide) (by decide) (by decide), fB 17 (by decide) (by decide) (by decide) (by decide)]
          exact hk.2.2.2.2.2.2.2.2.2 j' hj'
        · rw [lp_sub, fB 14 (by decide) (by decide) (by decide) (by decide), fB 15 (by decide) (by decide) (by decide) (by decide), fB 16 (by decide) (by decide) (by decide) (by decide), fB 13 (by decide) (by decide) (by decide) (by decide)]
          refine g214 _ ?_
          have hg0 : sGot B0 (nI t) j = 0 := by
            have ht0 : sTk B0 (nI t) j = 0 := by
              unfold sTk
              rw [z, tkv_4, if_neg (fun e => c (by rw [e]; decide))]
            unfold sGot
            rw [ht0]
            cases sDry B0 (nI t) j <;> rfl
          show B0 7 j + (sGot B0 (nI t) j - sOut B0 bits m j) = _
          rw [hg0]
          unfold sNx
          rw [if_neg c, Int32.zero_sub, Int32.sub_eq_add_neg]
end MS
