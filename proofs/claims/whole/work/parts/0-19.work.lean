/-! ===== layer 2: work; a step by itself ===== -/
section WK
variable {k tk n m v sh nr sg od bk : Nat} {I I2 : Nat → Int32} {A A2 : Nat → Nat → Int32} {T : Nat → Option Nat} {L : List Nat} {K : Nat → Nat} {F : Nat → Nat → Int32} {J J2 : Nat → Int32} {B B2 : Nat → Nat → Int32}
theorem RelP.net (h : RelP k tk n m v sh nr sg od bk I A T L K F J B) (hk : k ≤ 512) : netR n m v sh tk nr I A T L K F J B := by
  obtain ⟨ht, hc, hn, hm, hv, hnr, hmm, hs, ho, hp, hrw, htm, hmt, hkn, hth⟩ := h
  refine ⟨by have := ht.1; omega, ht.2.2, hn, hm, hv, hnr.1, hnr.2.1, hnr.2.2.1, fun i hi => hth.1 i (by have := hn.1; omega)⟩
/-- the net was worked: all else stands -/
theorem RelP.worked (h : RelP k tk n m v sh nr sg od bk I A T L K F J B) (hI : ∀ c, c ≠ 6 → c ≠ 7 → c ≠ 8 → I2 c = I c) (hA : ∀ c, c ≠ 9 → c ≠ 10 → c ≠ 12 → c ≠ 13 → c ≠ 14 → c ≠ 15 → c ≠ 16 → A2 c = A c) (hJ : ∀ c, c ≠ 5 → J2 c = J c) (hB : ∀ c, c ≠ 13 → B2 c = B c) (h9 : EqN n (A2 9) (B2 13)) (hb : hdB n (B2 13)) (h6 : I2 6 = J2 5)
    (hmm : Rmemo n m (I2 6) (I2 7) (I2 8) (A2 7) (A2 9) (A2 13) (A2 17) (A2 18) (A2 19)) : RelP k tk n m v sh nr sg od bk I2 A2 T L K F J2 B2 := by
  obtain ⟨ht, hc, hn, hm, hv, hnr, -, hs, ho, hp, hrw, htm, hmt, hkn, hth⟩ := h
  have a : ∀ c, c ≠ 9 → c ≠ 10 → c ≠ 12 → c ≠ 13 → c ≠ 14 → c ≠ 15 → c ≠ 16 → A2 c = A c := hA
  refine ⟨?_, ?_, ?_, ?_, ?_, ?_, hmm, ?_, ?_, ?_, ?_, ?_, ?_, ?_, ?_⟩
  · rw [hI 0 (by decide) (by decide) (by decide), hJ 3 (by decide)]; exact ht
  · rw [hI 1 (by decide) (by decide) (by decide), hI 2 (by decide) (by decide) (by decide), hI 3 (by decide) (by decide) (by decide), hJ 6 (by decide), hJ 7 (by decide), hJ 8 (by decide)]; exact hc
  · obtain ⟨q1, q2, q3, q4, q5, -⟩ := hn
    rw [hI 4 (by decide) (by decide) (by decide), hJ 0 (by decide), hA 7 (by decide) (by decide) (by decide) (by decide) (by decide) (by decide) (by decide), hA 8 (by decide) (by decide) (by decide) (by decide) (by decide) (by decide) (by decide), hB 0 (by decide), hB 1 (by decide)]
    exact ⟨q1, q2, q3, q4, q5, fun i hi => ⟨h9 i hi, hb i hi⟩⟩
  · rw [hI 9 (by decide) (by decide) (by decide), hJ 1 (by decide), hA 17 (by decide) (by decide) (by decide) (by decide) (by decide) (by decide) (by decide), hA 18 (by decide) (by decide) (by decide) (by decide) (by decide) (by decide) (by decide), hA 19 (by decide) (by decide) (by decide) (by decide) (by decide) (by decide) (by decide), hB 14 (by decide), hB 15 (by decide), hB 16 (by decide)]; exact hm
  · rw [hI 10 (by decide) (by decide) (by decide), hI 11 (by decide) (by decide) (by decide), hJ 2 (by decide), hA 20 (by decide) (by decide) (by decide) (by decide) (by decide) (by decide) (by decide), hA 21 (by decide) (by decide) (by decide) (by decide) (by decide) (by decide) (by decide), hB 17 (by decide), hB 18 (by decide), hB 19 (by decide)]; exact hv
  · rw [hI 5 (by decide) (by decide) (by decide), hJ 4 (by decide)]; exact ⟨hnr.1, hnr.2.1, hnr.2.2.1, h6⟩
  · rw [hI 12 (by decide) (by decide) (by decide), hJ 9 (by decide), hA 22 (by decide) (by decide) (by decide) (by decide) (by decide) (by decide) (by decide), hB 23 (by decide)]; exact hs
  · rw [hI 13 (by decide) (by decide) (by decide), hJ 10 (by decide), hA 23 (by decide) (by decide) (by decide) (by decide) (by decide) (by decide) (by decide), hA 24 (by decide) (by decide) (by decide) (by decide) (by decide) (by decide) (by decide), hA 35 (by decide) (by decide) (by decide) (by decide) (by decide) (by decide) (by decide), hA 36 (by decide) (by decide) (by decide) (by decide) (by decide) (by decide) (by decide), hA 37 (by decide) (by decide) (by decide) (by decide) (by decide) (by decide) (by decide), hA 38 (by decide) (by decide) (by decide) (by decide) (by decide) (by decide) (by decide), hA 39 (by decide) (by decide) (by decide) (by decide) (by decide) (by decide) (by decide), hA 40 (by decide) (by decide) (by decide) (by decide) (by decide) (by decide) (by decide), hB 24 (by decide), hB 25 (by decide), hB 26 (by decide)]; exact ho
  · rw [hI 14 (by decide) (by decide) (by decide), hI 15 (by decide) (by decide) (by decide), hJ 11 (by decide), hA 25 (by decide) (by decide) (by decide) (by decide) (by decide) (by decide) (by decide), hA 26 (by decide) (by decide) (by decide) (by decide) (by decide) (by decide) (by decide), hA 27 (by decide) (by decide) (by decide) (by decide) (by decide) (by decide) (by decide), hA 28 (by decide) (by decide) (by decide) (by decide) (by decide) (by decide) (by decide), hA 29 (by decide) (by decide) (by decide) (by decide) (by decide) (by decide) (by decide), hA 30 (by decide) (by decide) (by decide) (by decide) (by decide) (by decide) (by decide), hB 27 (by decide), hB 28 (by decide), hB 29 (by decide)]; exact hp
  · rw [hA 3 (by decide) (by decide) (by decide) (by decide) (by decide) (by decide) (by decide), hA 31 (by decide) (by decide) (by decide) (by decide) (by decide) (by decide) (by decide), hA 32 (by decide) (by decide) (by decide) (by decide) (by decide) (by decide) (by decide), hA 33 (by decide) (by decide) (by decide) (by decide) (by decide) (by decide) (by decide), hA 34 (by decide) (by decide) (by decide) (by decide) (by decide) (by decide) (by decide), hB 20 (by decide), hB 21 (by decide), hB 22 (by decide)]; exact hrw
  · rw [hA 2 (by decide) (by decide) (by decide) (by decide) (by decide) (by decide) (by decide), hB 30 (by decide)]; exact htm
  · rw [hA 0 (by decide) (by decide) (by decide) (by decide) (by decide) (by decide) (by decide), hA 1 (by decide) (by decide) (by decide) (by decide) (by decide) (by decide) (by decide), hB 10 (by decide), hB 11 (by decide)]; exact hmt
  · rw [hA 4 (by decide) (by decide) (by decide) (by decide) (by decide) (by decide) (by decide), hB 12 (by decide)]; exact hkn
  · rw [hB 2 (by decide), hB 3 (by decide), hB 4 (by decide), hB 5 (by decide), hB 6 (by decide), hB 7 (by decide), hB 8 (by decide), hB 9 (by decide)]; exact hth
/-- both sides work the net -/
theorem RelP.work {P : ((Nat → Int32) × (Nat → Nat → Int32)) → Prop} (h : RelP k tk n m v sh nr sg od bk I A T L K F J B) (hk : k ≤ 512)
    (hP : ∀ (I2 : Nat → Int32) (A2 : Nat → Nat → Int32) (b : Bool) (J2 : Nat → Int32) (B2 : Nat → Nat → Int32), I2 7 = bI b → RelP k tk n m v sh nr sg od bk I2 A2 T L K F J2 B2 → (∀ Q : Int32 → ((Nat → Int32) × (Nat → Nat → Int32)) → Prop, Q (bI b) (J2, B2) → g_Mo_workNet J B Q) → (∀ c, c ≠ 6 → c ≠ 7 → c ≠ 8 → I2 c = I c) → (∀ c, c ≠ 5 → J2 c = J c) → (∀ c, c ≠ 13 → B2 c = B c) → P (I2, A2)) : g_Ne_settle I A T L K F (I 0) P := by
  have hN := h.net hk
  rw [h.1.2.1]
  have hc := hN.cfg
  have hbd : hdB n (workP n (B 0) (mS B (nI tk)) (mT B (nI tk)) (mlist m (omB (B 17) sh v m) (B 14) (B 15) (B 16)) (nI nr)).1 := (wk_bd (nr := nI nr) hc.sw 500 0 _ hc.b0).1
  obtain ⟨x1, x2⟩ := wkX_eq (nr := nI nr) hc
  refine hN.settle h.2.2.2.2.2.2.1 (fun I2 A2 hI hA h9 h6 h7 hmm => hP I2 A2 _ (va_up J 5 (nI (wkX n m tk (omB (B 17) sh v m) B (nI nr)).2.1)) (va_up B 13 (wkX n m tk (omB (B 17) sh v m) B (nI nr)).1) h7 ?_ (fun Q hQ => ?_) hI (fun c c5 => va_un c5) (fun c c13 => va_un c13))
  · refine h.worked hI hA (fun c c5 => va_un c5) (fun c c13 => va_un c13) ?_ ?_ ?_ hmm
    · rw [vu_at]; exact h9.tr x1.sm
    · rw [vu_at]; exact hbd.cg x1.sm
    · rw [vu_at, x2]; exact h6
  · refine M_work hN.mok hc hN.2.2.2.2.2.2.2.1 (nI_pos' (by have := hN.2.2.2.2.2.1; omega)) ?_
    rw [x2] at hQ ⊢
    exact hQ
theorem op_work (hk : k < 512) (hR : Rel k I A T L K F J B) : g_Pw_work I A T L K F (fun r u => g_Mo_work J B (fun r2 v => r = r2 ∧ Rel (k + 1) u.1 u.2 T L K F v.1 v.2)) := by
  obtain ⟨tk, n, m, v, sh, nr, sg, od, bk, h⟩ := hR
  refine h.work (by omega) (fun I2 A2 b J2 B2 h7 h2 hM _ _ _ => ?_)
  dsimp only
  rw [h7]
  cases b
  · refine c2t rfl (hM _ (c2t rfl ⟨rfl, ?_⟩))
    exact Rel.up ⟨tk, n, m, v, sh, nr, sg, od, bk, h2⟩
  · refine c2f nz1 (hM _ (c2f nz1 ⟨h2.2.2.2.2.2.1.2.2.2, ?_⟩))
    exact Rel.up ⟨tk, n, m, v, sh, nr, sg, od, bk, h2⟩
end WK
/-! a step, node by node -/
def sPr (B : Nat → Nat → Int32) (i : Nat) : Int32 := B 13 i - 10 * B 0 i
def sTk (B : Nat → Nat → Int32) (tick : Int32) (i : Nat) : Int32 := tkv (B 2 i) (B 3 i) (B 4 i) (B 5 i) (B 6 i) (B 7 i) tick (sPr B i)
def sDry (B : Nat → Nat → Int32) (tick : Int32) (i : Nat) : Bool := decide (¬ sTk B tick i < 1 ∧ sPr B i = 0)
def sGot (B : Nat → Nat → Int32) (tick : Int32) (i : Nat) : Int32 := if sDry B tick i then 0 else sTk B tick i
def sStr (B : Nat → Nat → Int32) (tick : Int32) (i : Nat) : Int32 := if (1 ≤ B 2 i ∧ B 2 i ≤ 3) ∧ B 11 i = 0 then sGot B tick i else 0
def fTm (e1 e2 w h : Nat → Int32) (bits i j : Nat) : Int32 := if bits.testBit j then (if e1 j = nI i then flw e1 e2 w h j else if e2 j = nI i then -flw e1 e2 w h j else 0) else 0
def sOut (B : Nat → Nat → Int32) (bits m i : Nat) : Int32 := lp (fun j x => x + fTm (B 14) (B 15) (B 16) (B 13) bits i j) m 0 0
def sNx (B : Nat → Nat → Int32) (tick : Int32) (bits m i : Nat) : Int32 := if B 7 i ≤ 0 then sGot B tick i else B 7 i - sOut B bits m i
def sLv (B : Nat → Nat → Int32) (tick : Int32) (bits m i : Nat) : Int32 := if (0 : Int32) < (if sNx B tick bits m i < B 4 i then sNx B tick bits m i else B 4 i) then (if sNx B tick bits m i < B 4 i then sNx B tick bits m i else B 4 i) else 0
def sSp (B : Nat → Nat → Int32) (tick : Int32) (bits m i : Nat) : Int32 := if B 2 i = 4 then (if (0 : Int32) < sNx B tick bits m i - B 4 i then sNx B tick bits m i - B 4 i else 0) else 0
def sBn (B : Nat → Nat → Int32) (tick : Int32) (i : Nat) : Int32 := if B 2 i = 5 ∧ ¬ B 8 i = 0 ∧ tick - tick / 4 * 4 = 3 then B 5 i else 0
theorem flw_bd (e1 e2 w h : Nat → Int32) (j : Nat) : -2147484 ≤ (flw e1 e2 w h j).toInt ∧ (flw e1 e2 w h j).toInt ≤ 2147484 := by
  unfold flw
  generalize w j * (h (e1 j).toNatClampNeg - h (e2 j).toNatClampNeg) = x
  have hx := fb_rng x
  rw [Int32.toInt_div_of_ne_right _ _ (by decide), show (1000 : Int32).toInt = 1000 from by decide]
  generalize x.toInt = z at hx
  rcases Int.le_total 0 z with hz | hz
  · rw [Int.tdiv_eq_ediv_of_nonneg hz]; omega
  · have : z.tdiv 1000 = -((-z) / 1000) := by
      rw [show z = -(-z) by omega, Int.neg_tdiv, Int.tdiv_eq_ediv_of_nonneg (by omega)]; simp
    omega
theorem fTm_bd (e1 e2 w h : Nat → Int32) (bits i j : Nat) : -2147484 ≤ (fTm e1 e2 w h bits i j).toInt ∧ (fTm e1 e2 w h bits i j).toInt ≤ 2147484 := by
  have hb := flw_bd e1 e2 w h j
  have h0 : (0 : Int32).toInt = 0 := by decide
  unfold fTm
  by_cases c0 : bits.testBit j = true
  · rw [if_pos c0]
    by_cases c1 : e1 j = nI i
    · rw [if_pos c1]; exact hb
    · rw [if_neg c1]
      by_cases c2 : e2 j = nI i
      · rw [if_pos c2, fb_negI (by omega)]; omega
      · rw [if_neg c2, h0]; omega
  · rw [if_neg c0, h0]; omega
theorem sOut_bd (B : Nat → Nat → Int32) {bits m i : Nat} (m18 : m ≤ 18) : -40000000 ≤ (sOut B bits m i).toInt ∧ (sOut B bits m i).toInt ≤ 40000000 := by
  have := lp_inv (f := fun j x => x + fTm (B 14) (B 15) (B 16) (B 13) bits i j) (Q := fun j x => j ≤ 18 → -(2147484 * (j : Int)) ≤ x.toInt ∧ x.toInt ≤ 2147484 * (j : Int)) m 0 (0 : Int32) (fun _ => by decide) (fun j x _ _ hx h18 => by
    have hb := fTm_bd (B 14) (B 15) (B 16) (B 13) bits i j
    have hx' := hx (by omega)
    show -(2147484 * ((j + 1 : Nat) : Int)) ≤ (x + fTm (B 14) (B 15) (B 16) (B 13) bits i j).toInt ∧ (x + fTm (B 14) (B 15) (B 16) (B 13) bits i j).toInt ≤ 2147484 * ((j + 1 : Nat) : Int)
    rw [fb_addI]
    · omega
    · omega
    · omega)
  have h := this (by omega)
  unfold sOut
  omega
theorem lp_add {f : Nat → Int32} : ∀ (d j : Nat) (a b : Int32), lp (fun j x => x + f j) d j (a + b) = a + lp (fun j x => x + f j) d j b
  | 0, _, _, _ => rfl
  | d + 1, j, a, b => by
    show lp (fun j x => x + f j) d (j + 1) (a + b + f j) = a + lp (fun j x => x + f j) d (j + 1) (b + f j)
    rw [Int32.add_assoc, lp_add d (j + 1) a (b + f j)]
theorem lp_sub {f : Nat → Int32} : ∀ (d j : Nat) (a : Int32), lp (fun j x => x - f j) d j a = a - lp (fun j x => x + f j) d j 0
  | 0, _, a => by show a = a - 0; exact (Int32.sub_zero a).symm
  | d + 1, j, a => by
    show lp (fun j x => x - f j) d (j + 1) (a - f j) = a - lp (fun j x => x + f j) d (j + 1) (0 + f j)
    rw [lp_sub d (j + 1) (a - f j), show (0 : Int32) + f j = f j + 0 by rw [Int32.zero_add, Int32.add_zero], lp_add d (j + 1) (f j) 0]
    rw [Int32.sub_eq_add_neg, Int32.sub_eq_add_neg, Int32.sub_eq_add_neg, Int32.neg_add, Int32.add_assoc, Int32.sub_eq_add_neg]
