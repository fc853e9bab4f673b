/-! ===== layer 2: acts, on both sides; the reference goes through an order ===== -/
section ACTS
variable {k : Nat} {I J : Nat → Int32} {A B : Nat → Nat → Int32} {T : Nat → Option Nat} {L : List Nat} {K : Nat → Nat} {F : Nat → Nat → Int32}
/-- an act comes to the same on both sides -/
def actE (k : Nat) (I : Nat → Int32) (A : Nat → Nat → Int32) (T : Nat → Option Nat) (L : List Nat) (K : Nat → Nat) (F : Nat → Nat → Int32) (J : Nat → Int32) (B : Nat → Nat → Int32) (s1 s2 : Int32) : Prop :=
  ∃ (b : Bool) (I' : Nat → Int32) (F' B' : Nat → Nat → Int32), (∀ P : Int32 → ((Nat → Int32) × (Nat → Nat → Int32)) → Prop, P (bI b) (I', F') → g_Pw_tryAct I A T L K F s1 (s2 - 97) P) ∧ (∀ P : Int32 → (Nat → Nat → Int32) → Prop, P (bI b) B' → g_Mo_doAct J B s1 s2 P) ∧
    Rel k I' A T L K F' J B' ∧ (∀ c, c ≠ 11 → I' c = I c) ∧ (∀ c, c ≠ 8 → c ≠ 9 → c ≠ 19 → B' c = B c)
theorem act_house {c : Nat} {s1 : Int32} (hs : s1 = 76 ∨ s1 = 68) (hc : c < 12) (hR : Rel k I A T L K F J B) : actE k I A T L K F J B s1 (nI (97 + c)) := by
  have hR0 := hR
  obtain ⟨tk, n, m, v, sh, nr, sg, od, bk, ht, hct, hn, hm, hv, hnr, hmm, hsg, ho, hp, hrw, htm, hmt, hkn, hth⟩ := hR
  obtain ⟨n12, hi4, hj0, hh, hd, hhd⟩ := id hn
  have hin : vp_in (nI c) 12 := vin hc (by omega)
  have hcl : (nI c).toNatClampNeg = c := nI_clamp (by omega)
  have hti := hth.1 c hc
  -- which way the class goes, and the reference
  have hw : ∃ w : Bool, (76 = s1 ↔ w = true) := by
    rcases hs with rfl | rfl
    · exact ⟨true, by decide⟩
    · exact ⟨false, by decide⟩
  obtain ⟨w, hw⟩ := hw
  have goC : ∀ P : Int32 → ((Nat → Int32) × (Nat → Nat → Int32)) → Prop, g_Pw_trySetHouse I T L K F (nI c) (bI w) (fun r3 u4 => (isB r3 ∧ P r3 (I, u4))) → g_Pw_tryAct I A T L K F s1 (nI (97 + c) - 97) P := by
    intro P h
    rw [nI_97]
    have h12 : g_Pw_tryAct_12 A T L K s1 (nI c) P I F := by
      refine ⟨fun z => ?_, fun z => ?_⟩
      · cases w
        · exact h
        · exact absurd (hw.mpr rfl).symm z
      · cases w
        · exact absurd (hw.mp z.symm) (by decide)
        · exact h
    rcases hs with rfl | rfl
    · exact c2t rfl h12
    · exact c2f (by decide) (n2t rfl h12)
  have goM : ∀ P : Int32 → (Nat → Nat → Int32) → Prop, ((J 0 ≤ nI c → P 0 B) ∧ (¬ J 0 ≤ nI c → ((¬ B 2 c = 5 → P 0 B) ∧ (B 2 c = 5 → g_Mo_setLit J B (nI c) (bI w) (fun r6 u7 => ((r6 = 0 → (P (0 : Int32) u7)) ∧ (¬ r6 = 0 → (P (1 : Int32) u7)))))))) → g_Mo_doAct J B s1 (nI (97 + c)) P := by
    intro P h
    refine y1 ?_
    rw [nI_97]
    have h17 : g_Mo_doAct_17 J s1 (nI (97 + c)) P B (nI c) := by
      refine ⟨h.1, fun z => ⟨hin, ?_⟩⟩
      rw [hcl]
      refine ⟨(h.2 z).1, fun z2 => ?_⟩
      have h48 := (h.2 z).2 z2
      refine ⟨fun z3 => ?_, fun z3 => ?_⟩
      · cases w
        · exact h48
        · exact absurd (hw.mpr rfl).symm z3
      · cases w
        · exact absurd (hw.mp z3.symm) (by decide)
        · exact h48
    rcases hs with rfl | rfl
    · exact c2t rfl h17
    · exact c2f (by decide) (n2t rfl h17)
  by_cases hcn : c < n
  · have hnle : ¬ J 0 ≤ nI c := by rw [hj0]; exact nI_ge hcn (by omega)
    cases hT : T c with
    | none =>
      refine ⟨false, I, F, B, fun P hP => goC P ?_, fun P hP => goM P ?_, hR0, fun _ _ => rfl, fun _ _ _ _ => rfl⟩
      · refine g_has n12 hi4 (fun i hi e => ?_) (fun h => absurd ⟨c, hcn, rfl⟩ h)
        refine c2f nz1 ⟨hin, ?_⟩
        rw [hcl]
        exact ⟨fun _ => ⟨Or.inl rfl, hP⟩, fun q hq => (by rw [hT] at hq; cases hq)⟩
      · exact c2f hnle (n2f (by rw [(thI_none hti hT).1]; decide) hP)
    | some q =>
      by_cases h5 : B 2 c = 5
      · obtain ⟨e0, e1, e2, e3, e4, e5, e6, e7, e8, -⟩ := thq_hs (thI_some hti hT).2 h5
        have hnew := hth.lit (x := J 3) (a2 := bI w) hc hT h5 (bI_B w)
        obtain ⟨t1, t2, t3⟩ := id ht
        refine ⟨decide (¬ B 8 c = bI w), I, sF (if ¬ bI w = 0 ∧ F q 5 = 0 then sF F q 6 (I 0) else F) q 5 (bI w), sA (sA B 9 (nI c) (if ¬ bI w = 0 ∧ ¬ B 8 c = bI w then J 3 else B 9 c)) 8 (nI c) (vp_nar .boolean (bI w)), fun P hP => goC P ?_, fun P hP => goM P ?_, ?_, fun _ _ => rfl, fun c h1 h2 h3 => ?_⟩
        · refine g_has n12 hi4 (fun i hi e => ?_) (fun h => absurd ⟨c, hcn, rfl⟩ h)
          refine c2f nz1 ⟨hin, ?_⟩
          rw [hcl]
          refine ⟨fun z => (by rw [hT] at z; cases z), fun q' hq => ?_⟩
          rw [hT] at hq
          cases hq
          refine ⟨(thI_some hti hT).1, thq_isTh (thI_some hti hT).2, c2t e0 (C_setLit (bI_B w) (by rw [e7]; exact e8) ?_)⟩
          refine ⟨fun z => ⟨Or.inl rfl, ?_⟩, fun z => ⟨Or.inr rfl, ?_⟩⟩
          · rw [e7] at z
            rw [decide_eq_false (fun y => y z)] at hP
            exact hP
          · rw [e7] at z
            rw [decide_eq_true z] at hP
            exact hP
        · refine c2f hnle (n2t h5 (M_setLit hc ?_))
          refine ⟨fun z => ?_, fun z => ?_⟩
          · rw [bI_0.mp z] at hP; exact hP
          · rw [bI_n.mp z] at hP; exact hP
        · rw [t3, ← t2] at hnew
          rw [t3, ← t2]
          exact ⟨tk, n, m, v, sh, nr, sg, od, bk, ht, hct, hn, hm, hv, hnr, hmm, hsg, ho, hp, hrw, htm, hmt, hkn, hnew⟩
        · rw [sA_ne h1, sA_ne h2]
      · refine ⟨false, I, F, B, fun P hP => goC P ?_, fun P hP => goM P ?_, hR0, fun _ _ => rfl, fun _ _ _ _ => rfl⟩
        · refine g_has n12 hi4 (fun i hi e => ?_) (fun h => absurd ⟨c, hcn, rfl⟩ h)
          refine c2f nz1 ⟨hin, ?_⟩
          rw [hcl]
          refine ⟨fun z => (by rw [hT] at z; cases z), fun q' hq => ?_⟩
          rw [hT] at hq
          cases hq
          refine ⟨(thI_some hti hT).1, thq_isTh (thI_some hti hT).2, c2f (fun z => h5 ((thq_house (thI_some hti hT).2).mp z)) ⟨Or.inl rfl, hP⟩⟩
        · exact c2f hnle (n2f h5 hP)
  · refine ⟨false, I, F, B, fun P hP => goC P ?_, fun P hP => goM P ?_, hR0, fun _ _ => rfl, fun _ _ _ _ => rfl⟩
    · refine g_has n12 hi4 (fun i hi e => ?_) (fun h => c2t rfl ⟨Or.inl rfl, hP⟩)
      rw [nI_eq (by omega) (by omega)] at e
      omega
    · exact c2t (by rw [hj0]; exact nI_le (by omega) (by omega)) hP
theorem act_valve {c : Nat} {s1 : Int32} (hs : s1 = 83 ∨ s1 = 79) (hc : c < 18) (hR : Rel k I A T L K F J B) : actE k I A T L K F J B s1 (nI (97 + c)) := by
  have hR0 := hR
  obtain ⟨tk, n, m, v, sh, nr, sg, od, bk, ht, hct, hn, hm, hv, hnr, hmm, hsg, ho, hp, hrw, htm, hmt, hkn, hth⟩ := hR
  obtain ⟨v12, hi10, hj2, hi11, hsh, hvs, hvi⟩ := id hv
  have hw : ∃ w : Bool, (83 = s1 ↔ w = true) := by
    rcases hs with rfl | rfl
    · exact ⟨true, by decide⟩
    · exact ⟨false, by decide⟩
  obtain ⟨w, hw⟩ := hw
  have n76 : ¬ s1 = 76 := by rcases hs with rfl | rfl <;> decide
  have n68 : ¬ s1 = 68 := by rcases hs with rfl | rfl <;> decide
  have hfd : fd (fun i => A 21 i = nI c) v 0 = fd (fun i => B 18 i = nI c) v 0 := fd_cong _ _ fun i h1 h2 => by rw [(hvs i (by omega)).2.1]
  have goC : ∀ P : Int32 → ((Nat → Int32) × (Nat → Nat → Int32)) → Prop, g_Pw_trySetValve I A (nI c) (bI w) (fun r7 u8 => (isB r7 ∧ P r7 (u8, F))) → g_Pw_tryAct I A T L K F s1 (nI (97 + c) - 97) P := by
    intro P h
    rw [nI_97]
    refine c2f n76 (n2f n68 ⟨fun z => ?_, fun z => ?_⟩)
    · cases w
      · exact h
      · exact absurd (hw.mpr rfl).symm z
    · cases w
      · exact absurd (hw.mp z.symm) (by decide)
      · exact h
  cases hx : fd (fun i => B 18 i = nI c) v 0 with
  | none =>
    refine ⟨false, I, F, B, fun P hP => goC P ?_, fun P hP => ?_, hR0, fun _ _ => rfl, fun _ _ _ _ => rfl⟩
    · refine C_valveIn hi10 v12 rfl ?_
      rw [hfd, hx]
      exact c2t rfl ⟨Or.inl rfl, hP⟩
    · refine y1 (c2f n76 (n2f n68 ?_))
      rw [nI_97]
      refine M_valveByMap hj2 v12 ?_
      rw [hx]
      exact c2t (by decide) hP
  | some x =>
    obtain ⟨-, hxv, -⟩ := fd_some hx
    have hxv : x < v := by omega
    have hb := (hvs x hxv).2.2.1
    have hin : vp_in (nI x) 12 := vin (by omega) (by omega)
    have hcl : (nI x).toNatClampNeg = x := nI_clamp (by omega)
    have hne6 : ¬ nI x = -6 := fun z => nI_pos (n := x) (by omega) (by rw [z]; decide)
    have goM : ∀ P : Int32 → (Nat → Nat → Int32) → Prop, ((¬ bI (sh.testBit x) = bI w → P 1 (sA B 19 (nI x) (vp_nar .boolean (bI w)))) ∧ (bI (sh.testBit x) = bI w → P 0 B)) → g_Mo_doAct J B s1 (nI (97 + c)) P := by
      intro P h
      refine y1 (c2f n76 (n2f n68 ?_))
      rw [nI_97]
      refine M_valveByMap hj2 v12 ?_
      rw [hx]
      refine c2f (nI_pos (by omega)) ⟨hin, ?_⟩
      show (¬ s1 = 83 → g_Mo_doAct_90 J s1 (nI (97 + c)) P B (nI x) (B 19 (nI x).toNatClampNeg) 0) ∧ (s1 = 83 → g_Mo_doAct_90 J s1 (nI (97 + c)) P B (nI x) (B 19 (nI x).toNatClampNeg) 1)
      rw [hcl, hb]
      refine ⟨fun z => ⟨fun y => ?_, fun y => ?_⟩, fun z => ⟨fun y => ?_, fun y => ?_⟩⟩
      · cases w
        · exact n2f z ⟨hin, h.1 y⟩
        · exact absurd (hw.mpr rfl).symm z
      · cases w
        · exact h.2 y
        · exact absurd (hw.mpr rfl).symm z
      · cases w
        · exact absurd (hw.mp z.symm) (by decide)
        · exact n2t z ⟨hin, h.1 y⟩
      · cases w
        · exact absurd (hw.mp z.symm) (by decide)
        · exact h.2 y
    by_cases hq : sh.testBit x = w
    · refine ⟨false, I, F, B, fun P hP => goC P ?_, fun P hP => goM P (n2t (by rw [hq]) hP), hR0, fun _ _ => rfl, fun _ _ _ _ => rfl⟩
      refine C_valveIn hi10 v12 rfl ?_
      rw [hfd, hx]
      refine c2f hne6 (g_isShut hi11 rfl (by omega) ?_)
      rw [hq]
      exact n2t rfl ⟨Or.inl rfl, hP⟩
    · have hq' : ¬ bI (sh.testBit x) = bI w := fun z => hq (bI_inj.mp z)
      refine ⟨true, va_up I 11 (I 11 ^^^ ((1 : Int32) <<< (nI x &&& 31))), F, sA B 19 (nI x) (vp_nar .boolean (bI w)), fun P hP => goC P ?_, fun P hP => goM P (n2f hq' hP), ?_, fun c hc => va_un hc, fun c h1 h2 h3 => sA_ne h3⟩
      · refine C_valveIn hi10 v12 rfl ?_
        rw [hfd, hx]
        refine c2f hne6 (g_isShut hi11 rfl (by omega) (n2f hq' (C_turnValve hi11 (by omega) ⟨Or.inr rfl, hP⟩)))
      · have hnw : w = !sh.testBit x := by
          cases w <;> cases e : sh.testBit x <;> rw [e] at hq <;> first | rfl | exact absurd rfl hq
        exact ⟨tk, n, m, v, sh ^^^ 2 ^ x, nr, sg, od, bk, ht, hct, hn, hm, hv.turn hxv (by rw [nar_B (bI_B w), hnw]), hnr, hmm, hsg, ho, hp, hrw, htm, hmt, hkn, hth⟩
theorem act_both {f : Nat → Int32} {q : Nat} (h : Act f q) (hR : Rel k I A T L K F J B) : actE k I A T L K F J B (f q) (f (q + 1)) := by
  rcases h with ⟨h1, c, hc, e⟩ | ⟨h1, c, hc, e⟩
  · rw [e]; exact act_house h1 hc hR
  · rw [e]; exact act_valve h1 hc hR
end ACTS
section GO
variable {o z : Nat} {f : Nat → Int32} {J : Nat → Int32} {B : Nat → Nat → Int32} {a2 : Int32} {P : Int32 → ((Nat → Int32) × (Nat → Nat → Int32)) → Prop} {X : (Nat → Int32) → (Nat → Nat → Int32) → Int32 → Prop}
def oM6 (o z : Nat) (f : Nat → Int32) (B : Nat → Nat → Int32) : Prop := o < 6 ∧ z ≤ 40 ∧ B 25 o = nI z ∧ ∀ i, i < z → B 26 (40 * o + i) = f i
def vM (f : Nat → Int32) (B : Nat → Nat → Int32) (mi : Int32) (p : Nat) : Int32 := if f p = 109 then mi else if f p = 103 then B 12 (f (p + 1) - 97).toNatClampNeg else if B 2 (f (p + 1) - 97).toNatClampNeg = 4 then B 7 (f (p + 1) - 97).toNatClampNeg else 0
theorem M_dig {q nd : Nat} {kx : (Nat → Int32) → (Nat → Nat → Int32) → Int32 → Int32 → Int32 → Int32 → Int32 → Int32 → Int32 → Int32 → Prop} {x3 x4 x5 x7 x8 x9 : Int32} (h : oM6 o z f B) (hz : q + nd < z) (hd : ∀ i, i < nd → dgt (f (q + i)) = true) (he : dgt (f (q + nd)) = false) : ∀ (r j : Nat) (x : Int32), j + r = nd → kx J B x3 x4 x5 (nI (q + nd)) x7 x8 x9 (lp (fun i x => 10 * x + f (q + i) - 48) r j x) → g_Mo_goThrough_129 (nI o) a2 P kx (r + 1) J B x3 x4 x5 (nI (q + j)) x7 x8 x9 x
  | 0, j, x, hj, hX => by
    have e : j = nd := by omega
    subst e
    obtain ⟨h1, h2, h3, h4⟩ := h
    unfold g_Mo_goThrough_129
    rw [at40, nI_clamp (by omega), h4 _ hz]
    refine ⟨vin (by omega) (by omega), g_mf ?_ (c2t rfl hX)⟩
    intro z; rw [show dgt (f (q + j)) = true from decide_eq_true z] at he; cases he
  | r + 1, j, x, hj, hX => by
    have ih := M_dig h hz hd he r (j + 1) (10 * x + f (q + j) - 48) (by omega) hX
    obtain ⟨h1, h2, h3, h4⟩ := h
    unfold g_Mo_goThrough_129
    rw [at40, nI_clamp (by omega), h4 _ (by omega)]
    refine ⟨vin (by omega) (by omega), g_mt (of_decide_eq_true (hd j (by omega))) (c2f nz1 ⟨vin (by omega) (by omega), y1 ?_⟩)⟩
    rw [nI_1]
    exact ih
theorem M_stepT {p ofp nd : Nat} {mi x3 x4 : Int32} {V : Nat → Int32} {so : Bool} {N : Nat} (h : oM6 o z f B) (ht : Tst f p ofp nd) (hz : p + ofp + 1 + nd < z) (he : f (p + ofp + 1 + nd) = 38 ∨ f (p + ofp + 1 + nd) = 58) (hmi : mi = ((J 3) / (4 : Int32)) - ((J 3) / (4 : Int32)) / (1440 : Int32) * (1440 : Int32)) (hV : vM f B mi p = V p)
    (hN : g_Mo_goThrough_16 (nI o) a2 P X N J B x3 x4 (bI (so && tv f V p)) (nI (p + ofp + 1 + nd))) : g_Mo_goThrough_16 (nI o) a2 P X (N + 1) J B x3 x4 (bI so) (nI p) := by
  have hh := h
  obtain ⟨h1, h2, h3, h4⟩ := h
  obtain ⟨e1, e2, e3⟩ := ht.of he
  have hnd : dgt (f (p + ofp + 1 + nd)) = false := by rcases he with q | q <;> rw [q] <;> decide
  have ho : (nI o).toNatClampNeg = o := nI_clamp (by omega)
  refine ⟨vin h1 (by omega), ?_⟩
  rw [ho, h3]
  refine c2f (nI_ge (by omega) (by omega)) ?_
  rw [at40]
  refine ⟨vin (by omega) (by omega), y1 ?_⟩
  rw [nI_clamp (by omega), h4 p (by omega)]
  -- the end of it: what is compared
  have fin : ∀ s0, s0 = V p → g_Mo_goThrough_239 (nI o) a2 P (g_Mo_goThrough_16 (nI o) a2 P X N) J B x3 x4 (bI so) (nI (p + ofp + 1 + nd)) (f (p + ofp)) (numT f (p + ofp + 1) nd) s0 := by
    intro s0 hs0
    subst hs0
    cases so with
    | false => exact c2t rfl hN
    | true =>
      refine c2f nz1 ?_
      rw [Bool.true_and] at hN
      unfold tv at hN
      rw [e1, e2] at hN
      refine ⟨fun c => ?_, fun c => ?_⟩
      · rw [if_neg c] at hN
        refine ⟨fun c2 => ?_, fun c2 => ?_⟩
        · rw [decide_eq_true c2] at hN; exact hN
        · rw [decide_eq_false c2] at hN; exact hN
      · rw [if_pos c] at hN
        refine ⟨fun c2 => ?_, fun c2 => ?_⟩
        · rw [decide_eq_true c2] at hN; exact hN
        · rw [decide_eq_false c2] at hN; exact hN
  have g106 : ∀ (x8 : Int32), ((¬ f p = 109 → ((¬ f p = 103 → (vp_in x8 12 ∧ (if B 2 x8.toNatClampNeg = 4 then B 7 x8.toNatClampNeg else 0) = V p)) ∧ (f p = 103 → (vp_in x8 12 ∧ B 12 x8.toNatClampNeg = V p)))) ∧ (f p = 109 → mi = V p)) → ∀ s1, s1 = nI ofp → g_Mo_goThrough_106 (nI o) a2 P (g_Mo_goThrough_16 (nI o) a2 P X N) J B x3 x4 (bI so) (f p) x8 (nI p) s1 := by
    intro x8 hx8 s1 hs1
    subst hs1
    refine y1 ?_
    rw [nI_add, at40]
    refine ⟨vin (by omega) (by omega), y1 ?_⟩
    rw [nI_clamp (by omega), h4 (p + ofp) (by omega), nI_1]
    refine ⟨nd + 1, M_dig hh hz ht.2.2.2.2 hnd nd 0 0 (by omega) ?_⟩
    have hn : lp (fun i x => 10 * x + f (p + ofp + 1 + i) - 48) nd 0 0 = numT f (p + ofp + 1) nd := rfl
    rw [hn]
    refine ⟨fun c => ⟨fun c2 => ⟨((hx8.1 c).1 c2).1, fun c3 => ?_, fun c3 => ⟨((hx8.1 c).1 c2).1, ?_⟩⟩, fun c2 => ⟨((hx8.1 c).2 c2).1, ?_⟩⟩, fun c => ?_⟩
    · have := ((hx8.1 c).1 c2).2
      rw [if_neg c3] at this
      exact fin _ this
    · have := ((hx8.1 c).1 c2).2
      rw [if_pos c3] at this
      exact fin _ this
    · exact fin _ ((hx8.1 c).2 c2).2
    · rw [← hmi]; exact fin _ (hx8.2 c)
  have g62 : g_Mo_goThrough_62 (nI o) a2 P (g_Mo_goThrough_16 (nI o) a2 P X N) J B x3 x4 (bI so) (nI p) (f p) := by
    obtain ⟨t1, -⟩ := ht
    unfold vM at hV
    rcases t1 with ⟨rfl, q, c, hc, ec⟩ | ⟨rfl, q⟩
    · have hn : ¬ f p = 109 := by rcases q with q | q <;> rw [q] <;> decide
      rw [if_neg hn, ec, nI_97] at hV
      refine n2f hn ?_
      rw [at40, nI_1]
      refine ⟨vin (by omega) (by omega), n2f hn ?_⟩
      rw [nI_clamp (by omega), Nat.add_assoc, h4 (p + 1) (by omega), ec, nI_97]
      refine g106 _ ⟨fun _ => ⟨fun c2 => ⟨vin hc (by omega), ?_⟩, fun c2 => ⟨vin hc (by omega), ?_⟩⟩, fun z => absurd z hn⟩ 2 rfl
      · rw [if_neg c2] at hV; exact hV
      · rw [if_pos c2] at hV; exact hV
    · rw [if_pos q] at hV
      refine n2t q (n2t q (g106 _ ⟨fun z => absurd q z, fun _ => hV⟩ 1 rfl))
  obtain ⟨t1, -⟩ := ht
  rcases t1 with ⟨-, q | q, -⟩ | ⟨-, q⟩
  · exact c2t q g62
  · exact c2f (by rw [q]; decide) (c2t q g62)
  · exact c2f (by rw [q]; decide) (c2f (by rw [q]; decide) (n2t q g62))
end GO
