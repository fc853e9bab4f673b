/-! ===== layer 2: the class reads an order ===== -/
section RULES
variable {o od z : Nat} {f : Nat → Int32} {I : Nat → Int32} {A : Nat → Nat → Int32}
/-- the order o in the class: its signs are f, z of them -/
def oC6 (o od z : Nat) (f : Nat → Int32) (I : Nat → Int32) (A : Nat → Nat → Int32) : Prop := o < od ∧ od ≤ 6 ∧ z ≤ 40 ∧ I 13 = nI od ∧ A 23 o = nI z ∧ ∀ i, i < z → A (35 + o) i = f i
theorem C_hasO {P : Int32 → Prop} (h : oC6 o od z f I A) (p : P 1) : g_Or_hasOrder I (nI o) P := by
  obtain ⟨h1, h2, h3, h4, h5, h6⟩ := h
  exact c2f (nI_pos (by omega)) (c2f (by rw [h4]; exact nI_ge h1 (by omega)) p)
theorem C_sg {i : Nat} {P : Int32 → Prop} (h : oC6 o od z f I A) (hi : i < z) (p : P (f i)) : g_Or_signOf I A (nI o) (nI i) P := by
  refine C_hasO h (c2f nz1 ?_)
  obtain ⟨h1, h2, h3, h4, h5, h6⟩ := h
  have hin : vp_in (nI o) 6 := vin (by omega) (by omega)
  refine c2f (nI_pos (by omega)) ⟨hin, ?_⟩
  rw [nI_clamp (by omega), h5]
  refine c2f (nI_ge hi (by omega)) ⟨hin, vin (by omega) (by omega), ?_⟩
  rw [nI_clamp (by omega), h6 i hi]
  exact p
theorem g_fig {s : Int32} {P : Int32 → Prop} (p : P (bI (dgt s))) : g_Or_isFigure s P := by
  refine g_wi (fun h => ⟨Or.inr rfl, ?_⟩) (fun h => ⟨Or.inl rfl, ?_⟩)
  · rw [show dgt s = true from decide_eq_true h] at p; exact p
  · rw [show dgt s = false from decide_eq_false h] at p; exact p
theorem C_test_l {q nd : Nat} {v : Int32} {P X : Int32 → Prop} (h : oC6 o od z f I A) (hz : q + nd < z) (h5 : nd ≤ 5) (hd : ∀ i, i < nd → dgt (f (q + i)) = true) (he : dgt (f (q + nd)) = false) : ∀ (r j : Nat) (x : Int32), j + r = nd → X (lp (fun i x => 10 * x + f (q + i) - 48) r j x) → ∃ N, g_Or_isTestSo_6 I A (nI o) (nI q - 1) v P X N x (nI (j + 1))
  | 0, j, x, hj, hX => by
    have e : j = nd := by omega
    subst e
    refine ⟨1, ?_⟩
    have hz40 : z ≤ 40 := h.2.2.1
    by_cases c : j = 5
    · subst c; exact c2t (by decide) hX
    · refine c2f (nI_nlt (a := 5) (b := j + 1) (by omega) (by omega)) ?_
      have ea : nI q - 1 + nI (j + 1) = nI (q + j) := by
        rw [← nI_1, ← nI_add, Int32.sub_eq_add_neg, Int32.add_assoc, Int32.add_comm (-1), Int32.add_assoc, Int32.add_neg_eq_sub, Int32.sub_self, Int32.add_zero]
      rw [ea]
      refine C_sg h hz (g_fig ?_)
      rw [he]
      exact c2t rfl hX
  | r + 1, j, x, hj, hX => by
    have hz40 : z ≤ 40 := h.2.2.1
    obtain ⟨N, hN⟩ := C_test_l (P := P) h hz h5 hd he r (j + 1) (10 * x + f (q + j) - 48) (by omega) hX
    refine ⟨N + 1, c2f (nI_nlt (a := 5) (b := j + 1) (by omega) (by omega)) ?_⟩
    have ea : nI q - 1 + nI (j + 1) = nI (q + j) := by
      rw [← nI_1, ← nI_add, Int32.sub_eq_add_neg, Int32.add_assoc, Int32.add_comm (-1), Int32.add_assoc, Int32.add_neg_eq_sub, Int32.sub_self, Int32.add_zero]
    rw [ea]
    refine C_sg h (by omega) (g_fig ?_)
    rw [hd j (by omega)]
    refine c2f nz1 (C_sg h (by omega) (y1 ?_))
    rw [nI_1]
    exact hN
/-- the value that the class finds for the test at p -/
def vC (f : Nat → Int32) (A : Nat → Nat → Int32) (mi : Int32) (p : Nat) : Int32 := if f p = 109 then mi else if f p = 103 then A 4 (f (p + 1) - 97).toNatClampNeg else A 5 (f (p + 1) - 97).toNatClampNeg
theorem nI_97 (c : Nat) : nI (97 + c) - 97 = nI c := by
  rw [show (97 : Int32) = nI 97 from rfl, nI_sb (by omega)]; congr 1; omega
theorem C_value {p ofp nd : Nat} {mi : Int32} {P : Int32 → Prop} (h : oC6 o od z f I A) (ht : Tst f p ofp nd) (hz : p + ofp + 1 + nd < z) (hP : P (vC f A mi p)) : g_Or_valueFor I A (nI o) (nI p) 4 5 mi P := by
  obtain ⟨h1, -⟩ := ht
  refine C_sg h (by omega) ?_
  rw [nI_1]
  refine C_sg h (by omega) (y1 ?_)
  unfold vC at hP
  rcases h1 with ⟨-, q, c, hc, ec⟩ | ⟨-, q⟩
  · have hn : ¬ f p = 109 := by rcases q with q | q <;> rw [q] <;> decide
    rw [if_neg hn] at hP
    rw [ec, nI_97] at hP ⊢
    refine n2f hn (c2f (nI_pos (by omega)) (c2t (nI_lt (b := 12) hc (by omega)) ?_))
    have hin : vp_in (nI c) 12 := vin hc (by omega)
    refine ⟨fun z => ⟨hin, ?_⟩, fun z => ⟨hin, ?_⟩⟩
    · rw [if_neg z] at hP; exact hP
    · rw [if_pos z] at hP; exact hP
  · rw [if_pos q] at hP
    exact n2t q hP
theorem C_testSo {p ofp nd : Nat} {V : Nat → Int32} {P : Int32 → Prop} (h : oC6 o od z f I A) (ht : Tst f p ofp nd) (hz : p + ofp + 1 + nd < z) (he : f (p + ofp + 1 + nd) = 38 ∨ f (p + ofp + 1 + nd) = 58) (hP : P (bI (tv f V p))) : g_Or_isTestSo I A (nI o) (nI (p + ofp)) (V p) P := by
  obtain ⟨e1, e2, e3⟩ := ht.of he
  have hnd : dgt (f (p + ofp + 1 + nd)) = false := by rcases he with q | q <;> rw [q] <;> decide
  have ea : nI (p + ofp) = nI (p + ofp + 1) - 1 := (nI_pred _).symm
  have := C_test_l (q := p + ofp + 1) (nd := nd) (v := V p) (P := P) (X := fun (x4_7 : Int32) => g_Or_isTestSo_53 I A (nI o) (nI (p + ofp)) (V p) P  x4_7) h hz ht.2.2.2.1 ht.2.2.2.2 hnd nd 0 0 (by omega)
  unfold g_Or_isTestSo
  rw [ea]
  rw [ea] at this
  refine this ?_
  rw [← ea]
  refine C_sg h (by omega) ?_
  unfold tv at hP
  rw [e1, e2] at hP
  unfold numT at hP
  refine ⟨fun c => ?_, fun c => ?_⟩
  · rw [if_neg c] at hP
    refine ⟨fun c2 => ?_, fun c2 => ?_⟩
    · rw [decide_eq_true c2] at hP; exact hP
    · rw [decide_eq_false c2] at hP; exact hP
  · rw [if_pos c] at hP
    refine ⟨fun c2 => ?_, fun c2 => ?_⟩
    · rw [decide_eq_true c2] at hP; exact hP
    · rw [decide_eq_false c2] at hP; exact hP
theorem bI_and (a b : Bool) : bI a &&& bI b = bI (a && b) := by cases a <;> cases b <;> decide
section LOOP
variable {mi : Int32} {P X : Int32 → Prop}
theorem C_skip (h : oC6 o od z f I A) {x5 x6 x7 x8 : Int32} {N : Nat} : ∀ (r a : Nat), a + r ≤ z → (∀ i, i < r → ¬ f (a + i) = 38 ∧ ¬ f (a + i) = 58 ∧ ¬ f (a + i) = 59) → g_Or_rulesSo_25 I A (nI o) 4 5 mi P X N x5 x6 x7 x8 (nI (a + r)) → g_Or_rulesSo_25 I A (nI o) 4 5 mi P X (N + r) x5 x6 x7 x8 (nI a)
  | 0, a, _, _, hN => hN
  | r + 1, a, hz, hc, hN => by
    have ih := C_skip h r (a + 1) (by omega) (fun i hi => by have := hc (i + 1) (by omega); rw [show a + (i + 1) = a + 1 + i by omega] at this; exact this) (by rw [show a + 1 + r = a + (r + 1) by omega]; exact hN)
    obtain ⟨h1, h2, h3, h4, h5, h6⟩ := id h
    have hin : vp_in (nI o) 6 := vin (by omega) (by omega)
    refine ⟨hin, ?_⟩
    rw [nI_clamp (by omega), h5]
    refine c2f (nI_ge (by omega) (by omega)) ⟨hin, vin (by omega) (by omega), y1 ?_⟩
    rw [nI_clamp (by omega), h6 a (by omega)]
    obtain ⟨q1, q2, q3⟩ := hc 0 (by omega)
    rw [Nat.add_zero] at q1 q2 q3
    refine c2f q1 (n2f q2 (n2f q2 (n2f q3 ?_)))
    show g_Or_rulesSo_25 I A (nI o) 4 5 mi P X (N + r) x5 x6 x7 x8 (nI a + 1)
    rw [nI_1]
    exact ih
theorem C_stepT (h : oC6 o od z f I A) {p ofp nd : Nat} {x5 x6 : Int32} {so : Bool} {N : Nat} (ht : Tst f p ofp nd) (hz : p + ofp + 1 + nd < z) (he : f (p + ofp + 1 + nd) = 38 ∨ f (p + ofp + 1 + nd) = 58)
    (hN : g_Or_rulesSo_115 I A (nI o) 4 5 mi P (g_Or_rulesSo_25 I A (nI o) 4 5 mi P X N) x5 x6 (nI (p + ofp + 1 + nd + 1)) (bI (so && tv f (vC f A mi) p)) (nI (p + ofp + 1 + nd)) (f (p + ofp + 1 + nd))) :
    g_Or_rulesSo_25 I A (nI o) 4 5 mi P X (N + 1 + (ofp + 1 + nd)) x5 x6 (nI p) (bI so) (nI p) := by
  refine C_skip h (ofp + 1 + nd) p (by omega) ?_ ?_
  · obtain ⟨t1, t2, t3, t4, t5⟩ := ht
    have d0 : ∀ s : Int32, dgt s = true → ¬ s = 38 ∧ ¬ s = 58 ∧ ¬ s = 59 := by
      intro s hs
      refine ⟨?_, ?_, ?_⟩ <;> (intro e; subst e; exact absurd hs (by decide))
    have l0 : ∀ c, c < 12 → ¬ nI (97 + c) = 38 ∧ ¬ nI (97 + c) = 58 ∧ ¬ nI (97 + c) = 59 := by decide
    intro i hi
    rcases Nat.lt_trichotomy i ofp with c | c | c
    · rcases t1 with ⟨rfl, q, cc, hcc, ecc⟩ | ⟨rfl, q⟩
      · rcases i with _ | i
        · rcases q with q | q <;> (rw [Nat.add_zero, q]; decide)
        · have : i = 0 := by omega
          subst this
          rw [Nat.zero_add, ecc]; exact l0 cc hcc
      · have : i = 0 := by omega
        subst this
        rw [Nat.add_zero, q]; decide
    · subst c
      rcases t2 with q | q <;> (rw [q]; decide)
    · have := t5 (i - (ofp + 1)) (by omega)
      rw [show p + ofp + 1 + (i - (ofp + 1)) = p + i by omega] at this
      exact d0 _ this
  · rw [show p + (ofp + 1 + nd) = p + ofp + 1 + nd by omega]
    obtain ⟨h1, h2, h3, h4, h5, h6⟩ := id h
    have hin : vp_in (nI o) 6 := vin (by omega) (by omega)
    refine ⟨hin, ?_⟩
    rw [nI_clamp (by omega), h5]
    refine c2f (nI_ge (by omega) (by omega)) ⟨hin, vin (by omega) (by omega), y1 ?_⟩
    rw [nI_clamp (by omega), h6 _ hz]
    have core : g_Or_rulesSo_61 I A (nI o) 4 5 mi P (g_Or_rulesSo_25 I A (nI o) 4 5 mi P X N) x5 x6 (nI p) (bI so) (nI (p + ofp + 1 + nd)) (f (p + ofp + 1 + nd)) := by
      refine C_value h ht hz (C_sg h (by omega) ?_)
      have go : g_Or_rulesSo_101 I A (nI o) 4 5 mi P (g_Or_rulesSo_25 I A (nI o) 4 5 mi P X N) x5 x6 (nI (p + ofp + 1 + nd)) (f (p + ofp + 1 + nd)) (vC f A mi p) (bI so) (nI o) (nI (p + ofp)) := by
        refine C_testSo (V := vC f A mi) h ht hz he (y1 (y1 ?_))
        rw [bI_and, nI_1]
        exact hN
      obtain ⟨t1, -⟩ := ht
      rcases t1 with ⟨rfl, q, -⟩ | ⟨rfl, q⟩
      · refine n2f (by rcases q with q | q <;> rw [q] <;> decide) ?_
        rw [show nI p + (2 : Int32) = nI (p + 2) from nI_add p 2]
        exact go
      · refine n2t q ?_
        rw [nI_1]
        exact go
    rcases he with q | q
    · exact c2t q core
    · exact c2f (by rw [q]; decide) (n2t q core)
end LOOP
theorem bts_nI {so : Bool} {bits r : Nat} (hr : r < 31) {Q : Int32 → Prop} (h : Q (nI (bts so bits r))) : (bI so = 0 → Q (nI bits)) ∧ (¬ bI so = 0 → ∀ y, y = (nI bits ||| ((1 : Int32) <<< (nI r &&& 31))) → Q y) := by
  cases so
  · exact c2t rfl h
  · refine c2f nz1 (y1 ?_)
    rw [shl1 (by omega), fa_or]
    exact h
theorem C_rules {mi : Int32} {P X : Int32 → Prop} (h : oC6 o od z f I A) : ∀ (d p r : Nat) (so : Bool) (bits : Nat), Txt f z d p → 2 * r ≤ p → p < z → X (nI (ev f (vC f A mi) z d p r so bits)) → ∃ N, g_Or_rulesSo_25 I A (nI o) 4 5 mi P X N (nI bits) (nI r) (nI p) (bI so) (nI p)
  | 0, _, _, _, _, ht, _, _, _ => ht.elim
  | d + 1, p, r, so, bits, ht, hr, hp, hX => by
    obtain ⟨ofp, nd, e, t1, t2, t3, t4⟩ := ht
    subst t2
    have hz40 := h.2.2.1
    have he : f (p + ofp + 1 + nd) = 38 ∨ f (p + ofp + 1 + nd) = 58 := by
      rcases t4 with q | q
      · exact Or.inl q.1
      · exact Or.inr q.1
    obtain ⟨e1, e2, e3⟩ := t1.of he
    unfold ev at hX
    rw [e3] at hX
    rcases t4 with ⟨q1, q2⟩ | ⟨q1, q2, q3⟩
    · rw [if_pos q1] at hX
      have hp' : p + ofp + 1 + nd + 1 < z := by
        cases d with
        | zero => exact q2.elim
        | succ d => obtain ⟨_, _, _, _, w1, w2, _⟩ := q2; omega
      obtain ⟨N, hN⟩ := C_rules h d (p + ofp + 1 + nd + 1) r (so && tv f (vC f A mi) p) bits q2 (by omega) hp' hX
      refine ⟨_, C_stepT h t1 t3 he (N := N) ?_⟩
      rw [q1]
      refine n2f (by decide) (n2f (by decide) ?_)
      show g_Or_rulesSo_25 I A (nI o) 4 5 mi P X N _ _ _ _ (_ + 1)
      rw [nI_1]
      exact hN
    · have n38 : ¬ f (p + ofp + 1 + nd) = 38 := by rw [q1]; decide
      rw [if_neg n38] at hX
      have hact : ∀ i, i < 2 → ¬ f (p + ofp + 1 + nd + 1 + i) = 38 ∧ ¬ f (p + ofp + 1 + nd + 1 + i) = 58 ∧ ¬ f (p + ofp + 1 + nd + 1 + i) = 59 := by
        have l0 : ∀ c, c < 18 → ¬ nI (97 + c) = 38 ∧ ¬ nI (97 + c) = 58 ∧ ¬ nI (97 + c) = 59 := by decide
        intro i hi
        rcases i with _ | i
        · rw [Nat.add_zero]
          rcases q2 with ⟨w | w, -⟩ | ⟨w | w, -⟩ <;> (rw [w]; decide)
        · have : i = 0 := by omega
          subst this
          rw [Nat.zero_add]
          rcases q2 with ⟨-, c, hc, w⟩ | ⟨-, c, hc, w⟩ <;> (rw [w]; exact l0 c (by omega))
      have hr' : r < 31 := by omega
      obtain ⟨N, hN⟩ : ∃ N, g_Or_rulesSo_25 I A (nI o) 4 5 mi P X N (nI (bts (so && tv f (vC f A mi) p) bits r)) (nI r) (nI (p + ofp + 1 + nd + 1)) (bI (so && tv f (vC f A mi) p)) (nI (p + ofp + 1 + nd + 1)) := by
        obtain ⟨h1, h2, h3, h4, h5, h6⟩ := id h
        have hin : vp_in (nI o) 6 := vin (by omega) (by omega)
        rcases q3 with q | ⟨w1, w2, w3⟩
        · rw [if_pos q] at hX
          refine ⟨1 + 2, C_skip h 2 _ (by omega) hact ⟨hin, ?_⟩⟩
          rw [nI_clamp (by omega), h5]
          exact c2t (nI_le (by omega) (by omega)) hX
        · rw [if_neg (by omega)] at hX
          have hp' : p + ofp + 1 + nd + 4 < z := by
            cases d with
            | zero => exact w3.elim
            | succ d => obtain ⟨_, _, _, _, v1, v2, _⟩ := w3; omega
          obtain ⟨N, hN⟩ := C_rules h d (p + ofp + 1 + nd + 4) (r + 1) true (bts (so && tv f (vC f A mi) p) bits r) w3 (by omega) hp' hX
          refine ⟨N + 1 + 2, C_skip h 2 _ (by omega) hact ⟨hin, ?_⟩⟩
          rw [nI_clamp (by omega), h5]
          refine c2f (nI_ge (by omega) (by omega)) ⟨hin, vin (by omega) (by omega), y1 ?_⟩
          rw [nI_clamp (by omega), h6 _ (by omega), show p + ofp + 1 + nd + 1 + 2 = p + ofp + 1 + nd + 3 by omega, w1]
          refine c2f (by decide) (n2f (by decide) (n2f (by decide) (n2t rfl (y1 ?_))))
          show g_Or_rulesSo_25 I A (nI o) 4 5 mi P X N _ _ _ _ (_ + 1)
          rw [nI_1, nI_1]
          exact hN
      refine ⟨_, C_stepT h t1 t3 he (N := N) ?_⟩
      rw [q1]
      refine n2t rfl ?_
      have hcore : g_Or_rulesSo_136 I A (nI o) 4 5 mi P (g_Or_rulesSo_25 I A (nI o) 4 5 mi P X N) (nI (bts (so && tv f (vC f A mi) p) bits r)) (nI r) (nI (p + ofp + 1 + nd + 1)) (bI (so && tv f (vC f A mi) p)) (nI (p + ofp + 1 + nd)) 58 := by
        refine n2f (by decide) ?_
        show g_Or_rulesSo_25 I A (nI o) 4 5 mi P X N _ _ _ _ (_ + 1)
        rw [nI_1]
        exact hN
      exact bts_nI (Q := fun y => g_Or_rulesSo_136 I A (nI o) 4 5 mi P (g_Or_rulesSo_25 I A (nI o) 4 5 mi P X N) y (nI r) (nI (p + ofp + 1 + nd + 1)) (bI (so && tv f (vC f A mi) p)) (nI (p + ofp + 1 + nd)) 58) hr' hcore
theorem C_rulesSo {mi : Int32} {P : Int32 → Prop} {d : Nat} (h : oC6 o od z f I A) (ht : Txt f z d 0) (hz : 0 < z) (hP : P (nI (ev f (vC f A mi) z d 0 0 true 0))) : g_Or_rulesSo I A (nI o) 4 5 mi P :=
  C_hasO h (n2f nz1 (C_rules h d 0 0 true 0 ht (by omega) hz hP))
end RULES
/-- the levels that the class notes down -/
theorem C_levels {I : Nat → Int32} {T : Nat → Option Nat} {L : List Nat} {K : Nat → Nat} {F : Nat → Nat → Int32} {n : Nat} {b2 b3 b4 b5 b6 b7 b8 b9 : Nat → Int32} {a1 : Int32} {A : Nat → Nat → Int32} {P : Int32 → (Nat → Nat → Int32) → Prop} {X : (Nat → Nat → Int32) → Prop} (hth : Rth n T L K F b2 b3 b4 b5 b6 b7 b8 b9)
    (hX : X (va_up A 5 (fa_fill b7 (A 5) 12))) : ∀ (d j : Nat), j + d = 12 → g_Pw_rulesThatAreSo_2 I T L K F a1 P X (d + 1) (va_up A 5 (fa_fill b7 (A 5) j)) (nI j)
  | 0, j, hj => by
    have e : j = 12 := by omega
    subst e
    exact c2t (by decide) hX
  | d + 1, j, hj => by
    have hti := hth.1 j (by omega)
    have go : g_Pw_rulesThatAreSo_35 I T L K F a1 P (g_Pw_rulesThatAreSo_2 I T L K F a1 P X (d + 1)) (va_up A 5 (fa_fill b7 (A 5) j)) (nI j) (nI j) (b7 j) := by
      refine ⟨vin (by omega) (by omega), ?_⟩
      rw [nI_1]
      have e : sA (va_up A 5 (fa_fill b7 (A 5) j)) 5 (nI j) (b7 j) = va_up A 5 (fa_fill b7 (A 5) (j + 1)) := by
        refine fr_up (fun c hc => ?_) ?_
        · rw [sA_ne hc, va_un hc]
        · rw [sA_at, nI_clamp (by omega), vu_at]; exact fa_fill_succ b7 (A 5) j
      rw [e]
      exact C_levels hth hX d (j + 1) (by omega)
    refine c2f (nI_ge (b := 12) (by omega) (by omega)) ⟨vin (by omega) (by omega), ?_⟩
    rw [nI_clamp (by omega)]
    refine ⟨fun hT => ?_, fun q hT => ?_⟩
    · rw [(thI_none hti hT).2.1] at go
      exact go
    · exact C_held (thI_some hti hT).1 (thI_some hti hT).2 go
