/-! ===== layer 2: does, why ===== -/
section WALK
def cnt58 (f : Nat → Int32) (n : Nat) : Nat := fa_cnt (fun i => decide (f i = 58)) n
theorem cnt_mono {f : Nat → Int32} : ∀ (d a : Nat), cnt58 f a ≤ cnt58 f (a + d)
  | 0, _ => Nat.le_refl _
  | d + 1, a => by
    have := cnt_mono (f := f) d a
    have e : cnt58 f (a + (d + 1)) = cnt58 f (a + d) + (if decide (f (a + d) = 58) then 1 else 0) := rfl
    rw [e]; omega
theorem cnt_at {f : Nat → Int32} {a : Nat} (h : f a = 58) : cnt58 f (a + 1) = cnt58 f a + 1 := fa_cnt_yes (decide_eq_true h)
theorem cnt_skip {f : Nat → Int32} : ∀ (r a : Nat), (∀ i, i < r → ¬ f (a + i) = 58) → cnt58 f (a + r) = cnt58 f a
  | 0, _, _ => rfl
  | r + 1, a, h => by
    have ih := cnt_skip r a (fun i hi => h i (by omega))
    have : cnt58 f (a + (r + 1)) = cnt58 f (a + r) := fa_cnt_no (decide_eq_false (h r (by omega)))
    omega
theorem Tst.ns {f : Nat → Int32} {p ofp nd : Nat} (ht : Tst f p ofp nd) : ∀ i, i < ofp + 1 + nd → ¬ f (p + i) = 58 := by
  obtain ⟨t1, t2, t3, t4, t5⟩ := ht
  have l0 : ∀ c, c < 12 → ¬ nI (97 + c) = 58 := by decide
  intro i hi
  rcases Nat.lt_trichotomy i ofp with c | c | c
  · rcases t1 with ⟨rfl, q, cc, hcc, ecc⟩ | ⟨rfl, q⟩
    · rcases i with _ | i
      · rcases q with q | q <;> (rw [Nat.add_zero, q]; decide)
      · have : i = 0 := by omega
        subst this
        rw [Nat.zero_add, ecc]; exact l0 cc hcc
    · have : i = 0 := by omega
      subst this
      rw [Nat.add_zero, q]; decide
  · subst c
    rcases t2 with q | q <;> (rw [q]; decide)
  · have := t5 (i - (ofp + 1)) (by omega)
    rw [show p + ofp + 1 + (i - (ofp + 1)) = p + i by omega] at this
    intro e; rw [e] at this; exact absurd this (by decide)
theorem Act.ns {f : Nat → Int32} {q : Nat} (h : Act f q) : ∀ i, i < 2 → ¬ f (q + i) = 58 := by
  have l0 : ∀ c, c < 18 → ¬ nI (97 + c) = 58 := by decide
  intro i hi
  rcases i with _ | i
  · rw [Nat.add_zero]
    rcases h with ⟨w | w, -⟩ | ⟨w | w, -⟩ <;> (rw [w]; decide)
  · have : i = 0 := by omega
    subst this
    rw [Nat.zero_add]
    rcases h with ⟨-, c, hc, w⟩ | ⟨-, c, hc, w⟩ <;> (rw [w]; exact l0 c (by omega))
theorem bts_bit {so : Bool} {bits r i : Nat} : (bts so bits r).testBit i = (bits.testBit i || (so && decide (r = i))) := by
  unfold bts
  cases so
  · simp
  · simp [Nat.testBit_or, Nat.testBit_two_pow]
theorem ev_low {f V : Nat → Int32} {z : Nat} : ∀ (d p r : Nat) (so : Bool) (bits i : Nat), i < r → (ev f V z d p r so bits).testBit i = bits.testBit i
  | 0, _, _, _, _, _, _ => rfl
  | d + 1, p, r, so, bits, i, hi => by
    have hb : (bts (so && tv f V p) bits r).testBit i = bits.testBit i := by
      rw [bts_bit, decide_eq_false (by omega), Bool.and_false, Bool.or_false]
    unfold ev
    split
    · exact ev_low d _ r _ bits i hi
    · split
      · exact hb
      · rw [ev_low d _ (r + 1) _ _ i (by omega)]; exact hb
theorem ev_cong {f V V2 : Nat → Int32} {z : Nat} : ∀ (d p r : Nat) (so : Bool) (bits : Nat), (∀ p o nd, Tst f p o nd → V p = V2 p) → Txt f z d p → ev f V z d p r so bits = ev f V2 z d p r so bits
  | 0, _, _, _, _, _, _ => rfl
  | d + 1, p, r, so, bits, h, ht => by
    obtain ⟨ofp, nd, e, t1, t2, t3, t4⟩ := ht
    have etv : tv f V p = tv f V2 p := by unfold tv; rw [h p ofp nd t1]
    subst t2
    have he : f (p + ofp + 1 + nd) = 38 ∨ f (p + ofp + 1 + nd) = 58 := by
      rcases t4 with q | q
      · exact Or.inl q.1
      · exact Or.inr q.1
    obtain ⟨e1, e2, e3⟩ := t1.of he
    unfold ev
    rw [e3, etv]
    rcases t4 with ⟨q1, q2⟩ | ⟨q1, q2, q3⟩
    · rw [if_pos q1, if_pos q1, ev_cong d _ _ _ _ h q2]
    · have n38 : ¬ f (p + ofp + 1 + nd) = 38 := by rw [q1]; decide
      rw [if_neg n38, if_neg n38]
      rcases q3 with q | ⟨w1, w2, w3⟩
      · rw [if_pos q, if_pos q]
      · rw [if_neg (by omega), if_neg (by omega), ev_cong d _ _ _ _ h w3]
theorem C_actHit {o od z : Nat} {f : Nat → Int32} {I : Nat → Int32} {A : Nat → Nat → Int32} {P : Int32 → Prop} {X : Prop} {e : Nat} (h : oC6 o od z f I A) (he : f e = 58) (hz : e < z) (hP : P (nI (e + 1))) : ∀ (r a : Nat), a + r = e → g_Or_actOf_16 I A (nI o) (nI (cnt58 f e)) P X (r + 1) (nI (cnt58 f a)) (nI a)
  | r, a, hr => by
    obtain ⟨h1, h2, h3, h4, h5, h6⟩ := id h
    have hin : vp_in (nI o) 6 := vin (by omega) (by omega)
    have hle : ∀ x, cnt58 f x ≤ x := fun x => fa_cnt_le _ x
    have hl1 := hle a
    have hl2 := hle e
    refine ⟨hin, ?_⟩
    rw [nI_clamp (by omega), h5]
    refine c2f (nI_ge (by omega) (by omega)) ⟨hin, vin (by omega) (by omega), ?_⟩
    rw [nI_clamp (by omega), h6 a (by omega)]
    cases r with
    | zero =>
      have : a = e := by omega
      subst this
      refine n2t he (n2t rfl ?_)
      rw [nI_1]; exact hP
    | succ r =>
      have ih := C_actHit (X := X) h he hz hP r (a + 1) (by omega)
      refine ⟨fun c => ?_, fun c => ?_⟩
      · show g_Or_actOf_16 I A (nI o) (nI (cnt58 f e)) P X (r + 1) (nI (cnt58 f a)) (nI a + 1)
        rw [nI_1]
        have : cnt58 f (a + 1) = cnt58 f a := fa_cnt_no (decide_eq_false c)
        rw [this] at ih
        exact ih
      · have e1 := cnt_at c
        have e2 := cnt_mono (f := f) (e - (a + 1)) (a + 1)
        rw [show a + 1 + (e - (a + 1)) = e by omega] at e2
        refine n2f (fun z => ?_) ?_
        · rw [nI_eq (by omega) (by omega)] at z; omega
        · show g_Or_actOf_16 I A (nI o) (nI (cnt58 f e)) P X (r + 1) (nI (cnt58 f a) + 1) (nI a + 1)
          rw [nI_1, nI_1, ← e1]
          exact ih
theorem C_actNo {o od z : Nat} {f : Nat → Int32} {I : Nat → Int32} {A : Nat → Nat → Int32} {P : Int32 → Prop} {X : Prop} {ru : Nat} (h : oC6 o od z f I A) (hru : cnt58 f z ≤ ru) (hr40 : ru < 2 ^ 31) (hX : X) : ∀ (r a : Nat), a + r = z → g_Or_actOf_16 I A (nI o) (nI ru) P X (r + 1) (nI (cnt58 f a)) (nI a)
  | 0, a, hr => by
    obtain ⟨h1, h2, h3, h4, h5, h6⟩ := id h
    refine ⟨vin (by omega) (by omega), ?_⟩
    rw [nI_clamp (by omega), h5]
    exact c2t (nI_le (by omega) (by omega)) hX
  | r + 1, a, hr => by
    have ih := C_actNo (P := P) h hru hr40 hX r (a + 1) (by omega)
    obtain ⟨h1, h2, h3, h4, h5, h6⟩ := id h
    have hin : vp_in (nI o) 6 := vin (by omega) (by omega)
    have hl1 : cnt58 f a ≤ a := fa_cnt_le _ a
    refine ⟨hin, ?_⟩
    rw [nI_clamp (by omega), h5]
    refine c2f (nI_ge (by omega) (by omega)) ⟨hin, vin (by omega) (by omega), ?_⟩
    rw [nI_clamp (by omega), h6 a (by omega)]
    refine ⟨fun c => ?_, fun c => ?_⟩
    · show g_Or_actOf_16 I A (nI o) (nI ru) P X (r + 1) (nI (cnt58 f a)) (nI a + 1)
      rw [nI_1]
      have : cnt58 f (a + 1) = cnt58 f a := fa_cnt_no (decide_eq_false c)
      rw [this] at ih
      exact ih
    · have e1 := cnt_at c
      have e2 := cnt_mono (f := f) (z - (a + 1)) (a + 1)
      rw [show a + 1 + (z - (a + 1)) = z by omega] at e2
      refine n2f (fun w => ?_) ?_
      · rw [nI_eq (by omega) hr40] at w; omega
      · show g_Or_actOf_16 I A (nI o) (nI ru) P X (r + 1) (nI (cnt58 f a) + 1) (nI a + 1)
        rw [nI_1, nI_1, ← e1]
        exact ih
theorem C_actOfHit {o od z : Nat} {f : Nat → Int32} {I : Nat → Int32} {A : Nat → Nat → Int32} {P : Int32 → Prop} {e ru : Nat} (hru : cnt58 f e = ru) (h : oC6 o od z f I A) (he : f e = 58) (hz : e < z) (hP : P (nI (e + 1))) : g_Or_actOf I A (nI o) (nI ru) P := by
  subst hru
  exact C_hasO h (n2f nz1 ⟨e + 1, C_actHit h he hz hP e 0 (by omega)⟩)
theorem C_actOfNo {o od z : Nat} {f : Nat → Int32} {I : Nat → Int32} {A : Nat → Nat → Int32} {P : Int32 → Prop} {ru : Nat} (h : oC6 o od z f I A) (hru : cnt58 f z ≤ ru) (hr40 : ru < 2 ^ 31) (hP : P (-6)) : g_Or_actOf I A (nI o) (nI ru) P :=
  C_hasO h (n2f nz1 ⟨z + 1, C_actNo h hru hr40 hP z 0 (by omega)⟩)
theorem Rel.j12 {k : Nat} {I J : Nat → Int32} {A B : Nat → Nat → Int32} {T : Nat → Option Nat} {L : List Nat} {K : Nat → Nat} {F : Nat → Nat → Int32} {x : Int32} (h : Rel k I A T L K F J B) : Rel k I A T L K F (va_up J 12 x) B := h
theorem Rel.j12' {k : Nat} {I J : Nat → Int32} {A B : Nat → Nat → Int32} {T : Nat → Option Nat} {L : List Nat} {K : Nat → Nat} {F : Nat → Nat → Int32} {x : Int32} (h : Rel k I A T L K F (va_up J 12 x) B) : Rel k I A T L K F J B := h
section WK
variable {k o od z R : Nat} {f V I0 : Nat → Int32} {B0 A : Nat → Nat → Int32} {T : Nat → Option Nat} {L : List Nat} {K : Nat → Nat} {J : Nat → Int32} {a2 mi : Int32}
/-- what stays while an order is gone through -/
def ST (k : Nat) (A : Nat → Nat → Int32) (T : Nat → Option Nat) (L : List Nat) (K : Nat → Nat) (J I0 : Nat → Int32) (B0 : Nat → Nat → Int32) (I : Nat → Int32) (F B : Nat → Nat → Int32) : Prop :=
  Rel k I A T L K F J B ∧ (∀ c, c ≠ 11 → I c = I0 c) ∧ (∀ c, c ≠ 8 → c ≠ 9 → c ≠ 19 → B c = B0 c)
theorem oC6.i {I : Nat → Int32} (h : oC6 o od z f I0 A) (e : ∀ c, c ≠ 11 → I c = I0 c) : oC6 o od z f I A := by
  unfold oC6
  rw [e 13 (by omega)]
  exact h
theorem walk (hA2 : a2 = 0 ∨ a2 = 1) (hoC : oC6 o od z f I0 A) (hoM : oM6 o z f B0) (hmi : mi = ((J 3) / (4 : Int32)) - ((J 3) / (4 : Int32)) / (1440 : Int32) * (1440 : Int32)) (hV : ∀ p ofp nd, Tst f p ofp nd → vM f B0 mi p = V p) :
    ∀ (d p r : Nat) (so : Bool) (bits x : Nat) (I : Nat → Int32) (F B : Nat → Nat → Int32), Txt f z d p → 2 * r ≤ p → p < z → ev f V z d p r so bits = R → (∀ i, r ≤ i → bits.testBit i = false) → cnt58 f p = r → ST k A T L K J I0 B0 I F B →
    ∃ (I' : Nat → Int32) (F' B' : Nat → Nat → Int32) (x' : Nat), ST k A T L K J I0 B0 I' F' B' ∧
      (¬ a2 = 0 → ∀ (P : Int32 → ((Nat → Int32) × (Nat → Nat → Int32) × (Nat → Nat → Int32)) → Prop) (X : (Nat → Int32) → (Nat → Nat → Int32) → (Nat → Nat → Int32) → Int32 → Prop), X I' A F' (nI x') → ∃ N, g_Pw_does_38 T L K P X N I A F (nI o) (nI R) (nI x) (nI r)) ∧
      (∀ (P : Int32 → ((Nat → Int32) × (Nat → Nat → Int32)) → Prop) (X : (Nat → Int32) → (Nat → Nat → Int32) → Int32 → Prop), X (va_up J 12 (nI x')) B' (nI R) → ∃ N, g_Mo_goThrough_16 (nI o) a2 P X N (va_up J 12 (nI x)) B (nI r) (nI bits) (bI so) (nI p)) ∧ (a2 = 0 → I' = I ∧ F' = F)
  | 0, _, _, _, _, _, _, _, _, ht, _, _, _, _, _, _ => ht.elim
  | d + 1, p, r, so, bits, x, I, F, B, ht, hr, hp, hR, hbits, hcnt, hST => by
    obtain ⟨ofp, nd, e, t1, t2, t3, t4⟩ := ht
    subst t2
    have hz40 := hoC.2.2.1
    have ho6 : o < 6 := hoM.1
    have he : f (p + ofp + 1 + nd) = 38 ∨ f (p + ofp + 1 + nd) = 58 := by
      rcases t4 with q | q
      · exact Or.inl q.1
      · exact Or.inr q.1
    obtain ⟨e1, e2, e3⟩ := t1.of he
    have hoM' : ∀ {B : Nat → Nat → Int32}, (∀ c, c ≠ 8 → c ≠ 9 → c ≠ 19 → B c = B0 c) → oM6 o z f B := fun {B} eB => by
      unfold oM6; rw [eB 25 (by omega) (by omega) (by omega), eB 26 (by omega) (by omega) (by omega)]; exact hoM
    have hVB : vM f B mi p = V p := by
      rw [← hV p ofp nd t1]
      unfold vM
      rw [hST.2.2 12 (by omega) (by omega) (by omega), hST.2.2 2 (by omega) (by omega) (by omega), hST.2.2 7 (by omega) (by omega) (by omega)]
    have hJ3 : ∀ y, (va_up J 12 (nI y)) 3 = J 3 := fun y => va_un (by omega)
    unfold ev at hR
    rw [e3] at hR
    have hcnte : cnt58 f (p + ofp + 1 + nd) = r := by
      rw [show p + ofp + 1 + nd = p + (ofp + 1 + nd) by omega, cnt_skip _ _ t1.ns]; exact hcnt
    rcases t4 with ⟨q1, q2⟩ | ⟨q1, q2, q3⟩
    · rw [if_pos q1] at hR
      have hp' : p + ofp + 1 + nd + 1 < z := by
        cases d with
        | zero => exact q2.elim
        | succ d => obtain ⟨_, _, _, _, w1, w2, _⟩ := q2; omega
      have hc1 : cnt58 f (p + ofp + 1 + nd + 1) = r := by
        rw [← hcnte]; exact fa_cnt_no (decide_eq_false (by rw [q1]; decide))
      obtain ⟨I', F', B', x', g1, g2, g3, g4⟩ := walk hA2 hoC hoM hmi hV d (p + ofp + 1 + nd + 1) r (so && tv f V p) bits x I F B q2 (by omega) hp' hR hbits hc1 hST
      refine ⟨I', F', B', x', g1, g2, fun P X hX => ?_, g4⟩
      obtain ⟨N, hN⟩ := g3 P X hX
      refine ⟨N + 1 + 1, M_stepT (mi := mi) (hoM' hST.2.2) t1 t3 he (by rw [hJ3]; exact hmi) hVB ⟨vin ho6 (by omega), ?_⟩⟩
      obtain ⟨m1, m2, m3, m4⟩ := hoM' hST.2.2
      rw [nI_clamp (by omega), m3]
      refine c2f (nI_ge (by omega) (by omega)) ?_
      rw [at40]
      refine ⟨vin (by omega) (by omega), y1 ?_⟩
      rw [nI_clamp (by omega), m4 _ t3, q1]
      refine c2f (by decide) (c2f (by decide) (n2f (by decide) (n2f (by decide) (n2f (by decide) ?_))))
      show g_Mo_goThrough_16 (nI o) a2 P X N _ _ _ _ _ (_ + 1)
      rw [nI_1]
      exact hN
    · have n38 : ¬ f (p + ofp + 1 + nd) = 38 := by rw [q1]; decide
      rw [if_neg n38] at hR
      have hr31 : r < 31 := by omega
      generalize hs : (so && tv f V p) = s at hR
      generalize hbb : bts s bits r = bb at hR
      have hbb2 : ∀ i, r + 1 ≤ i → bb.testBit i = false := fun i hi => by rw [← hbb, bts_bit, hbits i (by omega), decide_eq_false (by omega), Bool.and_false]; rfl
      have hbbr : bb.testBit r = s := by rw [← hbb, bts_bit, hbits r (Nat.le_refl _), decide_eq_true rfl, Bool.and_true, Bool.false_or]
      have hce1 : cnt58 f (p + ofp + 1 + nd + 1) = r + 1 := by rw [cnt_at q1, hcnte]
      have hce3 : cnt58 f (p + ofp + 1 + nd + 3) = r + 1 := by
        rw [show p + ofp + 1 + nd + 3 = p + ofp + 1 + nd + 1 + 2 by omega, cnt_skip _ _ q2.ns]; exact hce1
      -- the act
      have hact : ∃ (b : Bool) (I1 : Nat → Int32) (F1 B1 : Nat → Nat → Int32), ST k A T L K J I0 B0 I1 F1 B1 ∧
          (¬ a2 = 0 → s = true → ∀ P : Int32 → ((Nat → Int32) × (Nat → Nat → Int32)) → Prop, P (bI b) (I1, F1) → g_Pw_tryAct I A T L K F (f (p + ofp + 1 + nd + 1)) (f (p + ofp + 1 + nd + 2) - 97) P) ∧
          (¬ a2 = 0 → s = true → ∀ P : Int32 → (Nat → Nat → Int32) → Prop, P (bI b) B1 → g_Mo_doAct (va_up J 12 (nI x)) B (f (p + ofp + 1 + nd + 1)) (f (p + ofp + 1 + nd + 2)) P) ∧ ((a2 = 0 ∨ s = false) → b = false ∧ I1 = I ∧ F1 = F ∧ B1 = B) := by
        by_cases hc : ¬ a2 = 0 ∧ s = true
        · obtain ⟨b, I1, F1, B1, w1, w2, w3, w4, w5⟩ := act_both q2 (hST.1.j12 (x := nI x))
          refine ⟨b, I1, F1, B1, ⟨w3.j12', fun c hc => (w4 c hc).trans (hST.2.1 c hc), fun c h1 h2 h3 => (w5 c h1 h2 h3).trans (hST.2.2 c h1 h2 h3)⟩, fun _ _ => w1, fun _ _ => w2, fun w => ?_⟩
          rcases w with w | w
          · exact absurd w hc.1
          · rw [w] at hc; exact absurd hc.2 (by decide)
        · exact ⟨false, I, F, B, hST, fun h1 h2 => absurd ⟨h1, h2⟩ hc, fun h1 h2 => absurd ⟨h1, h2⟩ hc, fun _ => ⟨rfl, rfl, rfl, rfl⟩⟩
      obtain ⟨b, I1, F1, B1, hST1, aC, aM, aN⟩ := hact
      -- the class at this rule
      have rC : ¬ a2 = 0 → ∀ (P : Int32 → ((Nat → Int32) × (Nat → Nat → Int32) × (Nat → Nat → Int32)) → Prop) (X : (Nat → Int32) → (Nat → Nat → Int32) → (Nat → Nat → Int32) → Int32 → Prop) (N : Nat), R.testBit r = s → g_Pw_does_38 T L K P X N I1 A F1 (nI o) (nI R) (nI (x + if b then 1 else 0)) (nI (r + 1)) → g_Pw_does_38 T L K P X (N + 1) I A F (nI o) (nI R) (nI x) (nI r) := by
        intro h2 P X N hRs hN
        have hc6 := hoC.i hST.2.1
        refine c2f (nI_ge (b := 40) (by omega) (by omega)) (C_actOfHit hcnte hc6 q1 t3 ?_)
        refine n2f (fun w => nI_pos (n := p + ofp + 1 + nd + 1) (by omega) (by rw [w]; decide)) (g_bit rfl rfl hr31 ?_)
        rw [hRs]
        cases hsv : s with
        | false =>
          obtain ⟨rfl, rfl, rfl, rfl⟩ := aN (Or.inr hsv)
          refine c2t rfl ?_
          show g_Pw_does_38 T L K P X N I1 A F1 (nI o) (nI R) (nI x) (nI r + 1)
          rw [nI_1]; exact hN
        | true =>
          have hz3 : p + ofp + 1 + nd + 2 < z := by rcases q3 with q | ⟨-, q, -⟩ <;> omega
          refine c2f nz1 (C_sg hc6 (by omega) ?_)
          rw [nI_1]
          refine C_sg hc6 hz3 (aC h2 hsv _ ?_)
          cases b with
          | false =>
            refine c2t rfl ?_
            show g_Pw_does_38 T L K P X N I1 A F1 (nI o) (nI R) (nI x) (nI r + 1)
            rw [nI_1]; exact hN
          | true =>
            refine c2f nz1 ?_
            show g_Pw_does_38 T L K P X N I1 A F1 (nI o) (nI R) (nI x + 1) (nI r + 1)
            rw [nI_1, nI_1]; exact hN
      -- the reference at this rule
      have rM : ∀ (P : Int32 → ((Nat → Int32) × (Nat → Nat → Int32)) → Prop) (X : (Nat → Int32) → (Nat → Nat → Int32) → Int32 → Prop) (N : Nat), g_Mo_goThrough_16 (nI o) a2 P X N (va_up J 12 (nI (x + if b then 1 else 0))) B1 (nI r) (nI bb) (bI s) (nI (p + ofp + 1 + nd + 3)) → g_Mo_goThrough_16 (nI o) a2 P X (N + 1 + 1) (va_up J 12 (nI x)) B (nI r) (nI bits) (bI so) (nI p) := by
        intro P X N hN
        have hz3 : p + ofp + 1 + nd + 2 < z := by rcases q3 with q | ⟨-, q, -⟩ <;> omega
        refine M_stepT (mi := mi) (hoM' hST.2.2) t1 t3 he (by rw [hJ3]; exact hmi) hVB ⟨vin ho6 (by omega), ?_⟩
        rw [hs]
        obtain ⟨m1, m2, m3, m4⟩ := hoM' hST.2.2
        rw [nI_clamp (by omega), m3]
        refine c2f (nI_ge (by omega) (by omega)) ?_
        rw [at40]
        refine ⟨vin (by omega) (by omega), y1 ?_⟩
        rw [nI_clamp (by omega), m4 _ t3, q1]
        refine c2f (by decide) (c2f (by decide) (n2f (by decide) (n2t rfl ?_)))
        have h301 : ∀ s1 : Int32, nI bits ||| s1 = nI bb → g_Mo_goThrough_301 (nI o) a2 P (g_Mo_goThrough_16 (nI o) a2 P X N) (va_up J 12 (nI x)) B (nI r) (bI s) (nI (p + ofp + 1 + nd)) (nI bits) s1 := by
          intro s1 hs1
          refine y1 ?_
          rw [hs1]
          have fin : ∀ y, y = nI (x + if b then 1 else 0) → g_Mo_goThrough_362 (nI o) a2 P (g_Mo_goThrough_16 (nI o) a2 P X N) (va_up J 12 y) B1 (nI r) (nI bb) (bI s) (nI (p + ofp + 1 + nd)) := by
            intro y hy
            subst hy
            show g_Mo_goThrough_16 (nI o) a2 P X N _ _ _ _ _ (nI (p + ofp + 1 + nd) + nI 3)
            rw [nI_add]; exact hN
          by_cases hc : a2 = 0 ∨ s = false
          · obtain ⟨rfl, rfl, rfl, rfl⟩ := aN hc
            have fin' := fin (nI x) rfl
            rcases hc with hc | hc
            · exact ⟨fun _ => fin', fun _ => c2t hc fin'⟩
            · rw [hc] at fin' ⊢; exact c2t rfl fin'
          · have h2 : ¬ a2 = 0 := fun w => hc (Or.inl w)
            have hst : s = true := by cases s with | true => rfl | false => exact absurd (Or.inr rfl) hc
            refine c2f (by rw [hst]; exact nz1) (c2f h2 ?_)
            rw [at40, show nI (40 * o + (p + ofp + 1 + nd)) + (1 : Int32) = nI (40 * o + (p + ofp + 1 + nd + 1)) from nI_add _ 1, show nI (40 * o + (p + ofp + 1 + nd)) + (2 : Int32) = nI (40 * o + (p + ofp + 1 + nd + 2)) from nI_add _ 2]
            refine ⟨vin (by omega) (by omega), vin (by omega) (by omega), ?_⟩
            rw [nI_clamp (by omega), nI_clamp (by omega), m4 _ (by omega), m4 _ hz3]
            refine aM h2 hst _ ?_
            have hup : ∀ y, va_up (va_up J 12 (nI x)) 12 y = va_up J 12 y := fun y => fr_up (fun c hc => by rw [va_un hc, va_un hc]) (vu_at _ _ _)
            have h12 : (va_up J 12 (nI x)) 12 = nI x := vu_at _ _ _
            cases b with
            | false =>
              refine c2t rfl ?_
              show g_Mo_goThrough_362 (nI o) a2 P _ (va_up (va_up J 12 (nI x)) 12 ((va_up J 12 (nI x)) 12 + nI 0)) B1 _ _ _ _
              rw [hup, h12, nI_add]
              exact fin _ rfl
            | true =>
              refine c2f nz1 ?_
              show g_Mo_goThrough_362 (nI o) a2 P _ (va_up (va_up J 12 (nI x)) 12 ((va_up J 12 (nI x)) 12 + nI 1)) B1 _ _ _ _
              rw [hup, h12, nI_add]
              exact fin _ rfl
        cases hsv : s with
        | false =>
          rw [hsv] at h301 hbb
          refine c2t rfl (h301 0 ?_)
          rw [← hbb]
          show nI bits ||| nI 0 = nI bits
          rw [fa_or, Nat.or_zero]
        | true =>
          rw [hsv] at h301 hbb
          refine c2f nz1 (h301 _ ?_)
          rw [shl1 (by omega), fa_or, ← hbb]
          rfl
      rcases q3 with q | ⟨w1, w2, w3⟩
      · rw [if_pos q] at hR
        subst hR
        refine ⟨I1, F1, B1, x + (if b then 1 else 0), hST1, fun h2 P X hX => ?_, fun P X hX => ?_, fun w => ⟨(aN (Or.inl w)).2.1, (aN (Or.inl w)).2.2.1⟩⟩
        · refine ⟨_, rC h2 P X 1 hbbr ?_⟩
          have hc6 := hoC.i hST1.2.1
          refine c2f (nI_ge (b := 40) (by omega) (by omega)) (C_actOfNo hc6 (by rw [← q, hce3]; exact Nat.le_refl _) (by omega) (n2t rfl hX))
        · refine ⟨_, rM P X 1 ⟨vin ho6 (by omega), ?_⟩⟩
          obtain ⟨m1, m2, m3, m4⟩ := hoM' hST1.2.2
          rw [nI_clamp (by omega), m3]
          exact c2t (nI_le (by omega) (by omega)) hX
      · rw [if_neg (by omega)] at hR
        have hp' : p + ofp + 1 + nd + 4 < z := by
          cases d with
          | zero => exact w3.elim
          | succ d => obtain ⟨_, _, _, _, v1, v2, _⟩ := w3; omega
        have hce4 : cnt58 f (p + ofp + 1 + nd + 4) = r + 1 := by
          rw [← hce3]; exact fa_cnt_no (decide_eq_false (by rw [w1]; decide))
        have hRs : R.testBit r = s := by rw [← hR, ev_low _ _ _ _ _ _ (by omega)]; exact hbbr
        obtain ⟨I', F', B', x', g1, g2, g3, g4⟩ := walk hA2 hoC hoM hmi hV d (p + ofp + 1 + nd + 4) (r + 1) true bb (x + if b then 1 else 0) I1 F1 B1 w3 (by omega) hp' hR hbb2 hce4 hST1
        refine ⟨I', F', B', x', g1, fun h2 P X hX => ?_, fun P X hX => ?_, fun w => ⟨(g4 w).1.trans (aN (Or.inl w)).2.1, (g4 w).2.trans (aN (Or.inl w)).2.2.1⟩⟩
        · obtain ⟨N, hN⟩ := g2 h2 P X hX
          exact ⟨_, rC h2 P X N hRs hN⟩
        · obtain ⟨N, hN⟩ := g3 P X hX
          refine ⟨_, rM P X (N + 1) ⟨vin ho6 (by omega), ?_⟩⟩
          obtain ⟨m1, m2, m3, m4⟩ := hoM' hST1.2.2
          rw [nI_clamp (by omega), m3]
          refine c2f (nI_ge (by omega) (by omega)) ?_
          rw [at40]
          refine ⟨vin (by omega) (by omega), y1 ?_⟩
          rw [nI_clamp (by omega), m4 _ w2, w1]
          refine c2f (by decide) (c2f (by decide) (n2f (by decide) (n2f (by decide) (n2t rfl ?_))))
          show g_Mo_goThrough_16 (nI o) a2 P X N _ _ (_ + 1) _ _ (_ + 1)
          rw [nI_1, nI_1]
          exact hN
end WK
end WALK
