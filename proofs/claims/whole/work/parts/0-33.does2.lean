/-! ===== layer 2: does, why, put together ===== -/
theorem pk6_at (A : Nat → Nat → Int32) : ∀ o, o < 6 → pk6 (A 35) (A 36) (A 37) (A 38) (A 39) (A 40) o = A (35 + o) := by
  intro o ho
  rcases o with _ | _ | _ | _ | _ | _ | o
  all_goals first | rfl | omega
theorem thI_lv {t : Option Nat} {L : List Nat} {K : Nat → Nat} {F : Nat → Nat → Int32} {kd on tw th fo lv li la : Int32} (h : thI t L K F kd on tw th fo lv li la) (hk : ¬ kd = 4) : lv = 0 := by
  rcases h with ⟨-, -, h, -⟩ | ⟨q, -, -, h⟩
  · exact h
  · rcases h with h | h | h | h | h | h
    · exact h.2.2.2.2.2.1
    · exact h.2.2.2.2.2.2.1
    · exact h.2.2.2.2.2.2.2.2.1
    · exact absurd h.2.1 hk
    · exact h.2.2.2.2.1
    · exact h.2.2.2.2.1
section OPS33
variable {k : Nat} {I J : Nat → Int32} {A B : Nat → Nat → Int32} {T : Nat → Option Nat} {L : List Nat} {K : Nat → Nat} {F : Nat → Nat → Int32} {a1 : Int32}
def lvA (A B : Nat → Nat → Int32) : Nat → Nat → Int32 := va_up A 5 (fa_fill (B 7) (A 5) 12)
def miI (I : Nat → Int32) : Int32 := ((I 0) / (4 : Int32)) - ((I 0) / (4 : Int32)) / (1440 : Int32) * (1440 : Int32)
theorem Rel.lv {g : Nat → Int32} (h : Rel k I A T L K F J B) : Rel k I (va_up A 5 g) T L K F J B := h
/-- what is known of order o in both -/
theorem ord_at {tk n m v sh nr sg od bk o : Nat} (hR : RelP k tk n m v sh nr sg od bk I A T L K F J B) (ho : o < od) : ∃ z, 0 < z ∧ Txt (fun i => B 26 (40 * o + i)) z (z + 1) 0 ∧ oC6 o od z (fun i => B 26 (40 * o + i)) I (lvA A B) ∧ oM6 o z (fun i => B 26 (40 * o + i)) B ∧
    miI I = ((J 3) / (4 : Int32)) - ((J 3) / (4 : Int32)) / (1440 : Int32) * (1440 : Int32) ∧ ∀ p ofp nd, Tst (fun i => B 26 (40 * o + i)) p ofp nd → vM (fun i => B 26 (40 * o + i)) B (miI I) p = vC (fun i => B 26 (40 * o + i)) (lvA A B) (miI I) p := by
  obtain ⟨ht, hc, hn, hm, hv, hnr, hmm, hs, hod, hp, hrw, htm, hmt, hkn, hth⟩ := hR
  obtain ⟨o6, hi13, hj10, hos⟩ := hod
  obtain ⟨-, z, hz, e1, e2, e3, hok⟩ := hos o ho
  obtain ⟨t1, t2, t3⟩ := ht
  refine ⟨z, ?_, txt_of z 0 z (Nat.le_refl _) (by omega) hok, ⟨ho, o6, hz, hi13, e1, fun i hi => ?_⟩, ⟨by omega, hz, e2, fun i hi => rfl⟩, ?_, fun p ofp nd ht => ?_⟩
  · rcases z with _ | z
    · cases hok
    · omega
  · show lvA A B (35 + o) i = _
    unfold lvA
    rw [va_un (by omega), ← pk6_at A o (by omega)]
    exact e3 i hi
  · unfold miI; rw [t2, t3]
  · unfold vM vC
    dsimp only
    rcases ht.1 with ⟨-, q, c, hcc, ec⟩ | ⟨-, q⟩
    · have hn9 : ¬ B 26 (40 * o + p) = 109 := by
        have q' : B 26 (40 * o + p) = 103 ∨ B 26 (40 * o + p) = 116 := q
        rcases q' with q' | q' <;> rw [q'] <;> decide
      have ec' : B 26 (40 * o + (p + 1)) = nI (97 + c) := ec
      have hcl : (nI c).toNatClampNeg = c := nI_clamp (by omega)
      rw [if_neg hn9, if_neg hn9]
      simp only [ec', nI_97, hcl]
      by_cases c3 : B 26 (40 * o + p) = 103
      · rw [if_pos c3, if_pos c3]
        exact (hkn c hcc).1.symm
      · rw [if_neg c3, if_neg c3]
        unfold lvA
        rw [vu_at, fa_fill_in hcc]
        by_cases c4 : B 2 c = 4
        · rw [if_pos c4]
        · rw [if_neg c4]; exact (thI_lv (hth.1 c hcc) c4).symm
    · have q' : B 26 (40 * o + p) = 109 := q
      rw [if_pos q', if_pos q']
theorem C_rulesThat {n o od z d : Nat} {f : Nat → Int32} {P : Int32 → (Nat → Nat → Int32) → Prop} (hth : Rth n T L K F (B 2) (B 3) (B 4) (B 5) (B 6) (B 7) (B 8) (B 9)) (h : oC6 o od z f I (lvA A B)) (ht : Txt f z d 0) (hz : 0 < z) (hP : P (nI (ev f (vC f (lvA A B) (miI I)) z d 0 0 true 0)) (lvA A B)) : g_Pw_rulesThatAreSo I A T L K F (nI o) P := by
  refine ⟨13, ?_⟩
  have := C_levels (I := I) (a1 := nI o) (A := A) (P := P) (X := fun (A_5 : Nat → Nat → Int32) => g_Or_rulesSo I A_5 (nI o) 4 5 (((I 0) / (4 : Int32)) - ((I 0) / (4 : Int32)) / (1440 : Int32) * (1440 : Int32)) (fun r6 => (P r6 A_5))) hth (C_rulesSo (mi := miI I) h ht hz hP) 12 0 (by omega)
  rw [fa_fill_0, show va_up A 5 (A 5) = A from (fr_up (fun _ _ => rfl) rfl).symm] at this
  exact this
theorem g_hasO {n : Nat} {a : Int32} {P : Int32 → Prop} (hn : n < 2 ^ 31) (hx : I 13 = nI n) (h1 : ∀ i, i < n → a = nI i → P 1) (h0 : ¬ inN a n → P 0) : g_Or_hasOrder I a P := g_hasC hn hx h1 h0
theorem op_why (hR : Rel k I A T L K F J B) : g_Pw_why I A T L K F a1 (fun r u => g_Mo_why J B a1 (fun r2 v => r = r2 ∧ Rel (k + 1) I u T L K F v.1 v.2)) := by
  have hU := hR.up
  have hR1 := hR
  obtain ⟨tk, n, m, v, sh, nr, sg, od, bk, hR⟩ := hR
  have hod := hR.2.2.2.2.2.2.2.2.1
  have hth := hR.2.2.2.2.2.2.2.2.2.2.2.2.2.2
  obtain ⟨o6, hi13, hj10, hos⟩ := id hod
  refine g_hasO (n := od) (by omega) hi13 (fun o ho e => ?_) (fun h => ?_)
  · subst e
    obtain ⟨z, hz, htx, hoC, hoM, hmi, hV⟩ := ord_at hR ho
    refine c2f nz1 (C_rulesThat hth hoC htx hz ?_)
    refine g_inC_t (by omega) hj10 ho (c2f nz1 ?_)
    obtain ⟨I', F', B', x', g1, g2, g3, g4⟩ := walk (a2 := 0) (Or.inl rfl) hoC hoM hmi hV (z + 1) 0 0 true 0 0 I F B htx (by omega) hz rfl (fun i _ => Nat.zero_testBit i) rfl ⟨hR1.lv (g := fa_fill (B 7) (A 5) 12), fun _ _ => rfl, fun _ _ _ _ => rfl⟩
    refine g3 _ _ ⟨rfl, ?_⟩
    obtain ⟨rfl, rfl⟩ := g4 rfl
    exact g1.1.up.j12
  · exact c2t rfl (g_inC_f (by omega) hj10 h (c2t rfl ⟨rfl, hU⟩))
/-! the order in force -/
def ifs (day : Int32) (D : Nat → Int32) (i : Nat) (cur : Option Nat) : Option Nat := if day < D i then cur else match cur with
  | none => some i
  | some j => if D i < D j then some j else some i
theorem C_inF {od : Nat} {day : Int32} {P X : Int32 → Prop} (hi : I 13 = nI od) (h6 : od ≤ 6) : ∀ (d i : Nat) (cur : Option Nat), i + d = od → (∀ j, cur = some j → j < i) → X (oN (lp (ifs day (A 24)) d i cur)) → g_Or_inForce_5 I A day P X (d + 1) (oN cur) (nI i)
  | 0, i, cur, hd, hc, hX => c2t (by rw [hi]; exact nI_le (by omega) (by omega)) hX
  | d + 1, i, cur, hd, hc, hX => by
    have hin : vp_in (nI i) 6 := vin (by omega) (by omega)
    have hcl : (nI i).toNatClampNeg = i := nI_clamp (by omega)
    have nx : ∀ c, c = ifs day (A 24) i cur → (∀ j, c = some j → j < i + 1) → g_Or_inForce_5 I A day P X (d + 1) (oN c) (nI i + 1) := by
      intro c e hc'
      subst e
      rw [nI_1]
      exact C_inF hi h6 d (i + 1) _ (by omega) hc' hX
    refine c2f (by rw [hi]; exact nI_ge (by omega) (by omega)) ⟨hin, ?_⟩
    rw [hcl]
    refine ⟨fun c => nx cur (by unfold ifs; rw [if_pos c]) (fun j e => by have := hc j e; omega), fun c => ?_⟩
    cases cur with
    | none => exact c2t rfl (nx (some i) (by unfold ifs; rw [if_neg c]) (fun j e => by cases e; omega))
    | some j =>
      have hj := hc j rfl
      have hj2 : (nI j).toNatClampNeg = j := nI_clamp (by omega)
      refine c2f (fun w => nI_pos (n := j) (by omega) (by rw [show nI j = -6 from w]; decide)) ⟨hin, vin (by omega) (by omega), ?_⟩
      show (A 24 i < A 24 (nI j).toNatClampNeg → _) ∧ (¬ A 24 i < A 24 (nI j).toNatClampNeg → _)
      rw [hj2]
      refine ⟨fun c2 => nx (some j) (by unfold ifs; rw [if_neg c]; exact (if_pos c2).symm) (fun j' e => by cases e; omega), fun c2 => nx (some i) (by unfold ifs; rw [if_neg c]; exact (if_neg c2).symm) (fun j' e => by cases e; omega)⟩
theorem M_inF {od : Nat} {P : Int32 → ((Nat → Int32) × (Nat → Nat → Int32)) → Prop} {X : (Nat → Int32) → (Nat → Nat → Int32) → Int32 → Prop} (hi : J 10 = nI od) (h6 : od ≤ 6) : ∀ (d i : Nat) (cur : Option Nat), i + d = od → (∀ j, cur = some j → j < i) → X J B (oN (lp (ifs (((J 3) / (4 : Int32)) / (1440 : Int32)) (B 24)) d i cur)) → g_Mo_does_5 P X (d + 1) J B (oN cur) (nI i)
  | 0, i, cur, hd, hc, hX => c2t (by rw [hi]; exact nI_le (by omega) (by omega)) hX
  | d + 1, i, cur, hd, hc, hX => by
    have hin : vp_in (nI i) 6 := vin (by omega) (by omega)
    have hcl : (nI i).toNatClampNeg = i := nI_clamp (by omega)
    have nx : ∀ c, c = ifs (((J 3) / (4 : Int32)) / (1440 : Int32)) (B 24) i cur → (∀ j, c = some j → j < i + 1) → g_Mo_does_5 P X (d + 1) J B (oN c) (nI i + 1) := by
      intro c e hc'
      subst e
      rw [nI_1]
      exact M_inF hi h6 d (i + 1) _ (by omega) hc' hX
    refine c2f (by rw [hi]; exact nI_ge (by omega) (by omega)) ⟨hin, ?_⟩
    rw [hcl]
    refine ⟨fun c => nx cur (by unfold ifs; rw [if_pos c]) (fun j e => by have := hc j e; omega), fun c => ?_⟩
    cases cur with
    | none => exact c2t (by decide) (nx (some i) (by unfold ifs; rw [if_neg c]) (fun j e => by cases e; omega))
    | some j =>
      have hj := hc j rfl
      have hj2 : (nI j).toNatClampNeg = j := nI_clamp (by omega)
      refine c2f (nI_pos (n := j) (by omega)) ⟨hin, vin (by omega) (by omega), ?_⟩
      show (B 24 i < B 24 (nI j).toNatClampNeg → _) ∧ (¬ B 24 i < B 24 (nI j).toNatClampNeg → _)
      rw [hj2]
      refine ⟨fun c2 => nx (some j) (by unfold ifs; rw [if_neg c]; exact (if_pos c2).symm) (fun j' e => by cases e; omega), fun c2 => nx (some i) (by unfold ifs; rw [if_neg c]; exact (if_neg c2).symm) (fun j' e => by cases e; omega)⟩
theorem lp_succ {α : Type} (f : Nat → α → α) (d j : Nat) (a : α) : lp f (d + 1) j a = lp f d (j + 1) (f j a) := rfl
theorem lp_zero {α : Type} (f : Nat → α → α) (j : Nat) (a : α) : lp f 0 j a = a := rfl
theorem ifs_lt {day : Int32} {D : Nat → Int32} {i : Nat} {cur : Option Nat} (hc : ∀ j, cur = some j → j < i) : ∀ j, ifs day D i cur = some j → j < i + 1 := by
  intro j e
  unfold ifs at e
  by_cases c : day < D i
  · rw [if_pos c] at e; have := hc j e; omega
  · rw [if_neg c] at e
    cases cur with
    | none => cases e; omega
    | some j' =>
      have := hc j' rfl
      by_cases c2 : D i < D j'
      · have e2 : some j' = some j := (if_pos c2).symm.trans e
        cases e2; omega
      · have e2 : some i = some j := (if_neg c2).symm.trans e
        cases e2; omega
theorem ifs_eq {day : Int32} {D D2 : Nat → Int32} {od i : Nat} {cur : Option Nat} (h : ∀ i, i < od → D i = D2 i) (hi : i < od) (hc : ∀ j, cur = some j → j < i) : ifs day D i cur = ifs day D2 i cur := by
  unfold ifs
  rw [h i hi]
  cases cur with
  | none => rfl
  | some j =>
    have := hc j rfl
    dsimp only
    rw [h j (by omega)]
theorem ifs_cong {day : Int32} {D D2 : Nat → Int32} {od : Nat} (h : ∀ i, i < od → D i = D2 i) (d : Nat) : ∀ (i : Nat) (cur : Option Nat), i + d = od → (∀ j, cur = some j → j < i) → lp (ifs day D) d i cur = lp (ifs day D2) d i cur ∧ ∀ j, lp (ifs day D) d i cur = some j → j < od := by
  induction d with
  | zero =>
    intro i cur hd hc
    rw [lp_zero, lp_zero]
    exact ⟨rfl, fun j e => by have := hc j e; omega⟩
  | succ d ih =>
    intro i cur hd hc
    obtain ⟨g1, g2⟩ := ih (i + 1) (ifs day D i cur) (by omega) (ifs_lt hc)
    rw [lp_succ, lp_succ, ← ifs_eq h (by omega) hc]
    exact ⟨g1, g2⟩
theorem op_does (hR : Rel k I A T L K F J B) : g_Pw_does I A T L K F (fun r u => g_Mo_does J B (fun r2 v => r = r2 ∧ Rel (k + 1) u.1 u.2.1 T L K u.2.2 v.1 v.2)) := by
  have hU := hR.up
  have hR1 := hR
  obtain ⟨tk, n, m, v, sh, nr, sg, od, bk, hR⟩ := hR
  have hod := hR.2.2.2.2.2.2.2.2.1
  have hth := hR.2.2.2.2.2.2.2.2.2.2.2.2.2.2
  obtain ⟨o6, hi13, hj10, hos⟩ := id hod
  have hday : (((I 0) / (4 : Int32)) / (1440 : Int32)) = (((J 3) / (4 : Int32)) / (1440 : Int32)) := by rw [hR.1.2.1, hR.1.2.2]
  obtain ⟨ic1, ic2⟩ := ifs_cong (day := (((I 0) / (4 : Int32)) / (1440 : Int32))) (D := A 24) (D2 := B 24) (od := od) (fun i hi => (hos i hi).1) od 0 none (by omega) (fun j e => by cases e)
  refine ⟨od + 1, C_inF hi13 o6 od 0 none (by omega) (fun j e => by cases e) ?_⟩
  cases hx : lp (ifs (((I 0) / (4 : Int32)) / (1440 : Int32)) (A 24)) od 0 none with
  | none =>
    refine n2t rfl ⟨od + 1, M_inF hj10 o6 od 0 none (by omega) (fun j e => by cases e) ?_⟩
    rw [← hday, ← ic1, hx]
    exact c2f (by decide) ⟨rfl, hU⟩
  | some o =>
    have ho : o < od := ic2 o hx
    obtain ⟨z, hz, htx, hoC, hoM, hmi, hV⟩ := ord_at hR ho
    refine n2f (fun w => nI_pos (n := o) (by omega) (by rw [show nI o = -6 from w]; decide)) (C_rulesThat hth hoC htx hz ?_)
    obtain ⟨I', F', B', x', g1, g2, g3, g4⟩ := walk (a2 := 1) (Or.inr rfl) hoC hoM hmi hV (z + 1) 0 0 true 0 0 I F B htx (by omega) hz rfl (fun i _ => Nat.zero_testBit i) rfl ⟨hR1.lv (g := fa_fill (B 7) (A 5) 12), fun _ _ => rfl, fun _ _ _ _ => rfl⟩
    refine g2 nz1 _ _ ⟨od + 1, M_inF hj10 o6 od 0 none (by omega) (fun j e => by cases e) ?_⟩
    rw [← hday, ← ic1, hx]
    refine c2t (nI_pos' (n := o) (by omega)) (g3 _ _ ⟨?_, ?_⟩)
    · show nI x' = va_up J 12 (nI x') 12
      exact (vu_at _ _ _).symm
    · exact g1.1.up.j12
end OPS33
