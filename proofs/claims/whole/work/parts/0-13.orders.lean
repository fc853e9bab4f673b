/-! ===== layer 2: the signs' fault, and orders ===== -/
theorem d_0 (s : Int32) : dfa1 0 s = if s = 103 ∨ s = 116 then some 1 else if s = 109 then some 2 else none := rfl
theorem d_1 (s : Int32) : dfa1 1 s = if 97 ≤ s ∧ s ≤ 108 then some 2 else none := rfl
theorem d_2 (s : Int32) : dfa1 2 s = if s = 60 ∨ s = 62 then some 3 else none := rfl
theorem d_9 (s : Int32) : dfa1 9 s = if s = 76 ∨ s = 68 then some 10 else if s = 83 ∨ s = 79 then some 11 else none := rfl
theorem d_10 (s : Int32) : dfa1 10 s = if 97 ≤ s ∧ s ≤ 108 then some 12 else none := rfl
theorem d_11 (s : Int32) : dfa1 11 s = if 97 ≤ s ∧ s ≤ 114 then some 12 else none := rfl
theorem d_12 (s : Int32) : dfa1 12 s = if s = 59 then some 0 else none := rfl
theorem d_f {st : Nat} (h3 : 3 ≤ st) (h8 : st ≤ 8) (s : Int32) : dfa1 st s = if 48 ≤ s ∧ s ≤ 57 then (if st < 8 then some (st + 1) else none) else if 4 ≤ st then (if s = 38 then some 0 else if s = 58 then some 9 else none) else none := by
  unfold dfa1
  rw [if_neg (by omega), if_neg (by omega), if_neg (by omega)]
  by_cases h : 48 ≤ s ∧ s ≤ 57
  · rw [if_pos ⟨h8, h⟩, if_pos h]
  · rw [if_neg (fun z => h z.2), if_neg h]
    by_cases h4 : 4 ≤ st
    · rw [if_pos ⟨h4, h8⟩, if_pos h4]
    · rw [if_neg (fun z => h4 z.1), if_neg h4, if_neg (by omega), if_neg (by omega), if_neg (by omega), if_neg (by omega)]
theorem dfa1_le {st st' : Nat} {s : Int32} (h : dfa1 st s = some st') : st' ≤ 12 := by
  unfold dfa1 at h
  (repeat' split at h) <;> first | (cases h; done) | (cases h; omega) | omega
/-- the class's numbers of the states -/
def cst (st : Nat) : Nat := if st ≤ 3 then st else if st ≤ 8 then st + 5 else st - 5
def oC (o : Option Nat) : Int32 := match o with
  | none => -6
  | some st => nI (cst st)
section FAULT
variable {k : Nat} {I : Nat → Int32} {A : Nat → Nat → Int32} {T : Nat → Option Nat} {L : List Nat} {K : Nat → Nat} {F : Nat → Nat → Int32} {J : Nat → Int32} {B : Nat → Nat → Int32} {a1 a2 a3 a4 a5 s : Int32} {P : Int32 → Prop}
theorem C_figT (h : 48 ≤ s ∧ s ≤ 57) (p : P 1) : g_Or_isFigure s P := g_wt h ⟨Or.inr rfl, p⟩
theorem C_figF (h : ¬ (48 ≤ s ∧ s ≤ 57)) (p : P 0) : g_Or_isFigure s P := g_wf h ⟨Or.inl rfl, p⟩
theorem C_dueF {st : Nat} (h4 : 4 ≤ st) (h8 : st ≤ 8) (h : ∀ o, dfa1 st s = o → P (oC o)) : g_Or_dueBehindFigure (nI (st + 5)) s P := by
  have hd := d_f (by omega : 3 ≤ st) h8 s
  by_cases e38 : s = 38
  · refine n2t e38 (h (some 0) ?_)
    subst e38
    rw [hd, if_neg (by decide), if_pos h4, if_pos rfl]
  · refine n2f e38 ?_
    by_cases e58 : s = 58
    · refine n2t e58 (h (some 9) ?_)
      subst e58
      rw [hd, if_neg (by decide), if_pos h4, if_neg (by decide), if_pos rfl]
    · refine n2f e58 ?_
      by_cases hf : 48 ≤ s ∧ s ≤ 57
      · refine C_figT hf (c2f nz1 ?_)
        by_cases e8 : st = 8
        · subst e8
          exact c2t (by decide) (h none (by rw [hd, if_pos hf, if_neg (by decide)]))
        · refine c2f (nI_ge (b := 13) (by omega) (by omega)) ?_
          have := h (some (st + 1)) (by rw [hd, if_pos hf, if_pos (by omega)])
          rw [nI_1]
          have e : cst (st + 1) = st + 5 + 1 := by unfold cst; rw [if_neg (by omega), if_pos (by omega)]
          show P (nI (st + 5 + 1))
          rw [← e]
          exact this
      · exact C_figF hf (c2t rfl (h none (by rw [hd, if_neg hf, if_pos h4, if_neg e38, if_neg e58])))
theorem C_due {st : Nat} (h12 : st ≤ 12) (h : ∀ o, dfa1 st s = o → P (oC o)) : g_Or_dueBehind (nI (cst st)) s P := by
  rcases (show st = 0 ∨ st = 1 ∨ st = 2 ∨ st = 3 ∨ (4 ≤ st ∧ st ≤ 8) ∨ st = 9 ∨ st = 10 ∨ st = 11 ∨ st = 12 by omega) with rfl | rfl | rfl | rfl | h48 | rfl | rfl | rfl | rfl
  · show g_Or_dueBehind (nI 0) s P
    refine ⟨fun _ => ?_, fun q => absurd q (by decide), fun q => absurd q (by decide), fun q => absurd q (by decide), fun q => absurd q (by decide), fun q => absurd q (by decide), fun q => absurd q (by decide), fun q => absurd q (by decide), fun z _ _ _ _ _ _ _ => absurd rfl z⟩
    refine ⟨fun n1 => ⟨fun e => ?_, fun n2 => ⟨fun n3 => ?_, fun e => ?_⟩⟩, fun e => ?_⟩
    · exact h (some 1) (by rw [d_0, if_pos (Or.inl e)])
    · exact h none (by rw [d_0, if_neg (fun z => z.elim n2 n3), if_neg n1])
    · exact h (some 1) (by rw [d_0, if_pos (Or.inr e)])
    · exact h (some 2) (by rw [d_0, if_neg (by rw [e]; decide), if_pos e])
  · show g_Or_dueBehind (nI 1) s P
    refine ⟨fun q => absurd q (by decide), fun _ => ?_, fun q => absurd q (by decide), fun q => absurd q (by decide), fun q => absurd q (by decide), fun q => absurd q (by decide), fun q => absurd q (by decide), fun q => absurd q (by decide), fun _ z _ _ _ _ _ _ => absurd rfl z⟩
    exact g_wi (fun c => c2f nz1 (h (some 2) (by rw [d_1, if_pos c]))) (fun c => c2t rfl (h none (by rw [d_1, if_neg c])))
  · show g_Or_dueBehind (nI 2) s P
    refine ⟨fun q => absurd q (by decide), fun q => absurd q (by decide), fun _ => ?_, fun q => absurd q (by decide), fun q => absurd q (by decide), fun q => absurd q (by decide), fun q => absurd q (by decide), fun q => absurd q (by decide), fun _ _ z _ _ _ _ _ => absurd rfl z⟩
    refine ⟨fun e => ?_, fun n1 => ⟨fun n2 => ?_, fun e => ?_⟩⟩
    · exact h (some 3) (by rw [d_2, if_pos (Or.inl e)])
    · exact h none (by rw [d_2, if_neg (fun z => z.elim n1 n2)])
    · exact h (some 3) (by rw [d_2, if_pos (Or.inr e)])
  · show g_Or_dueBehind (nI 3) s P
    refine ⟨fun q => absurd q (by decide), fun q => absurd q (by decide), fun q => absurd q (by decide), fun _ => ?_, fun q => absurd q (by decide), fun q => absurd q (by decide), fun q => absurd q (by decide), fun q => absurd q (by decide), fun _ _ _ z _ _ _ _ => absurd rfl z⟩
    have hd := d_f (show 3 ≤ 3 by omega) (by omega) s
    by_cases hf : 48 ≤ s ∧ s ≤ 57
    · exact C_figT hf (c2f nz1 (h (some 4) (by rw [hd, if_pos hf, if_pos (by omega)])))
    · exact C_figF hf (c2t rfl (h none (by rw [hd, if_neg hf, if_neg (by omega)])))
  · have e : cst st = st + 5 := by unfold cst; rw [if_neg (by omega), if_pos (by omega)]
    rw [e]
    have hne : ∀ j, j < 9 → ¬ nI (st + 5) = nI j := fun j hj => by rw [nI_eq (by omega) (by omega)]; omega
    refine ⟨fun q => absurd q (hne 0 (by omega)), fun q => absurd q (hne 1 (by omega)), fun q => absurd q (hne 2 (by omega)), fun q => absurd q (hne 3 (by omega)), fun q => absurd q (hne 4 (by omega)), fun q => absurd q (hne 5 (by omega)), fun q => absurd q (hne 6 (by omega)), fun q => absurd q (hne 7 (by omega)), fun _ _ _ _ _ _ _ _ => ?_⟩
    exact C_dueF h48.1 h48.2 h
  · show g_Or_dueBehind (nI 4) s P
    refine ⟨fun q => absurd q (by decide), fun q => absurd q (by decide), fun q => absurd q (by decide), fun q => absurd q (by decide), fun _ => ?_, fun q => absurd q (by decide), fun q => absurd q (by decide), fun q => absurd q (by decide), fun _ _ _ _ z _ _ _ => absurd rfl z⟩
    refine ⟨fun e => ?_, fun n1 => ⟨fun n2 => ⟨fun e => ?_, fun n3 => ⟨fun n4 => ?_, fun e => ?_⟩⟩, fun e => ?_⟩⟩
    · exact h (some 10) (by rw [d_9, if_pos (Or.inl e)])
    · exact h (some 11) (by rw [d_9, if_neg (fun z => z.elim n1 n2), if_pos (Or.inl e)])
    · exact h none (by rw [d_9, if_neg (fun z => z.elim n1 n2), if_neg (fun z => z.elim n3 n4)])
    · exact h (some 11) (by rw [d_9, if_neg (fun z => z.elim n1 n2), if_pos (Or.inr e)])
    · exact h (some 10) (by rw [d_9, if_pos (Or.inr e)])
  · show g_Or_dueBehind (nI 5) s P
    refine ⟨fun q => absurd q (by decide), fun q => absurd q (by decide), fun q => absurd q (by decide), fun q => absurd q (by decide), fun q => absurd q (by decide), fun _ => ?_, fun q => absurd q (by decide), fun q => absurd q (by decide), fun _ _ _ _ _ z _ _ => absurd rfl z⟩
    exact g_wi (fun c => c2f nz1 (h (some 12) (by rw [d_10, if_pos c]))) (fun c => c2t rfl (h none (by rw [d_10, if_neg c])))
  · show g_Or_dueBehind (nI 6) s P
    refine ⟨fun q => absurd q (by decide), fun q => absurd q (by decide), fun q => absurd q (by decide), fun q => absurd q (by decide), fun q => absurd q (by decide), fun q => absurd q (by decide), fun _ => ?_, fun q => absurd q (by decide), fun _ _ _ _ _ _ z _ => absurd rfl z⟩
    exact g_wi (fun c => c2f nz1 (h (some 12) (by rw [d_11, if_pos c]))) (fun c => c2t rfl (h none (by rw [d_11, if_neg c])))
  · show g_Or_dueBehind (nI 7) s P
    refine ⟨fun q => absurd q (by decide), fun q => absurd q (by decide), fun q => absurd q (by decide), fun q => absurd q (by decide), fun q => absurd q (by decide), fun q => absurd q (by decide), fun q => absurd q (by decide), fun _ => ?_, fun _ _ _ _ _ _ _ z => absurd rfl z⟩
    refine ⟨fun n1 => ?_, fun e => ?_⟩
    · exact h none (by rw [d_12, if_neg n1])
    · exact h (some 0) (by rw [d_12, if_pos e])
theorem C_fault_l {X : Int32 → Prop} {sg : Nat} (hs : I 12 = nI sg) (h40 : sg ≤ 40) : ∀ (d j st : Nat), j + d = sg → st ≤ 12 → (∀ i, dfa (A 22) d j st = (false, i) → P (nI i)) → (∀ st', dfa (A 22) d j st = (true, st') → X (nI (cst st'))) → g_Or_firstFault_4 I A P X (d + 1) (nI (cst st)) (nI j)
  | 0, j, st, hj, _, _, h2 => c2t (lit_le hs (by omega) (by omega)) (h2 st rfl)
  | d + 1, j, st, hj, hst, h1, h2 => by
    refine c2f (lit_lt hs (by omega) (by omega)) ⟨vin (by omega) (by omega), ?_⟩
    rw [nI_clamp (by omega)]
    refine C_due hst (fun o ho => ?_)
    unfold dfa at h1 h2
    rw [ho] at h1 h2
    cases o with
    | none => exact n2t rfl (h1 j rfl)
    | some st' =>
      have h12 := dfa1_le ho
      refine n2f (m6_nI (by unfold cst; (repeat' split) <;> omega)) ?_
      show g_Or_firstFault_4 I A P X (d + 1) (nI (cst st')) (nI j + 1)
      rw [nI_1]
      exact C_fault_l hs h40 d (j + 1) st' (by omega) h12 h1 h2
theorem cst_7 {st : Nat} (h : st ≤ 12) : nI (cst st) = 7 ↔ st = 12 := by
  show nI (cst st) = nI 7 ↔ _
  rw [nI_eq (by unfold cst; (repeat' split) <;> omega) (by omega)]
  unfold cst
  (repeat' split) <;> omega
theorem dfa_le {f : Nat → Int32} : ∀ {d j st st' : Nat}, st ≤ 12 → dfa f d j st = (true, st') → st' ≤ 12
  | 0, _, st, st', h, e => by cases e; exact h
  | d + 1, j, st, st', h, e => by
    unfold dfa at e
    cases ho : dfa1 st (f j) with
    | none => rw [ho] at e; cases e
    | some st2 => rw [ho] at e; exact dfa_le (dfa1_le ho) e
theorem dfa_lt {f : Nat → Int32} : ∀ {d j st i : Nat}, dfa f d j st = (false, i) → j ≤ i ∧ i < j + d
  | 0, _, st, i, e => by cases e
  | d + 1, j, st, i, e => by
    unfold dfa at e
    cases ho : dfa1 st (f j) with
    | none => rw [ho] at e; cases e; omega
    | some st2 => rw [ho] at e; have := dfa_lt e; omega
theorem dfa_cong {f g : Nat → Int32} : ∀ (d j st : Nat), (∀ i, j ≤ i → i < j + d → f i = g i) → dfa f d j st = dfa g d j st
  | 0, _, _, _ => rfl
  | d + 1, j, st, h => by
    unfold dfa
    rw [h j (Nat.le_refl _) (by omega)]
    cases dfa1 st (g j) with
    | none => rfl
    | some st2 => exact dfa_cong d (j + 1) st2 (fun i h1 h2 => h i (by omega) (by omega))
/-- the fault's place, NONE -/
def fltV (f : Nat → Int32) (sg : Nat) : Int32 := match dfa f sg 0 0 with
  | (false, i) => nI i
  | (true, st) => if st = 12 then -6 else nI sg
theorem C_fault {sg : Nat} (hs : I 12 = nI sg) (h40 : sg ≤ 40) (p : P (fltV (A 22) sg)) : g_Or_firstFault I A P := by
  refine ⟨sg + 1, C_fault_l hs h40 sg 0 0 (by omega) (by omega) (fun i e => ?_) (fun st e => ?_)⟩
  · unfold fltV at p; rw [e] at p; exact p
  · unfold fltV at p
    rw [e] at p
    have h12 := dfa_le (by omega) e
    by_cases c : st = 12
    · exact n2t ((cst_7 h12).mpr c) (by simpa [c] using p)
    · refine n2f (fun z => c ((cst_7 h12).mp z)) ?_
      rw [hs]
      simpa [c] using p
theorem M_155 {kb : Int32 → Int32 → Prop} {x2 : Int32} {st : Nat} (h3 : 3 ≤ st) (h12 : st ≤ 12) (hf : ¬ (st ≤ 8 ∧ 48 ≤ s ∧ s ≤ 57)) (h : ∀ o, dfa1 st s = o → g_Mo_faultOf_306 J B P kb x2 (oN o)) : g_Mo_faultOf_155 J B P kb (nI st) x2 s (-6) := by
  rcases (show st = 3 ∨ (4 ≤ st ∧ st ≤ 8) ∨ st = 9 ∨ st = 10 ∨ st = 11 ∨ st = 12 by omega) with rfl | h48 | rfl | rfl | rfl | rfl
  · refine g_mf (by decide) (c2t rfl (n2f (by decide) (c2f (by decide) (n2f (by decide) (n2f (by decide) ?_)))))
    exact h none (by rw [d_f (by omega) (by omega), if_neg (fun z => hf ⟨by omega, z⟩), if_neg (by omega)])
  · have hd := d_f h3 h48.2 s
    have hf2 : ¬ (48 ≤ s ∧ s ≤ 57) := fun z => hf ⟨h48.2, z⟩
    refine g_mt ⟨nI_le (a := 4) (by omega) (by omega), nI_le (b := 8) (by omega) (by omega)⟩ (c2f nz1 ⟨fun n1 => ⟨fun n2 => ?_, fun e => ?_⟩, fun e => ?_⟩)
    · exact h none (by rw [hd, if_neg hf2, if_pos h48.1, if_neg n1, if_neg n2])
    · exact h (some 9) (by rw [hd, if_neg hf2, if_pos h48.1, if_neg n1, if_pos e])
    · exact h (some 0) (by rw [hd, if_neg hf2, if_pos h48.1, if_pos e])
  · refine g_mf (by decide) (c2t rfl (n2t rfl ⟨fun e => ?_, fun n1 => ⟨fun n2 => ⟨fun e => ?_, fun n3 => ⟨fun n4 => ?_, fun e => ?_⟩⟩, fun e => ?_⟩⟩))
    · exact h (some 10) (by rw [d_9, if_pos (Or.inl e)])
    · exact h (some 11) (by rw [d_9, if_neg (fun z => z.elim n1 n2), if_pos (Or.inl e)])
    · exact h none (by rw [d_9, if_neg (fun z => z.elim n1 n2), if_neg (fun z => z.elim n3 n4)])
    · exact h (some 11) (by rw [d_9, if_neg (fun z => z.elim n1 n2), if_pos (Or.inr e)])
    · exact h (some 10) (by rw [d_9, if_pos (Or.inr e)])
  · refine g_mf (by decide) (c2t rfl (n2f (by decide) (c2t rfl (n2t rfl ?_))))
    by_cases c : 97 ≤ s ∧ s ≤ 108
    · exact g_mt c (c2f nz1 (h (some 12) (by rw [d_10, if_pos c])))
    · exact g_mf c (c2t rfl (h none (by rw [d_10, if_neg c])))
  · refine g_mf (by decide) (c2t rfl (n2f (by decide) (c2f (by decide) (n2t rfl (n2f (by decide) ?_)))))
    by_cases c : 97 ≤ s ∧ s ≤ 114
    · exact g_mt c (c2f nz1 (h (some 12) (by rw [d_11, if_pos c])))
    · exact g_mf c (c2t rfl (h none (by rw [d_11, if_neg c])))
  · refine g_mf (by decide) (c2t rfl (n2f (by decide) (c2f (by decide) (n2f (by decide) (n2t rfl ⟨fun n1 => ?_, fun e => ?_⟩)))))
    · exact h none (by rw [d_12, if_neg n1])
    · exact h (some 0) (by rw [d_12, if_pos e])
theorem M_fault_l {X : Int32 → Prop} {sg : Nat} (hs : J 9 = nI sg) (h40 : sg ≤ 40) : ∀ (d j st : Nat), j + d = sg → st ≤ 12 → (∀ i, dfa (B 23) d j st = (false, i) → P (nI i)) → (∀ st', dfa (B 23) d j st = (true, st') → X (nI st')) → g_Mo_faultOf_4 J B P X (d + 1) (nI st) (nI j)
  | 0, j, st, hj, _, _, h2 => c2t (lit_le hs (by omega) (by omega)) (h2 st rfl)
  | d + 1, j, st, hj, hst, h1, h2 => by
    refine c2f (lit_lt hs (by omega) (by omega)) ⟨vin (by omega) (by omega), y1 ?_⟩
    rw [nI_clamp (by omega)]
    have h : ∀ o, dfa1 st (B 23 j) = o → g_Mo_faultOf_306 J B P (g_Mo_faultOf_4 J B P X (d + 1)) (nI j) (oN o) := by
      intro o ho
      unfold dfa at h1 h2
      rw [ho] at h1 h2
      cases o with
      | none => exact c2f (by decide) (h1 j rfl)
      | some st' =>
        have h12 := dfa1_le ho
        refine c2t (nI_pos' (by omega)) ?_
        show g_Mo_faultOf_4 J B P X (d + 1) (nI st') (nI j + 1)
        rw [nI_1]
        exact M_fault_l hs h40 d (j + 1) st' (by omega) h12 h1 h2
    generalize B 23 j = s at h
    rcases (show st = 0 ∨ st = 1 ∨ st = 2 ∨ (3 ≤ st ∧ st ≤ 8) ∨ 9 ≤ st by omega) with rfl | rfl | rfl | h38 | h9
    · refine n2t rfl ⟨fun e => ?_, fun n1 => ⟨fun n2 => ⟨fun n3 => ?_, fun e => ?_⟩, fun e => ?_⟩⟩
      · exact h (some 1) (by rw [d_0, if_pos (Or.inl e)])
      · exact h none (by rw [d_0, if_neg (fun z => z.elim n1 n2), if_neg n3])
      · exact h (some 2) (by rw [d_0, if_neg (fun z => z.elim n1 n2), if_pos e])
      · exact h (some 1) (by rw [d_0, if_pos (Or.inr e)])
    · refine n2f (by decide) (n2t rfl ?_)
      by_cases c : 97 ≤ s ∧ s ≤ 108
      · exact g_mt c (c2f nz1 (h (some 2) (by rw [d_1, if_pos c])))
      · exact g_mf c (c2t rfl (h none (by rw [d_1, if_neg c])))
    · refine n2f (by decide) (n2f (by decide) (n2t rfl ⟨fun e => ?_, fun n1 => ⟨fun n2 => ?_, fun e => ?_⟩⟩))
      · exact h (some 3) (by rw [d_2, if_pos (Or.inl e)])
      · exact h none (by rw [d_2, if_neg (fun z => z.elim n1 n2)])
      · exact h (some 3) (by rw [d_2, if_pos (Or.inr e)])
    · have hne : ∀ i, i < 3 → ¬ nI st = nI i := fun i hi => by rw [nI_eq (by omega) (by omega)]; omega
      refine n2f (hne 0 (by omega)) (n2f (hne 1 (by omega)) (n2f (hne 2 (by omega)) (g_mt ⟨nI_le (a := 3) (by omega) (by omega), nI_le (b := 8) (by omega) (by omega)⟩ (c2f nz1 ?_))))
      have hd := d_f h38.1 h38.2 s
      by_cases c : 48 ≤ s ∧ s ≤ 57
      · refine g_mt c (c2f nz1 ?_)
        by_cases e8 : st = 8
        · subst e8
          exact c2t (by decide) (h none (by rw [hd, if_pos c, if_neg (by omega)]))
        · refine c2f (nI_ge (b := 8) (by omega) (by omega)) ?_
          rw [nI_1]
          exact h (some (st + 1)) (by rw [hd, if_pos c, if_pos (by omega)])
      · exact g_mf c (c2t rfl (M_155 h38.1 hst (fun z => c z.2) h))
    · have hne : ∀ i, i < 3 → ¬ nI st = nI i := fun i hi => by rw [nI_eq (by omega) (by omega)]; omega
      refine n2f (hne 0 (by omega)) (n2f (hne 1 (by omega)) (n2f (hne 2 (by omega)) (g_mf (fun z => ?_) (c2t rfl (M_155 (by omega) hst (fun z => by omega) h)))))
      exact nI_ge (a := 8) (b := st) (by omega) (by omega) z.2
theorem M_fault {sg : Nat} (hs : J 9 = nI sg) (h40 : sg ≤ 40) (p : P (fltV (B 23) sg)) : g_Mo_faultOf J B P := by
  refine ⟨sg + 1, M_fault_l hs h40 sg 0 0 (by omega) (by omega) (fun i e => ?_) (fun st e => ?_)⟩
  · unfold fltV at p; rw [e] at p; exact p
  · unfold fltV at p
    rw [e] at p
    have h12 := dfa_le (by omega) e
    by_cases c : st = 12
    · subst c
      exact n2t rfl (by simpa using p)
    · have : ¬ nI st = 12 := by show ¬ nI st = nI 12; rw [nI_eq (by omega) (by omega)]; exact c
      refine n2f this ?_
      rw [hs]
      simpa [c] using p
theorem flt_cong {f g : Nat → Int32} {sg : Nat} (h : ∀ i, i < sg → f i = g i) : fltV f sg = fltV g sg := by
  unfold fltV
  rw [dfa_cong sg 0 0 (fun i _ hi => h i (by omega))]
theorem flt_m6 {f : Nat → Int32} {sg : Nat} (h40 : sg ≤ 40) : (fltV f sg = -6 → okT f sg) ∧ (¬ fltV f sg = -6 → ¬ fltV f sg < 0) ∧ (fltV f sg = -6 → fltV f sg < 0) := by
  unfold okT fltV
  cases e : dfa f sg 0 0 with
  | mk b i =>
    cases b
    · have := dfa_lt e
      exact ⟨fun z => absurd z (m6_nI (by omega)), fun _ => nI_pos (by omega), fun z => absurd z (m6_nI (by omega))⟩
    · by_cases c : i = 12
      · subst c
        simp
      · simp only [c, if_false]
        exact ⟨fun z => absurd z (m6_nI (by omega)), fun _ => nI_pos (by omega), fun z => absurd z (m6_nI (by omega))⟩
theorem op_fault (hR : Rel k I A T L K F J B) : g_Pw_fault I A (fun r => g_Mo_fault J B (fun r2 => r = r2 ∧ Rel (k + 1) I A T L K F J B)) := by
  have hU := hR.up
  obtain ⟨tk, n, m, v, sh, nr, sg, od, bk, ht, hc, hn, hm, hv, hnr, hmm, hs, ho, hp, hrw, htm, hmt, hkn, hth⟩ := hR
  obtain ⟨s40, hi12, hj9, hsg⟩ := id hs
  exact C_fault hi12 s40 (M_fault hj9 s40 ⟨flt_cong hsg, hU⟩)
theorem at40 (r i : Nat) : (40 : Int32) * nI r + nI i = nI (40 * r + i) := by rw [show (40 : Int32) = nI 40 from rfl, pk_mul, nI_add]
theorem M_order_l {P : Int32 → ((Nat → Int32) × (Nat → Nat → Int32)) → Prop} {X : (Nat → Int32) → (Nat → Nat → Int32) → Prop} {sg o : Nat} (hs : J 9 = nI sg) (h40 : sg ≤ 40) (ho : J 10 = nI o) (ho6 : o < 6) : ∀ (d j : Nat), j + d = sg → X J (va_up B 26 (fb_put (B 26) (B 23) (40 * o) sg)) → g_Mo_order_61 a1 P X (d + 1) J (va_up B 26 (fb_put (B 26) (B 23) (40 * o) j)) (nI j)
  | 0, j, hj, h => by
    have e : j = sg := by omega
    subst e
    exact c2t (lit_le hs (Nat.le_refl _) (by omega)) h
  | d + 1, j, hj, h => by
    refine c2f (lit_lt hs (by omega) (by omega)) ⟨vin (by omega) (by omega), ?_, ?_⟩
    · rw [ho, at40]; exact vin (by omega) (by omega)
    · have e : sA (va_up B 26 (fb_put (B 26) (B 23) (40 * o) j)) 26 ((40 : Int32) * J 10 + nI j) ((va_up B 26 (fb_put (B 26) (B 23) (40 * o) j)) 23 (nI j).toNatClampNeg) = va_up B 26 (fb_put (B 26) (B 23) (40 * o) (j + 1)) := by
        rw [ho, at40, nI_clamp (by omega)]
        funext c
        by_cases q : c = 26
        · subst q; rw [sA_at, vu_at, vu_at, va_un (by decide), nI_clamp (by omega)]; exact fb_put_succ (B 26) (B 23) (40 * o) j
        · rw [sA_ne q, va_un q, va_un q]
      rw [e, nI_1]
      exact M_order_l hs h40 ho ho6 d (j + 1) (by omega) h
theorem six {r : Nat} (h : r < 6) : r = 0 ∨ r = 1 ∨ r = 2 ∨ r = 3 ∨ r = 4 ∨ r = 5 := by omega
theorem pk6_va {r : Nat} (hr : r < 6) (A : Nat → Nat → Int32) (g : Nat → Int32) : ∀ s, s < 6 → pk6 (va_up A (35 + r) g 35) (va_up A (35 + r) g 36) (va_up A (35 + r) g 37) (va_up A (35 + r) g 38) (va_up A (35 + r) g 39) (va_up A (35 + r) g 40) s = if s = r then g else pk6 (A 35) (A 36) (A 37) (A 38) (A 39) (A 40) s := by
  intro s hs
  rcases six hr with rfl | rfl | rfl | rfl | rfl | rfl <;> rcases six hs with rfl | rfl | rfl | rfl | rfl | rfl <;> rfl
theorem Rord.add {od sg : Nat} {i13 j10 z w day : Int32} {a23 a24 b24 b25 b26 f g : Nat → Int32} {tx tx2 : Nat → Nat → Int32} (h : Rord od i13 j10 a23 a24 tx b24 b25 b26) (ho : od < 6) (h40 : sg ≤ 40) (htx : ∀ s, s < 6 → tx2 s = if s = od then f else tx s) (hz : z = nI sg) (hw : w = nI sg) (hf : ∀ i, i < sg → f i = g i) (hok : okT g sg) :
    Rord (od + 1) (i13 + 1) (j10 + 1) (upd a23 i13.toNatClampNeg z) (upd a24 i13.toNatClampNeg day) tx2 (upd b24 j10.toNatClampNeg day) (upd b25 j10.toNatClampNeg w) (fb_put b26 g (40 * od) sg) := by
  obtain ⟨h0, rfl, rfl, h3⟩ := h
  rw [nI_clamp (by omega)]
  refine ⟨by omega, nI_1 od, nI_1 od, fun o hlt => ?_⟩
  rw [htx o (by omega)]
  by_cases e : o = od
  · subst e
    rw [up_at, up_at, up_at, up_at, if_pos rfl]
    refine ⟨rfl, sg, h40, hz, hw, fun i hi => ?_, ?_⟩
    · rw [fb_put_in (by omega) (by omega), hf i hi]
      congr 1
      omega
    · unfold okT at hok ⊢
      rw [← hok]
      refine dfa_cong _ _ _ (fun i _ hi => ?_)
      show fb_put b26 g (40 * o) sg (40 * o + i) = g i
      rw [fb_put_in (by omega) (by omega)]
      congr 1
      omega
  · rw [up_ne e, up_ne e, up_ne e, up_ne e, if_neg e]
    obtain ⟨q1, zz, q2, q3, q4, q5, q6⟩ := h3 o (by omega)
    refine ⟨q1, zz, q2, q3, q4, fun i hi => ?_, ?_⟩
    · rw [fb_put_out (by omega)]; exact q5 i hi
    · unfold okT at q6 ⊢
      rw [← q6]
      refine dfa_cong _ _ _ (fun i _ hi => ?_)
      show fb_put b26 g (40 * od) sg (40 * o + i) = b26 (40 * o + i)
      rw [fb_put_out (by omega)]
theorem op_order (hR : Rel k I A T L K F J B) : g_Pw_order I A a1 (fun r u => g_Mo_order J B a1 (fun r2 v => r = r2 ∧ Rel (k + 1) u.1 u.2 T L K F v.1 v.2)) := by
  have hU := hR.up
  obtain ⟨tk, n, m, v, sh, nr, sg, od, bk, ht, hc, hn, hm, hv, hnr, hmm, hs, ho, hp, hrw, htm, hmt, hkn, hth⟩ := hR
  obtain ⟨s40, hi12, hj9, hsg⟩ := id hs
  obtain ⟨o6, hi13, hj10, hos⟩ := id ho
  refine g_wi (fun h => c2f nz1 ?_) (fun h => c2t rfl (g_mf h (n2t rfl ⟨rfl, hU⟩)))
  by_cases hf : od = 6
  · exact c2f (cnt_nlt (N := 6) hi13 (by omega) (by omega)) (g_mt h (n2f nz1 (n2t (by rw [hj10, hf]; rfl) ⟨rfl, hU⟩)))
  · have hlt : od < 6 := by omega
    have hin : vp_in (I 13) 6 := by rw [hi13]; exact vin hlt (by omega)
    have hin2 : vp_in (J 10) 6 := by rw [hj10]; exact vin hlt (by omega)
    refine c2t (cnt_lt (N := 6) hi13 (by omega) hlt) (C_fault hi12 s40 ?_)
    rw [flt_cong hsg]
    by_cases c : fltV (B 23) sg = -6
    · refine c2t c ⟨hin, y1 ⟨hin, hin, ?_⟩⟩
      refine g_mt h (n2f nz1 (n2f (cnt_ne (N := 6) hj10 (by omega) hlt) (M_fault hj9 s40 (c2t ((flt_m6 s40).2.2 c) ⟨hin2, hin2, sg + 1, ?_⟩))))
      have e0 : va_up (sA (sA B 24 (J 10) a1) 25 (J 10) (J 9)) 26 (fb_put ((sA (sA B 24 (J 10) a1) 25 (J 10) (J 9)) 26) ((sA (sA B 24 (J 10) a1) 25 (J 10) (J 9)) 23) (40 * od) 0) = sA (sA B 24 (J 10) a1) 25 (J 10) (J 9) := by
        rw [fb_put_0]
        funext c
        by_cases q : c = 26
        · subst q; rw [vu_at]
        · rw [va_un q]
      have hcl : (I 13).toNatClampNeg = od := by rw [hi13]; exact nI_clamp (by omega)
      have key := M_order_l (B := sA (sA B 24 (J 10) a1) 25 (J 10) (J 9)) (a1 := a1) (P := fun r2 v => I 13 = r2 ∧ Rel (k + 1) (va_up (va_up I 12 0) 13 (I 13 + 1)) (sA (sA (va_up A (35 + od) (va_cpy (A 22) (A (35 + od)) (0 : Int32).toNatClampNeg (0 : Int32).toNatClampNeg (40 : Int32).toNatClampNeg)) 23 (I 13) (I 12)) 24 (I 13) a1) T L K F v.1 v.2) (X := fun I_7 A_7 => I 13 = ((va_up (va_up I_7 10 ((I_7 10) + (1 : Int32))) 9 (0 : Int32)) 10) - (1 : Int32) ∧ Rel (k + 1) (va_up (va_up I 12 0) 13 (I 13 + 1)) (sA (sA (va_up A (35 + od) (va_cpy (A 22) (A (35 + od)) (0 : Int32).toNatClampNeg (0 : Int32).toNatClampNeg (40 : Int32).toNatClampNeg)) 23 (I 13) (I 12)) 24 (I 13) a1) T L K F (va_up (va_up I_7 10 ((I_7 10) + (1 : Int32))) 9 (0 : Int32)) A_7) hj9 s40 hj10 hlt sg 0 (by omega) ?_
      · rw [e0] at key
        rw [hcl]
        exact key
      · refine ⟨?_, ?_⟩
        · show I 13 = J 10 + 1 - 1
          rw [cnt_sub hj10, hj10, hi13]
        · have hcp : ∀ i, i < sg → va_cpy (A 22) (A (35 + od)) (0 : Int32).toNatClampNeg (0 : Int32).toNatClampNeg (40 : Int32).toNatClampNeg i = B 23 i := by
            intro i hi
            rw [show (0 : Int32).toNatClampNeg = 0 from rfl, show (40 : Int32).toNatClampNeg = 40 from rfl]
            unfold va_cpy
            rw [if_pos (by omega), show 0 + (i - 0) = i by omega]
            exact hsg i hi
          have hnew := ho.add (day := a1) (z := I 12) (w := J 9) hlt s40 (pk6_va hlt A (va_cpy (A 22) (A (35 + od)) (0 : Int32).toNatClampNeg (0 : Int32).toNatClampNeg (40 : Int32).toNatClampNeg)) hi12 hj9 hcp ((flt_m6 s40).1 c)
          rcases six hlt with rfl | rfl | rfl | rfl | rfl | rfl <;> exact ⟨tk, n, m, v, sh, nr, 0, _ + 1, bk, ht.up, hc, hn, hm, hv, hnr, hmm, ⟨by omega, rfl, rfl, fun i hi => absurd hi (by omega)⟩, hnew, hp, hrw, htm, hmt, hkn, hth⟩
    · exact c2f c (g_mt h (n2f nz1 (n2f (cnt_ne (N := 6) hj10 (by omega) hlt) (M_fault hj9 s40 (c2f ((flt_m6 s40).2.1 c) ⟨rfl, hU⟩)))))
end FAULT
