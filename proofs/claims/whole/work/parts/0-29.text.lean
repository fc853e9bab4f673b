/-! ===== layer 2: what the texts of orders look like, and what they say ===== -/
def dgt (s : Int32) : Bool := decide (48 ≤ s ∧ s ≤ 57)
def Tst (f : Nat → Int32) (p o nd : Nat) : Prop :=
  ((o = 2 ∧ (f p = 103 ∨ f p = 116) ∧ ∃ c, c < 12 ∧ f (p + 1) = nI (97 + c)) ∨ (o = 1 ∧ f p = 109)) ∧ (f (p + o) = 60 ∨ f (p + o) = 62) ∧ 1 ≤ nd ∧ nd ≤ 5 ∧ ∀ i, i < nd → dgt (f (p + o + 1 + i)) = true
def Act (f : Nat → Int32) (q : Nat) : Prop := ((f q = 76 ∨ f q = 68) ∧ ∃ c, c < 12 ∧ f (q + 1) = nI (97 + c)) ∨ ((f q = 83 ∨ f q = 79) ∧ ∃ c, c < 18 ∧ f (q + 1) = nI (97 + c))
def Txt (f : Nat → Int32) (z : Nat) : Nat → Nat → Prop
  | 0, _ => False
  | d + 1, p => ∃ o nd e, Tst f p o nd ∧ e = p + o + 1 + nd ∧ e < z ∧ ((f e = 38 ∧ Txt f z d (e + 1)) ∨ (f e = 58 ∧ Act f (e + 1) ∧ (e + 3 = z ∨ (f (e + 3) = 59 ∧ e + 3 < z ∧ Txt f z d (e + 4)))))
theorem Txt.mono {f : Nat → Int32} {z : Nat} : ∀ {d d2 p : Nat}, Txt f z d p → d ≤ d2 → Txt f z d2 p
  | 0, _, _, h, _ => h.elim
  | d + 1, 0, _, _, hd => by omega
  | d + 1, d2 + 1, p, h, hd => by
    obtain ⟨o, nd, e, h1, h2, h3, h4⟩ := h
    refine ⟨o, nd, e, h1, h2, h3, ?_⟩
    rcases h4 with ⟨q1, q2⟩ | ⟨q1, q2, q3⟩
    · exact Or.inl ⟨q1, q2.mono (by omega)⟩
    · refine Or.inr ⟨q1, q2, ?_⟩
      rcases q3 with q | ⟨q3, q4, q5⟩
      · exact Or.inl q
      · exact Or.inr ⟨q3, q4, q5.mono (by omega)⟩
theorem dfa_st {f : Nat → Int32} {d p st : Nat} (h : dfa f d p st = (true, 12)) (hs : st ≠ 12) : ∃ d' st', d = d' + 1 ∧ dfa1 st (f p) = some st' ∧ dfa f d' (p + 1) st' = (true, 12) := by
  cases d with
  | zero => cases h; exact absurd rfl hs
  | succ d =>
    unfold dfa at h
    cases e : dfa1 st (f p) with
    | none => rw [e] at h; cases h
    | some st' => rw [e] at h; exact ⟨d, st', rfl, rfl, h⟩
theorem ch_nI {s : Int32} {hi : Nat} (h : 97 ≤ s ∧ s ≤ nI (97 + hi)) (hh : hi < 100) : ∃ c, c < hi + 1 ∧ s = nI (97 + c) := by
  obtain ⟨x, h1, h2, rfl⟩ := rg_nI (lo := 97) (hi := 97 + hi) h (by omega) (by omega)
  exact ⟨x - 97, by omega, by congr 1; omega⟩
theorem dfa_dig {f : Nat → Int32} : ∀ (r st p d : Nat), st + r = 8 → 4 ≤ st → dfa f d p st = (true, 12) → ∃ nd d', nd ≤ r ∧ d = nd + 1 + d' ∧ (∀ i, i < nd → dgt (f (p + i)) = true) ∧ ((f (p + nd) = 38 ∧ dfa f d' (p + nd + 1) 0 = (true, 12)) ∨ (f (p + nd) = 58 ∧ dfa f d' (p + nd + 1) 9 = (true, 12)))
  | r, st, p, d, hr, h4, h => by
    obtain ⟨d', st', rfl, h1, h2⟩ := dfa_st h (by omega)
    unfold dfa1 at h1
    rw [if_neg (by omega), if_neg (by omega), if_neg (by omega)] at h1
    by_cases c : 48 ≤ f p ∧ f p ≤ 57
    · rw [if_pos ⟨by omega, c⟩] at h1
      by_cases c8 : st < 8
      · rw [if_pos c8] at h1
        cases h1
        obtain ⟨nd, d2, g1, g2, g3, g4⟩ := dfa_dig (r - 1) (st + 1) (p + 1) d' (by omega) (by omega) h2
        refine ⟨nd + 1, d2, by omega, by omega, fun i hi => ?_, ?_⟩
        · cases i with
          | zero => exact decide_eq_true c
          | succ i => have := g3 i (by omega); rw [show p + 1 + i = p + (i + 1) by omega] at this; exact this
        · rw [show p + 1 + nd = p + (nd + 1) by omega] at g4; exact g4
      · rw [if_neg c8] at h1; cases h1
    · rw [if_neg (fun z => c z.2), if_pos (by omega)] at h1
      refine ⟨0, d', by omega, by omega, fun i hi => by omega, ?_⟩
      by_cases c1 : f p = 38
      · rw [if_pos c1] at h1; cases h1; exact Or.inl ⟨c1, h2⟩
      · rw [if_neg c1] at h1
        by_cases c2 : f p = 58
        · rw [if_pos c2] at h1; cases h1; exact Or.inr ⟨c2, h2⟩
        · rw [if_neg c2] at h1; cases h1
  termination_by r => r
theorem dfa_num {f : Nat → Int32} {p d : Nat} (h : dfa f d p 2 = (true, 12)) : ∃ nd d', (f p = 60 ∨ f p = 62) ∧ 1 ≤ nd ∧ nd ≤ 5 ∧ d = nd + 2 + d' ∧ (∀ i, i < nd → dgt (f (p + 1 + i)) = true) ∧ ((f (p + 1 + nd) = 38 ∧ dfa f d' (p + 1 + nd + 1) 0 = (true, 12)) ∨ (f (p + 1 + nd) = 58 ∧ dfa f d' (p + 1 + nd + 1) 9 = (true, 12))) := by
  obtain ⟨d1, st1, rfl, h1, h2⟩ := dfa_st h (by omega)
  unfold dfa1 at h1
  rw [if_neg (by omega), if_neg (by omega), if_pos rfl] at h1
  by_cases c : f p = 60 ∨ f p = 62
  · rw [if_pos c] at h1
    cases h1
    obtain ⟨d2, st2, rfl, h3, h4⟩ := dfa_st h2 (by omega)
    unfold dfa1 at h3
    rw [if_neg (by omega), if_neg (by omega), if_neg (by omega)] at h3
    by_cases c3 : 48 ≤ f (p + 1) ∧ f (p + 1) ≤ 57
    · rw [if_pos ⟨by omega, c3⟩, if_pos (by omega)] at h3
      cases h3
      obtain ⟨nd, d', g1, g2, g3, g4⟩ := dfa_dig 4 4 (p + 1 + 1) d2 (by omega) (by omega) h4
      refine ⟨nd + 1, d', c, by omega, by omega, by omega, fun i hi => ?_, ?_⟩
      · cases i with
        | zero => exact decide_eq_true c3
        | succ i => have := g3 i (by omega); rw [show p + 1 + 1 + i = p + 1 + (i + 1) by omega] at this; exact this
      · rw [show p + 1 + 1 + nd = p + 1 + (nd + 1) by omega] at g4; exact g4
    · rw [if_neg (fun z => c3 z.2), if_neg (by omega), if_neg (by omega), if_neg (by omega), if_neg (by omega), if_neg (by omega)] at h3
      cases h3
  · rw [if_neg c] at h1; cases h1
theorem dfa_act {f : Nat → Int32} {p d : Nat} (h : dfa f d p 9 = (true, 12)) : ∃ d', d = d' + 2 ∧ Act f p ∧ (d' = 0 ∨ ∃ d2, d' = d2 + 1 ∧ f (p + 2) = 59 ∧ dfa f d2 (p + 3) 0 = (true, 12)) := by
  obtain ⟨d1, st1, rfl, h1, h2⟩ := dfa_st h (by omega)
  have key : ∃ d', d1 = d' + 1 ∧ Act f p ∧ dfa f d' (p + 2) 12 = (true, 12) := by
    unfold dfa1 at h1
    rw [if_neg (by omega), if_neg (by omega), if_neg (by omega), if_neg (by omega), if_neg (by omega), if_pos rfl] at h1
    by_cases c : f p = 76 ∨ f p = 68
    · rw [if_pos c] at h1
      cases h1
      obtain ⟨d2, st2, rfl, h3, h4⟩ := dfa_st h2 (by omega)
      unfold dfa1 at h3
      rw [if_neg (by omega), if_neg (by omega), if_neg (by omega), if_neg (by omega), if_neg (by omega), if_neg (by omega), if_pos rfl] at h3
      by_cases c2 : 97 ≤ f (p + 1) ∧ f (p + 1) ≤ 108
      · rw [if_pos c2] at h3
        cases h3
        exact ⟨d2, rfl, Or.inl ⟨c, ch_nI (hi := 11) c2 (by omega)⟩, h4⟩
      · rw [if_neg c2] at h3; cases h3
    · rw [if_neg c] at h1
      by_cases c' : f p = 83 ∨ f p = 79
      · rw [if_pos c'] at h1
        cases h1
        obtain ⟨d2, st2, rfl, h3, h4⟩ := dfa_st h2 (by omega)
        unfold dfa1 at h3
        rw [if_neg (by omega), if_neg (by omega), if_neg (by omega), if_neg (by omega), if_neg (by omega), if_neg (by omega), if_neg (by omega), if_pos rfl] at h3
        by_cases c2 : 97 ≤ f (p + 1) ∧ f (p + 1) ≤ 114
        · rw [if_pos c2] at h3
          cases h3
          exact ⟨d2, rfl, Or.inr ⟨c', ch_nI (hi := 17) c2 (by omega)⟩, h4⟩
        · rw [if_neg c2] at h3; cases h3
      · rw [if_neg c'] at h1; cases h1
  obtain ⟨d', rfl, ha, h3⟩ := key
  refine ⟨d', rfl, ha, ?_⟩
  cases d' with
  | zero => exact Or.inl rfl
  | succ d2 =>
    refine Or.inr ⟨d2, rfl, ?_⟩
    unfold dfa at h3
    by_cases c : f (p + 2) = 59
    · rw [show dfa1 12 (f (p + 2)) = some 0 by rw [c]; decide] at h3
      exact ⟨c, h3⟩
    · rw [show dfa1 12 (f (p + 2)) = none by
        unfold dfa1
        rw [if_neg (by omega), if_neg (by omega), if_neg (by omega), if_neg (by omega), if_neg (by omega), if_neg (by omega), if_neg (by omega), if_neg (by omega), if_pos rfl, if_neg c]] at h3
      cases h3
theorem txt_of {f : Nat → Int32} {z : Nat} : ∀ (N p d : Nat), d ≤ N → p + d = z → dfa f d p 0 = (true, 12) → Txt f z (N + 1) p
  | N, p, d, hN, hz, h => by
    obtain ⟨d1, st1, rfl, h1, h2⟩ := dfa_st h (by omega)
    unfold dfa1 at h1
    rw [if_pos rfl] at h1
    have fin : ∀ o nd d', Tst f p o nd → d1 + 1 = o + 1 + nd + 1 + d' → ((f (p + o + 1 + nd) = 38 ∧ dfa f d' (p + o + 1 + nd + 1) 0 = (true, 12)) ∨ (f (p + o + 1 + nd) = 58 ∧ dfa f d' (p + o + 1 + nd + 1) 9 = (true, 12))) → Txt f z (N + 1) p := by
      intro o nd d' ht hd hc
      refine ⟨o, nd, _, ht, rfl, by omega, ?_⟩
      rcases hc with ⟨q1, q2⟩ | ⟨q1, q2⟩
      · refine Or.inl ⟨q1, ?_⟩
        cases N with
        | zero => omega
        | succ N => exact txt_of N _ d' (by omega) (by omega) q2
      · obtain ⟨d2, rfl, ha, q3⟩ := dfa_act q2
        refine Or.inr ⟨q1, ha, ?_⟩
        rcases q3 with q | ⟨d3, rfl, q4, q5⟩
        · exact Or.inl (by omega)
        · refine Or.inr ⟨q4, by omega, ?_⟩
          cases N with
          | zero => omega
          | succ N => exact txt_of N _ d3 (by omega) (by omega) q5
    by_cases c : f p = 103 ∨ f p = 116
    · rw [if_pos c] at h1
      cases h1
      obtain ⟨d2, st2, rfl, h3, h4⟩ := dfa_st h2 (by omega)
      unfold dfa1 at h3
      rw [if_neg (by omega), if_pos rfl] at h3
      by_cases c2 : 97 ≤ f (p + 1) ∧ f (p + 1) ≤ 108
      · rw [if_pos c2] at h3
        cases h3
        obtain ⟨nd, d', g1, g2, g3, g4, g5, g6⟩ := dfa_num h4
        exact fin 2 nd d' ⟨Or.inl ⟨rfl, c, ch_nI (hi := 11) c2 (by omega)⟩, g1, g2, g3, g5⟩ (by omega) g6
      · rw [if_neg c2] at h3; cases h3
    · rw [if_neg c] at h1
      by_cases c2 : f p = 109
      · rw [if_pos c2] at h1
        cases h1
        obtain ⟨nd, d', g1, g2, g3, g4, g5, g6⟩ := dfa_num h2
        exact fin 1 nd d' ⟨Or.inr ⟨rfl, c2⟩, g1, g2, g3, g5⟩ (by omega) g6
      · rw [if_neg c2] at h1; cases h1
  termination_by N => N
/-! what a text says -/
def ofs (f : Nat → Int32) (p : Nat) : Nat := if f p = 109 then 1 else 2
def dnum (f : Nat → Int32) (q : Nat) : Nat := (fd (fun i => !dgt (f (q + i))) 6 0).getD 0
def numT (f : Nat → Int32) (q nd : Nat) : Int32 := lp (fun i x => 10 * x + f (q + i) - 48) nd 0 0
def tv (f : Nat → Int32) (V : Nat → Int32) (p : Nat) : Bool :=
  if f (p + ofs f p) = 60 then !decide (numT f (p + ofs f p + 1) (dnum f (p + ofs f p + 1)) ≤ V p) else !decide (V p ≤ numT f (p + ofs f p + 1) (dnum f (p + ofs f p + 1)))
def eT (f : Nat → Int32) (p : Nat) : Nat := p + ofs f p + 1 + dnum f (p + ofs f p + 1)
def bts (so : Bool) (bits r : Nat) : Nat := if so then bits ||| 2 ^ r else bits
def ev (f : Nat → Int32) (V : Nat → Int32) (z : Nat) : Nat → Nat → Nat → Bool → Nat → Nat
  | 0, _, _, _, bits => bits
  | d + 1, p, r, so, bits => if f (eT f p) = 38 then ev f V z d (eT f p + 1) r (so && tv f V p) bits else if eT f p + 3 = z then bts (so && tv f V p) bits r else ev f V z d (eT f p + 4) (r + 1) true (bts (so && tv f V p) bits r)
theorem Tst.of {f : Nat → Int32} {p o nd : Nat} (h : Tst f p o nd) (he : f (p + o + 1 + nd) = 38 ∨ f (p + o + 1 + nd) = 58) : ofs f p = o ∧ dnum f (p + o + 1) = nd ∧ eT f p = p + o + 1 + nd := by
  obtain ⟨h1, h2, h3, h4, h5⟩ := h
  have e1 : ofs f p = o := by
    unfold ofs
    rcases h1 with ⟨rfl, q, -⟩ | ⟨rfl, q⟩
    · rw [if_neg]
      rcases q with q | q <;> rw [q] <;> decide
    · rw [if_pos q]
  have hnd : dgt (f (p + o + 1 + nd)) = false := by rcases he with q | q <;> rw [q] <;> decide
  have e2 : dnum f (p + o + 1) = nd := by
    unfold dnum
    cases e : fd (fun i => !dgt (f (p + o + 1 + i))) 6 0 with
    | none =>
      have := fd_none e nd (by omega) (by omega)
      rw [hnd] at this; cases this
    | some x =>
      obtain ⟨-, q2, q3, q4⟩ := fd_some e
      show x = nd
      rcases Nat.lt_or_ge x nd with c | c
      · rw [h5 x c] at q3; cases q3
      · rcases Nat.eq_or_lt_of_le c with c | c
        · exact c.symm
        · have := q4 nd (by omega) c
          rw [hnd] at this; cases this
  refine ⟨e1, e2, ?_⟩
  unfold eT; rw [e1, e2]
