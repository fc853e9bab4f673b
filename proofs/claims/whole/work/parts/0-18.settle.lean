/-! ===== layer 2: settle, its memory, and work ===== -/
theorem bI_or (a b : Bool) : bI a ||| bI b = bI (a || b) := by cases a <;> cases b <;> decide
def inpV (kd on tw th fo lv li la tick : Int32) : Int32 := if srcB kd lv li tw la tick then -1 - on else tkv kd on tw th fo lv tick 1000 * 8 + kd
section ST
variable {I : Nat → Int32} {A A0 : Nat → Nat → Int32} {T : Nat → Option Nat} {L : List Nat} {K : Nat → Nat} {F : Nat → Nat → Int32} {J : Nat → Int32} {B : Nat → Nat → Int32} {n m v t : Nat}
theorem C_note {P : Int32 → (Nat → Nat → Int32) → Prop} {i : Nat} {x : Int32} (hi : i < 15) (h : P (bI (decide (¬ A 13 i = x))) (sA A 13 (nI i) x)) : g_Ne_noteInput A (nI i) x P := by
  have hin : vp_in (nI i) 15 := vin hi (by omega)
  refine ⟨hin, ?_⟩
  rw [nI_clamp (by omega)]
  by_cases c : A 13 i = x
  · rw [show decide (¬ A 13 i = x) = false from decide_eq_false (fun z => z c)] at h
    exact c2t c ⟨hin, Or.inl rfl, h⟩
  · rw [show decide (¬ A 13 i = x) = true from decide_eq_true c] at h
    exact c2f c ⟨hin, Or.inr rfl, h⟩
theorem C_input {P : Int32 → Prop} {i : Nat} {kd on tw th fo lv li la : Int32} (hi : i < 12) (ht : t < 2 ^ 31) (h : thI (T i) L K F kd on tw th fo lv li la) (p : P (inpV kd on tw th fo lv li la (nI t))) : g_Ne_inputOf T L K F (nI i) (nI t) P := by
  refine ⟨vin hi (by omega), ?_⟩
  rw [nI_clamp (by omega)]
  refine ⟨fun e => ?_, fun q e => ?_⟩
  · obtain ⟨h0, -, -⟩ := thI_none h e
    unfold inpV at p
    rw [src_0 (by rw [h0]; decide) (by rw [h0]; decide), h0, tkv_0] at p
    exact p
  · obtain ⟨hq, hth⟩ := thI_some h e
    refine C_isSrc hq hth ?_
    unfold inpV at p
    cases hs : srcB kd lv li tw la (nI t)
    · rw [hs] at p
      exact c2t rfl (C_takes hq hth ht rfl (C_kind hq hth p))
    · rw [hs] at p
      exact c2f nz1 (C_weight hq hth hs p)
theorem C_notes_l {P : Int32 → (Nat → Nat → Int32) → Prop} {X : (Nat → Nat → Int32) → Int32 → Prop} {inp : Nat → Int32} (hn : I 4 = nI n) (n12 : n ≤ 12) (hi : ∀ (i : Nat) (Q : Int32 → Prop), i < n → Q (inp i) → g_Ne_inputOf T L K F (nI i) (nI t) Q) : ∀ (d j : Nat) (A : Nat → Nat → Int32) (ch : Bool), j + d = n → (∀ c, c ≠ 13 → A c = A0 c) → (∀ i, i < j → A 13 i = inp i) → (∀ i, j ≤ i → A 13 i = A0 13 i) → (ch = false → ∀ i, i < j → A0 13 i = inp i) →
    (∀ A2 ch', (∀ c, c ≠ 13 → A2 c = A0 c) → (∀ i, i < n → A2 13 i = inp i) → (∀ i, n ≤ i → A2 13 i = A0 13 i) → (ch' = false → ch = false ∧ ∀ i, i < n → A0 13 i = inp i) → X A2 (bI ch')) → g_Ne_noteInputs_43 I T L K F (nI t) P X (d + 1) A (bI ch) (nI j)
  | 0, j, A, ch, hj, hf, h1, h2, h3, hX => by
    have e : j = n := by omega
    subst e
    exact c2t (lit_le hn (Nat.le_refl _) (by omega)) (hX A ch hf h1 h2 (fun z => ⟨z, h3 z⟩))
  | d + 1, j, A, ch, hj, hf, h1, h2, h3, hX => by
    have hcl : (nI j).toNatClampNeg = j := nI_clamp (by omega)
    refine c2f (lit_lt hn (by omega) (by omega)) (hi j _ (by omega) (C_note (by omega) (y1 ?_)))
    rw [bI_or, nI_1]
    refine C_notes_l hn n12 hi d (j + 1) _ _ (by omega) (fun c c13 => ?_) (fun i hlt => ?_) (fun i hle => ?_) (fun z i hlt => ?_) (fun A2 ch' q1 q2 q3 q4 => hX A2 ch' q1 q2 q3 (fun z => ?_))
    · rw [sA_ne c13]; exact hf c c13
    · rw [sA_at, hcl]
      by_cases e : i = j
      · subst e; rw [up_at]
      · rw [up_ne e]; exact h1 i (by omega)
    · rw [sA_at, hcl, up_ne (by omega)]; exact h2 i (by omega)
    · have z1 : ch = false ∧ decide (¬ A 13 j = inp j) = false := by
        cases ch
        · exact ⟨rfl, by simpa using z⟩
        · simp at z
      by_cases e : i = j
      · subst e
        have := of_decide_eq_false z1.2
        rw [← h2 i (Nat.le_refl _)]
        exact Classical.not_not.mp this
      · exact h3 z1.1 i (by omega)
    · obtain ⟨z1, z2⟩ := q4 z
      refine ⟨?_, z2⟩
      cases ch
      · rfl
      · simp at z1
theorem C_notes {P : Int32 → (Nat → Nat → Int32) → Prop} {inp : Nat → Int32} {sh nr : Nat} (hn : I 4 = nI n) (n12 : n ≤ 12) (hm : I 9 = nI m) (m18 : m ≤ 18) (hv : I 10 = nI v) (v12 : v ≤ 12) (hsh : I 11 = nI sh) (ho : ∀ i, i < v → inN (A 20 i) m) (hnr : I 5 = nI nr) (hi : ∀ (i : Nat) (Q : Int32 → Prop), i < n → Q (inp i) → g_Ne_inputOf T L K F (nI i) (nI t) Q)
    (hP : ∀ A2 ch, (∀ c, c ≠ 13 → A2 c = A c) → A2 13 12 = nI n → A2 13 13 = nI (omB (A 20) sh v m) → A2 13 14 = nI nr → (∀ i, i < n → A2 13 i = inp i) → (ch = false → A 13 12 = nI n ∧ A 13 13 = nI (omB (A 20) sh v m) ∧ A 13 14 = nI nr ∧ ∀ i, i < n → A 13 i = inp i) → P (bI ch) A2) : g_Ne_noteInputs I A T L K F (nI t) P := by
  refine C_note (i := 12) (by omega) ?_
  refine C_open (bs := 0) hm hv v12 hsh (fun i hi => by rw [sA_ne (by decide)]; exact ho i hi) m18 ?_
  rw [Nat.or_zero, sA_ne (show (20 : Nat) ≠ 13 by decide)]
  refine C_note (i := 13) (by omega) (y1 ?_)
  rw [bI_or]
  refine C_note (i := 14) (by omega) (y1 ⟨n + 1, ?_⟩)
  rw [bI_or, hn, hnr]
  have e12 : (nI 12).toNatClampNeg = 12 := rfl
  have e13 : (nI 13).toNatClampNeg = 13 := rfl
  have e14 : (nI 14).toNatClampNeg = 14 := rfl
  have at13 : ∀ i, (sA (sA (sA A 13 (nI 12) (nI n)) 13 (nI 13) (nI (omB (A 20) sh v m))) 13 (nI 14) (nI nr)) 13 i = if i = 14 then nI nr else if i = 13 then nI (omB (A 20) sh v m) else if i = 12 then nI n else A 13 i := by
    intro i
    rw [sA_at, sA_at, sA_at, e12, e13, e14]
    rfl
  refine C_notes_l (A0 := sA (sA (sA A 13 (nI 12) (nI n)) 13 (nI 13) (nI (omB (A 20) sh v m))) 13 (nI 14) (nI nr)) hn n12 hi n 0 _ _ (by omega) (fun _ _ => rfl) (fun i hlt => absurd hlt (by omega)) (fun _ _ => rfl) (fun _ i hlt => absurd hlt (by omega)) (fun A2 ch q1 q2 q3 q4 => ⟨bI_B _, ?_⟩)
  refine hP A2 ch (fun c c13 => by rw [q1 c c13, sA_ne c13, sA_ne c13, sA_ne c13]) ?_ ?_ ?_ q2 (fun z => ?_)
  · rw [q3 12 n12, at13]; rfl
  · rw [q3 13 (by omega), at13]; rfl
  · rw [q3 14 (by omega), at13]; rfl
  · obtain ⟨z1, z2⟩ := q4 z
    have z3 : decide (¬ A 13 12 = nI n) = false ∧ decide (¬ (sA A 13 (nI 12) (nI n)) 13 13 = nI (omB (A 20) sh v m)) = false ∧ decide (¬ (sA (sA A 13 (nI 12) (nI n)) 13 (nI 13) (nI (omB (A 20) sh v m))) 13 14 = nI nr) = false := by
      rw [Bool.or_eq_false_iff, Bool.or_eq_false_iff] at z1
      exact ⟨z1.1.1, z1.1.2, z1.2⟩
    refine ⟨Classical.not_not.mp (of_decide_eq_false z3.1), ?_, ?_, fun i hlt => ?_⟩
    · have := Classical.not_not.mp (of_decide_eq_false z3.2.1)
      rw [sA_at, e12, up_ne (by decide)] at this
      exact this
    · have := Classical.not_not.mp (of_decide_eq_false z3.2.2)
      rw [sA_at, sA_at, e12, e13, up_ne (by decide), up_ne (by decide)] at this
      exact this
    · have := z2 i hlt
      rw [at13, if_neg (by omega), if_neg (by omega), if_neg (by omega)] at this
      exact this
/-- what stands for a thing tells all that the sweeps ask -/
theorem dec_src {on : Int32} {x : Nat} (e : on = nI x) (hx : x ≤ 5000) : decS (-1 - on) = some on := by
  have h1 : (-1 : Int32).toInt = -1 := by decide
  have hz : ((-1 : Int32) - on).toInt = -1 - (x : Int) := by
    rw [e, fb_subI, nI_toInt (by omega), h1]
    · rw [nI_toInt (by omega), h1]; omega
    · rw [nI_toInt (by omega), h1]; omega
  unfold decS
  rw [if_pos (by rw [fa_lt, hz, show (0 : Int32).toInt = 0 from by decide]; omega)]
  have hfin : (-1 : Int32) - (-1 - on) = on := by
    rw [fa_eq, fb_subI, hz, h1, e, nI_toInt (by omega)]
    · omega
    · rw [hz, h1]; omega
    · rw [hz, h1]; omega
  rw [hfin]
theorem dec_no {x : Nat} (hx : x < 2 ^ 31) : decS (nI x) = none := by
  unfold decS
  rw [if_neg (nI_pos hx)]
theorem decT_k {x k : Nat} {p : Int32} (hx : x ≤ 14000) (hk : k < 6) : decT (nI (8 * x + k)) p = nI x := by
  unfold decT
  rw [show (8 : Int32) = nI 8 from rfl, pk_rem (by omega) (by omega) (by omega), pk_div (by omega) (by omega) (by omega), show (8 * x + k) % 8 = k by omega, show (8 * x + k) / 8 = x by omega]
  rw [if_neg (by show ¬ nI k = nI 6; rw [nI_eq (by omega) (by omega)]; omega), if_neg (by show ¬ nI k = nI 7; rw [nI_eq (by omega) (by omega)]; omega)]
theorem decT_6 {c : Nat} {p : Int32} (hc : c ≤ 1000) : decT (nI (8 * c + 6)) p = nI c * max0 p / 1000 := by
  unfold decT
  rw [show (8 : Int32) = nI 8 from rfl, pk_rem (by omega) (by omega) (by omega), pk_div (by omega) (by omega) (by omega), show (8 * c + 6) % 8 = 6 by omega, show (8 * c + 6) / 8 = c by omega]
  rw [if_pos (show nI 6 = 6 from rfl)]
theorem decT_7 {c : Nat} {p : Int32} (hc : c ≤ 1000) : decT (nI (8 * (2 * c) + 7)) p = 2 * (nI c * max0 p / 1000) := by
  unfold decT
  rw [show (8 : Int32) = nI 8 from rfl, show (16 : Int32) = nI 16 from rfl, pk_rem (by omega) (by omega) (by omega), pk_div (by omega) (by omega) (by omega), pk_div (by omega) (by omega) (by omega), show (8 * (2 * c) + 7) % 8 = 7 by omega, show (8 * (2 * c) + 7) / 16 = c by omega]
  rw [if_neg (by decide), if_pos (show nI 7 = 7 from rfl)]
theorem inp_k {tv kd : Int32} {x k : Nat} (e1 : tv = nI x) (e2 : kd = nI k) : tv * 8 + kd = nI (8 * x + k) := by
  rw [e1, e2, show (8 : Int32) = nI 8 from rfl, pk_mul, nI_add, Nat.mul_comm]
theorem mx1000 : max0 1000 = nI 1000 := rfl
theorem dec_in {o : Option Nat} {kd on tw th fo lv li la : Int32} (ht : t < 2 ^ 31) (h : thI o L K F kd on tw th fo lv li la) :
    decS (inpV kd on tw th fo lv li la (nI t)) = (if srcB kd lv li tw la (nI t) then some on else none) ∧ (srcB kd lv li tw la (nI t) = false → ∀ p, decT (inpV kd on tw th fo lv li la (nI t)) p = tkv kd on tw th fo lv (nI t) p) := by
  cases hs : srcB kd lv li tw la (nI t)
  · have hi : inpV kd on tw th fo lv li la (nI t) = tkv kd on tw th fo lv (nI t) 1000 * 8 + kd := by unfold inpV; rw [hs]; rfl
    rw [hi]
    obtain ⟨x, hx, ex⟩ := tk_bd (p := 1000) ht rfl h (by decide)
    have hgen : ∀ k, k < 6 → kd = nI k → (∀ p, tkv kd on tw th fo lv (nI t) p = tkv kd on tw th fo lv (nI t) 1000) → decS (tkv kd on tw th fo lv (nI t) 1000 * 8 + kd) = (if false then some on else none) ∧ (false = false → ∀ p, decT (tkv kd on tw th fo lv (nI t) 1000 * 8 + kd) p = tkv kd on tw th fo lv (nI t) p) := by
      intro k hk ek hp
      rw [inp_k ex ek]
      refine ⟨dec_no (by omega), fun _ p => ?_⟩
      rw [decT_k hx hk, hp p, ex]
    rcases h with ⟨-, h0, -⟩ | ⟨q, -, -, h⟩
    · exact hgen 0 (by omega) h0 (fun p => by rw [h0, tkv_0, tkv_0])
    · rcases h with h | h | h | h | h | h
      · exact hgen 1 (by omega) h.2.1 (fun p => by rw [h.2.1, tkv_1, tkv_1])
      · exact hgen 2 (by omega) h.2.1 (fun p => by rw [h.2.1, tkv_2, tkv_2])
      · exact hgen 3 (by omega) h.2.1 (fun p => by rw [h.2.1, tkv_3, tkv_3])
      · exact hgen 4 (by omega) h.2.1 (fun p => by rw [h.2.1, tkv_4, tkv_4])
      · exact hgen 5 (by omega) h.2.1 (fun p => by rw [h.2.1, tkv_5, tkv_5])
      · obtain ⟨c, -, hc, ec⟩ := rg_ex1 (hi := 1000) h.2.2.2.2.2.2
        have h1000 : on * max0 1000 / 1000 = nI c := by
          obtain ⟨e3, -⟩ := leak_ex ec hc mx1000 (by omega)
          rw [e3]
          congr 1
          omega
        rcases h.2.2.2.2.2.1 with ⟨-, z⟩ | ⟨-, z⟩
        · rw [z, tkv_6, h1000, inp_k (kd := 6) (k := 6) rfl rfl]
          exact ⟨dec_no (by omega), fun _ p => by rw [decT_6 hc, tkv_6, ec]⟩
        · rw [z, tkv_7, h1000, show (2 : Int32) * nI c = nI (2 * c) from pk_mul 2 c, inp_k (kd := 7) (k := 7) rfl rfl]
          exact ⟨dec_no (by omega), fun _ p => by rw [decT_7 hc, tkv_7, ec]⟩
  · obtain ⟨x, hx, ex⟩ := wt_bd h hs
    have hi : inpV kd on tw th fo lv li la (nI t) = -1 - on := by unfold inpV; rw [hs]; rfl
    rw [hi]
    exact ⟨dec_src ex hx, fun z => by cases z⟩
def inpN (B : Nat → Nat → Int32) (tick : Int32) (i : Nat) : Int32 := inpV (B 2 i) (B 3 i) (B 4 i) (B 5 i) (B 6 i) (B 7 i) (B 8 i) (B 9 i) tick
theorem thN.dec (ht : t < 2 ^ 31) (h : thN n T L K F B) : (∀ i, i < n → decS (inpN B (nI t) i) = mS B (nI t) i) ∧ (∀ i, i < n → mS B (nI t) i = none → ∀ p, decT (inpN B (nI t) i) p = mT B (nI t) i p) :=
  ⟨fun i hi => (dec_in ht (h i hi)).1, fun i hi hs => (dec_in ht (h i hi)).2 (mS_no.mp hs)⟩
/-- what the memory says, out of the work -/
theorem mkMemo {i6 i7 i8 : Int32} {a7 a9 a13 a17 a18 a19 : Nat → Int32} {bits nr : Nat} (ht : t < 2 ^ 31) (hth : thN n T L K F B) (hc : cfgB n (B 0) (mS B (nI t)) (mT B (nI t)) (mlist m bits (B 14) (B 15) (B 16))) (m18 : m ≤ 18) (hb : bits < 2 ^ m) (hnr : nr ≤ 100) (h7 : EqN n a7 (B 0)) (hM : ∀ j, j < m → a17 j = B 14 j ∧ a18 j = B 15 j ∧ a19 j = B 16 j)
    (h12 : a13 12 = nI n) (h13 : a13 13 = nI bits) (h14 : a13 14 = nI nr) (hin : ∀ i, i < n → a13 i = inpN B (nI t) i)
    (h9 : EqN n a9 (workP n (B 0) (mS B (nI t)) (mT B (nI t)) (mlist m bits (B 14) (B 15) (B 16)) (nI nr)).1) (h6 : i6 = nI (workP n (B 0) (mS B (nI t)) (mT B (nI t)) (mlist m bits (B 14) (B 15) (B 16)) (nI nr)).2.1) (hs : i7 = bI (workP n (B 0) (mS B (nI t)) (mT B (nI t)) (mlist m bits (B 14) (B 15) (B 16)) (nI nr)).2.2) : Rmemo n m i6 i7 i8 a7 a9 a13 a17 a18 a19 := by
  intro _
  refine ⟨n, bits, nr, a7, a17, a18, a19, Nat.le_refl _, hb, h12, h13, h14, hnr, fun _ _ => rfl, fun _ _ _ => ⟨rfl, rfl, rfl⟩, ?_⟩
  have eM : mlist 18 bits a17 a18 a19 = mlist m bits (B 14) (B 15) (B 16) := by
    rw [mlist_18 m18 hb]
    exact mls_cong m 0 (fun i _ hi _ => hM i (by omega))
  rw [eM]
  obtain ⟨d1, d2⟩ := hth.dec ht
  obtain ⟨w1, w2⟩ := work_cong (nr := nI nr) hc.2.1 h7.sm (S := mS B (nI t)) (S' := fun i => decS (a13 i)) (tk := mT B (nI t)) (tk' := fun i => decT (a13 i)) (fun i hi => by rw [hin i hi, d1 i hi]) (fun i hi e p => by rw [hin i hi, d2 i hi e p])
  exact ⟨h9.tr w1, by rw [h6, w2], by rw [hs, w2]⟩
theorem wk_cnt {sw : (Nat → Int32) → (Nat → Int32) × Int32} {nr : Int32} : ∀ (d c : Nat) (h : Nat → Int32), (wk sw nr d c h).2.2 = false → (wk sw nr d c h).2.1 = c + d
  | 0, _, _, _ => rfl
  | d + 1, c, h, e => by
    unfold wk at e ⊢
    by_cases q : (sw h).2 ≤ nr
    · rw [if_pos q] at e; cases e
    · rw [if_neg q] at e ⊢
      rw [wk_cnt d (c + 1) _ e]
      omega
theorem wk_le {sw : (Nat → Int32) → (Nat → Int32) × Int32} {nr : Int32} : ∀ (d c : Nat) (h : Nat → Int32), (wk sw nr d c h).2.1 ≤ c + d
  | 0, _, _ => Nat.le_refl _
  | d + 1, c, h => by
    unfold wk
    by_cases q : (sw h).2 ≤ nr
    · rw [if_pos q]; show c + 1 ≤ c + (d + 1); omega
    · rw [if_neg q]
      have := wk_le (sw := sw) (nr := nr) d (c + 1) (sw h).1
      omega
/-- the net as both sides see it -/
def netR (n m v sh t nr : Nat) (I : Nat → Int32) (A : Nat → Nat → Int32) (T : Nat → Option Nat) (L : List Nat) (K : Nat → Nat) (F : Nat → Nat → Int32) (J : Nat → Int32) (B : Nat → Nat → Int32) : Prop :=
  t < 2 ^ 31 ∧ J 3 = nI t ∧ Rnode n (I 4) (J 0) (A 7) (A 8) (A 9) (B 0) (B 1) (B 13) ∧ Rmain n m (I 9) (J 1) (A 17) (A 18) (A 19) (B 14) (B 15) (B 16) ∧ Rvalve m v sh (I 10) (I 11) (J 2) (A 20) (A 21) (B 17) (B 18) (B 19) ∧ nr ≤ 100 ∧ I 5 = nI nr ∧ J 4 = nI nr ∧ thN n T L K F B
theorem om_eq {sh : Nat} (hv : Rvalve m v sh (I 10) (I 11) (J 2) (A 20) (A 21) (B 17) (B 18) (B 19)) (s : Nat) : omB (A 20) s v m = omB (B 17) s v m := by
  unfold omB
  refine lp_cong _ _ _ (fun i a _ hi => ?_)
  unfold omF
  rw [(hv.2.2.2.2.2.1 i (by omega)).1]
theorem om_opn {sh s j : Nat} (m18 : m ≤ 18) (hv : Rvalve m v sh (I 10) (I 11) (J 2) (A 20) (A 21) (B 17) (B 18) (B 19)) (hj : j < m) : (omB (B 17) s v m).testBit j = opn s (fd (fun i => B 17 i = nI j) v 0) := by
  obtain ⟨v12, -, -, -, -, hvs, hvi⟩ := hv
  have hon : ∀ i, i < v → ((B 17 i).toNatClampNeg = j ↔ B 17 i = nI j) := by
    intro i hi
    obtain ⟨x, hx, ex⟩ := (hvs i hi).2.2.2.1
    rw [ex, nI_clamp (by omega), nI_eq (by omega) (by omega)]
  rw [omB_bit]
  cases e : fd (fun i => decide (B 17 i = nI j)) v 0 with
  | none =>
    have hno := fd_none e
    apply decide_eq_true
    refine ⟨hj, fun i hi _ z => ?_⟩
    have := hno i (by omega) (by omega)
    rw [decide_eq_false_iff_not] at this
    exact this ((hon i hi).mp z)
  | some i =>
    obtain ⟨-, h2, h3, -⟩ := fd_some e
    have h3' := of_decide_eq_true h3
    show _ = !s.testBit i
    cases hs : s.testBit i
    · apply decide_eq_true
      refine ⟨hj, fun i' hi' hs' z => ?_⟩
      have := hvi i' i hi' (by omega) (((hon i' hi').mp z).trans h3'.symm)
      subst this
      rw [hs] at hs'
      cases hs'
    · apply decide_eq_false
      rintro ⟨-, z⟩
      exact z i (by omega) hs ((hon i (by omega)).mpr h3')
variable {sh nr : Nat}
theorem netR.mok (h : netR n m v sh t nr I A T L K F J B) : mOk n m v t (omB (B 17) sh v m) J B := by
  obtain ⟨ht, h3, hn, hm, hv, -, -, -, hth⟩ := h
  refine ⟨hn.2.2.1, hm.2.2.1, hv.2.2.1, h3, hn.1, hm.1, hv.1, fun i hi => thI_okd (hth i hi), fun j hj => ?_, fun j hj => ?_⟩
  · obtain ⟨-, -, -, x, y, w, hx, hy, -, -, -, ex, ey, -⟩ := hm.2.2.2 j hj
    exact ⟨x, y, hx, hy, ex, ey⟩
  · rw [opn_eq hv (fun i q => fd_lt q), ← om_opn hm.1 hv hj]
theorem netR.cfg (h : netR n m v sh t nr I A T L K F J B) : cfgB n (B 0) (mS B (nI t)) (mT B (nI t)) (mlist m (omB (B 17) sh v m) (B 14) (B 15) (B 16)) := by
  obtain ⟨ht, h3, hn, hm, hv, -, -, -, hth⟩ := h
  refine hth.cfg hn.1 hm.1 ht (fun i hi => (hn.2.2.2.1 i (by have := hn.1; omega)).2) (fun j hj => ?_)
  obtain ⟨-, -, -, x, y, w, hx, hy, -, hw1, hw2, ex, ey, ew⟩ := hm.2.2.2 j hj
  exact ⟨x, y, w, hx, hy, hw1, hw2, ex, ey, ew⟩
theorem netR.ml (h : netR n m v sh t nr I A T L K F J B) : mlist m (omB (A 20) sh v m) (A 17) (A 18) (A 19) = mlist m (omB (B 17) sh v m) (B 14) (B 15) (B 16) := by
  obtain ⟨ht, h3, hn, hm, hv, -, -, -, hth⟩ := h
  rw [om_eq hv]
  refine mls_cong m 0 (fun i _ hi _ => ?_)
  obtain ⟨q1, q2, q3, -⟩ := hm.2.2.2 i (by omega)
  exact ⟨q1, q2, q3⟩
/-- the class's own run of sweeps, in the model's terms -/
theorem netR.run {P : Int32 → (Nat → Nat → Int32) → Prop} (h : netR n m v sh t nr I A T L K F J B)
    (hP : ∀ A2, (∀ c, c ≠ 9 → c ≠ 10 → c ≠ 12 → c ≠ 14 → c ≠ 15 → c ≠ 16 → A2 c = A c) → EqN n (A2 9) (workP n (B 0) (mS B (nI t)) (mT B (nI t)) (mlist m (omB (B 17) sh v m) (B 14) (B 15) (B 16)) (nI nr)).1 → P (resW (workP n (B 0) (mS B (nI t)) (mT B (nI t)) (mlist m (omB (B 17) sh v m) (B 14) (B 15) (B 16)) (nI nr))) A2) : g_Ne_runSweeps I A T L K F (nI t) P := by
  have hc := h.cfg
  have hl := h.ml
  obtain ⟨ht, h3, hn, hm, hv, -, h5, -, hth⟩ := h
  rw [← hl] at hc hP
  refine C_run (sh := sh) (v := v) (hth.cls hn.1 ht) hc hn.2.1 h5 hm.2.1 hm.1 hv.2.1 hv.1 hv.2.2.2.1 (fun i hi => ?_) (fun j hj => ?_) (fun i hi => ?_) hP
  · obtain ⟨q1, -, -, q2, -⟩ := hv.2.2.2.2.2.1 i hi
    rw [q1]; exact q2
  · obtain ⟨q1, q2, -, x, y, w, hx, hy, -, -, -, ex, ey, -⟩ := hm.2.2.2 j hj
    exact ⟨x, y, hx, hy, q1.trans ex, q2.trans ey⟩
  · exact (hn.2.2.2.1 i (by have := hn.1; omega)).1
theorem netR.settle {P : ((Nat → Int32) × (Nat → Nat → Int32)) → Prop} (h : netR n m v sh t nr I A T L K F J B) (hmm : Rmemo n m (I 6) (I 7) (I 8) (A 7) (A 9) (A 13) (A 17) (A 18) (A 19))
    (hP : ∀ I2 A2, (∀ c, c ≠ 6 → c ≠ 7 → c ≠ 8 → I2 c = I c) → (∀ c, c ≠ 9 → c ≠ 10 → c ≠ 12 → c ≠ 13 → c ≠ 14 → c ≠ 15 → c ≠ 16 → A2 c = A c) → EqN n (A2 9) (workP n (B 0) (mS B (nI t)) (mT B (nI t)) (mlist m (omB (B 17) sh v m) (B 14) (B 15) (B 16)) (nI nr)).1 → I2 6 = nI (workP n (B 0) (mS B (nI t)) (mT B (nI t)) (mlist m (omB (B 17) sh v m) (B 14) (B 15) (B 16)) (nI nr)).2.1 → I2 7 = bI (workP n (B 0) (mS B (nI t)) (mT B (nI t)) (mlist m (omB (B 17) sh v m) (B 14) (B 15) (B 16)) (nI nr)).2.2 →
      Rmemo n m (I2 6) (I2 7) (I2 8) (A2 7) (A2 9) (A2 13) (A2 17) (A2 18) (A2 19) → P (I2, A2)) : g_Ne_settle I A T L K F (nI t) P := by
  have hc := h.cfg
  have hl := h.ml
  have hh := h
  obtain ⟨ht, h3, hn, hm, hv, hnr, h5, h4, hth⟩ := h
  obtain ⟨n12, hi4, hj0, hht, hd, hhd⟩ := id hn
  obtain ⟨m18, hi9, hj1, hms⟩ := id hm
  obtain ⟨v12, hi10, hj2, hi11, hsh, hvs, hvi⟩ := id hv
  have ho : ∀ i, i < v → inN (A 20 i) m := fun i hi => by
    obtain ⟨q1, -, -, q2, -⟩ := hvs i hi
    rw [q1]; exact q2
  have hbits : omB (B 17) sh v m < 2 ^ m := omB_lt
  have h7 : EqN n (A 7) (B 0) := fun i hi => (hht i (by omega)).1
  have hM : ∀ j, j < m → A 17 j = B 14 j ∧ A 18 j = B 15 j ∧ A 19 j = B 16 j := fun j hj => by
    obtain ⟨q1, q2, q3, -⟩ := hms j hj
    exact ⟨q1, q2, q3⟩
  refine C_notes (inp := inpN B (nI t)) (sh := sh) (nr := nr) hi4 n12 hi9 m18 hi10 v12 hi11 ho h5 (fun i Q hi q => C_input (by omega) ht (hth i hi) q) (fun A1 ch hf1 h12 h13 h14 hin hch => ?_)
  rw [om_eq hv] at h13 hch
  have fresh : g_Ne_settle_18 T L K F (nI t) P I A1 := by
    have hh1 : netR n m v sh t nr (va_up I 8 1) A1 T L K F J B := by
      unfold netR
      rw [hf1 7 (by decide), hf1 8 (by decide), hf1 9 (by decide), hf1 17 (by decide), hf1 18 (by decide), hf1 19 (by decide), hf1 20 (by decide), hf1 21 (by decide)]
      exact hh
    refine hh1.run (fun A2 hf2 h9 => ?_)
    have hfr : ∀ c, c ≠ 9 → c ≠ 10 → c ≠ 12 → c ≠ 13 → c ≠ 14 → c ≠ 15 → c ≠ 16 → A2 c = A c := fun c c9 c10 c12 c13 c14 c15 c16 => by rw [hf2 c c9 c10 c12 c14 c15 c16, hf1 c c13]
    have e13 : A2 13 = A1 13 := hf2 13 (by decide) (by decide) (by decide) (by decide) (by decide) (by decide)
    have e7 : A2 7 = A 7 := hfr 7 (by decide) (by decide) (by decide) (by decide) (by decide) (by decide) (by decide)
    have e17 : A2 17 = A 17 := hfr 17 (by decide) (by decide) (by decide) (by decide) (by decide) (by decide) (by decide)
    have e18 : A2 18 = A 18 := hfr 18 (by decide) (by decide) (by decide) (by decide) (by decide) (by decide) (by decide)
    have e19 : A2 19 = A 19 := hfr 19 (by decide) (by decide) (by decide) (by decide) (by decide) (by decide) (by decide)
    have fin : ∀ I2 : Nat → Int32, (∀ c, c ≠ 6 → c ≠ 7 → c ≠ 8 → I2 c = I c) → I2 6 = nI (workP n (B 0) (mS B (nI t)) (mT B (nI t)) (mlist m (omB (B 17) sh v m) (B 14) (B 15) (B 16)) (nI nr)).2.1 → I2 7 = bI (workP n (B 0) (mS B (nI t)) (mT B (nI t)) (mlist m (omB (B 17) sh v m) (B 14) (B 15) (B 16)) (nI nr)).2.2 → P (I2, A2) := by
      intro I2 hI2 h6 hs7
      refine hP I2 A2 hI2 hfr h9 h6 hs7 ?_
      rw [e13, e7, e17, e18, e19]
      exact mkMemo ht hth hc m18 hbits hnr h7 hM h12 h13 h14 hin h9 h6 hs7
    have hle := wk_le (sw := sweepP n (B 0) (mS B (nI t)) (mT B (nI t)) (mlist m (omB (B 17) sh v m) (B 14) (B 15) (B 16))) (nr := nI nr) 500 0 (beginP (B 0) (mS B (nI t)))
    have hcnt := wk_cnt (sw := sweepP n (B 0) (mS B (nI t)) (mT B (nI t)) (mlist m (omB (B 17) sh v m) (B 14) (B 15) (B 16))) (nr := nI nr) 500 0 (beginP (B 0) (mS B (nI t)))
    unfold workP at fin ⊢
    generalize wk (sweepP n (B 0) (mS B (nI t)) (mT B (nI t)) (mlist m (omB (B 17) sh v m) (B 14) (B 15) (B 16))) (nI nr) 500 0 (beginP (B 0) (mS B (nI t))) = w at *
    unfold resW
    cases e : w.2.2
    · refine c2t rfl ⟨Or.inl rfl, c2t rfl (fin _ (fun c c6 c7 c8 => by rw [va_un c6, va_un c7, va_un c8]) ?_ (by rw [e]; rfl))⟩
      rw [hcnt e]; rfl
    · refine c2f (by
        simp only [if_true]
        intro z
        rw [fa_eq, nI_toInt (by omega), show (-5 : Int32).toInt = -5 from by decide] at z
        omega) ⟨Or.inr rfl, c2f nz1 (fin _ (fun c c6 c7 c8 => by rw [va_un c6, va_un c7, va_un c8]) rfl (by rw [e]; rfl))⟩
  refine ⟨fun _ => fresh, fun h8 => ⟨fun _ => fresh, fun hz => ?_⟩⟩
  have hcf := bI_0.mp hz
  obtain ⟨z12, z13, z14, zin⟩ := hch hcf
  obtain ⟨n0, bits, nr0, h0, e1, e2, w0, q1, q2, q3, q4, q5, q6, q7, q8, q9, q10, q11⟩ := hmm h8
  rw [z12, nI_eq (by omega) (by omega)] at q3
  subst q3
  have hb31 : (2 : Nat) ^ m ≤ 2 ^ 18 := Nat.pow_le_pow_right (by omega) m18
  rw [z13, nI_eq (by omega) (by omega)] at q4
  subst q4
  rw [z14, nI_eq (by omega) (by omega)] at q5
  subst q5
  have eM : mlist 18 (omB (B 17) sh v m) e1 e2 w0 = mlist m (omB (B 17) sh v m) (B 14) (B 15) (B 16) := by
    rw [mlist_18 m18 hbits]
    refine mls_cong m 0 (fun i _ hi hb => ?_)
    obtain ⟨r1, r2, r3⟩ := q8 i (by omega) hb
    obtain ⟨s1, s2, s3⟩ := hM i (by omega)
    exact ⟨r1.symm.trans s1, r2.symm.trans s2, r3.symm.trans s3⟩
  rw [eM] at q9 q10 q11
  obtain ⟨d1, d2⟩ := hth.dec ht
  obtain ⟨w1, w2⟩ := work_cong (nr := nI nr) hc.2.1 (H := B 0) (H' := h0) (fun i hi => (h7 i hi).symm.trans (q7 i hi)) (S := mS B (nI t)) (S' := fun i => decS (A 13 i)) (tk := mT B (nI t)) (tk' := fun i => decT (A 13 i)) (fun i hi => by rw [zin i hi, d1 i hi]) (fun i hi e p => by rw [zin i hi, d2 i hi e p])
  rw [← w2] at q10 q11
  have q9' : EqN n (A 9) (workP n (B 0) (mS B (nI t)) (mT B (nI t)) (mlist m (omB (B 17) sh v m) (B 14) (B 15) (B 16)) (nI nr)).1 := fun i hi => (q9 i hi).trans (w1 i hi).symm
  have e9 : A1 9 = A 9 := hf1 9 (by decide)
  refine hP I A1 (fun _ _ _ _ => rfl) (fun c _ _ _ c13 _ _ _ => hf1 c c13) (by rw [e9]; exact q9') q10 q11 ?_
  rw [hf1 7 (by decide), e9, hf1 17 (by decide), hf1 18 (by decide), hf1 19 (by decide)]
  exact mkMemo ht hth hc m18 hbits hnr h7 hM h12 h13 h14 hin q9' q10 q11
end ST
