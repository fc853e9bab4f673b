/-! ===== layer 2: seek ===== -/
section SEEK
variable {k tk n m v sh nr sg od bk : Nat} {I J : Nat → Int32} {A B : Nat → Nat → Int32} {T : Nat → Option Nat} {L : List Nat} {K : Nat → Nat} {F : Nat → Nat → Int32} {c : Int32} {q : Nat}
/-- a suspect at node i -/
def Bs (B : Nat → Nat → Int32) (i : Nat) (c : Int32) : Nat → Nat → Int32 := sA (sA B 2 (nI i) 7) 3 (nI i) c
def Fq (F : Nat → Nat → Int32) (q : Nat) (c : Int32) : Nat → Nat → Int32 := sF (sF (va_up F q (fun _ => 0)) q 0 c) q 1 1
def Like (B B' : Nat → Nat → Int32) : Prop := (∀ x, x ≠ 3 → x ≠ 13 → x ≠ 33 → x ≠ 34 → x ≠ 35 → B' x = B x) ∧ ∀ j, ¬ B 2 j = 0 → B' 3 j = B 3 j
theorem Like.e {B' : Nat → Nat → Int32} (h : Like B B') {x : Nat} (h1 : x ≠ 3 ∧ x ≠ 13 ∧ x ≠ 33 ∧ x ≠ 34 ∧ x ≠ 35) : B' x = B x := h.1 x h1.1 h1.2.1 h1.2.2.1 h1.2.2.2.1 h1.2.2.2.2
theorem Like.rf : Like B B := ⟨fun _ _ _ _ _ _ => rfl, fun _ _ => rfl⟩
theorem Like.th {B' : Nat → Nat → Int32} (hl : Like B B') (h : Rth n T L K F (B 2) (B 3) (B 4) (B 5) (B 6) (B 7) (B 8) (B 9)) : Rth n T L K F (B' 2) (B' 3) (B' 4) (B' 5) (B' 6) (B' 7) (B' 8) (B' 9) := by
  rw [hl.e (x := 2) (by decide), hl.e (x := 4) (by decide), hl.e (x := 5) (by decide), hl.e (x := 6) (by decide), hl.e (x := 7) (by decide), hl.e (x := 8) (by decide), hl.e (x := 9) (by decide)]
  refine ⟨fun i hi => ?_, h.2⟩
  have hti := h.1 i hi
  cases hT : T i with
  | none => exact Or.inl ⟨rfl, thI_none hti hT⟩
  | some x =>
    obtain ⟨q1, q2⟩ := thI_some hti hT
    rw [hl.2 i (thq_kd q2)]
    exact Or.inr ⟨x, rfl, q1, q2⟩
theorem Bs2 {i : Nat} (hi : i < 12) : Bs B i c 2 = upd (B 2) i 7 := by
  unfold Bs; rw [sA_ne (by omega), sA_at, nI_clamp (by omega)]
theorem Bs3 {i : Nat} (hi : i < 12) : Bs B i c 3 = upd (B 3) i c := by
  unfold Bs; rw [sA_at, sA_ne (by omega), nI_clamp (by omega)]
theorem BsN {i x : Nat} (h2 : x ≠ 2) (h3 : x ≠ 3) : Bs B i c x = B x := by
  unfold Bs; rw [sA_ne h3, sA_ne h2]
theorem Like.mS {B' : Nat → Nat → Int32} {tick : Int32} {i : Nat} (hi : i < 12) (hl : Like B B') : mS (Bs B' i c) tick = mS (Bs B i c) tick := by
  funext j
  show (if srcB (Bs B' i c 2 j) (Bs B' i c 7 j) (Bs B' i c 8 j) (Bs B' i c 4 j) (Bs B' i c 9 j) tick then some (Bs B' i c 3 j) else none) = (if srcB (Bs B i c 2 j) (Bs B i c 7 j) (Bs B i c 8 j) (Bs B i c 4 j) (Bs B i c 9 j) tick then some (Bs B i c 3 j) else none)
  rw [Bs2 hi, Bs2 hi, Bs3 hi, Bs3 hi, BsN (by omega) (by omega), BsN (by omega) (by omega), BsN (by omega) (by omega), BsN (by omega) (by omega), BsN (by omega) (by omega), BsN (by omega) (by omega), BsN (by omega) (by omega), BsN (by omega) (by omega),
    hl.e (x := 2) (by decide), hl.e (x := 4) (by decide), hl.e (x := 7) (by decide), hl.e (x := 8) (by decide), hl.e (x := 9) (by decide)]
  by_cases e : j = i
  · subst e; simp only [up_at]
  · rw [up_ne e, up_ne e, up_ne e]
    by_cases h0 : B 2 j = 0
    · rw [h0, show srcB 0 (B 7 j) (B 8 j) (B 4 j) (B 9 j) tick = false from decide_eq_false (by
        intro z
        rcases z with z | z
        · exact absurd z.1 (by decide)
        · exact absurd z.1 (by decide))]
      rfl
    · rw [hl.2 j h0]
theorem Like.mT {B' : Nat → Nat → Int32} {tick : Int32} {i : Nat} (hi : i < 12) (hl : Like B B') : mT (Bs B' i c) tick = mT (Bs B i c) tick := by
  funext j p
  show tkv (Bs B' i c 2 j) (Bs B' i c 3 j) (Bs B' i c 4 j) (Bs B' i c 5 j) (Bs B' i c 6 j) (Bs B' i c 7 j) tick p = tkv (Bs B i c 2 j) (Bs B i c 3 j) (Bs B i c 4 j) (Bs B i c 5 j) (Bs B i c 6 j) (Bs B i c 7 j) tick p
  rw [Bs2 hi, Bs2 hi, Bs3 hi, Bs3 hi, BsN (by omega) (by omega), BsN (by omega) (by omega), BsN (by omega) (by omega), BsN (by omega) (by omega), BsN (by omega) (by omega), BsN (by omega) (by omega), BsN (by omega) (by omega), BsN (by omega) (by omega),
    hl.e (x := 2) (by decide), hl.e (x := 4) (by decide), hl.e (x := 5) (by decide), hl.e (x := 6) (by decide), hl.e (x := 7) (by decide)]
  by_cases e : j = i
  · subst e; simp only [up_at]
  · rw [up_ne e, up_ne e, up_ne e]
    by_cases h0 : B 2 j = 0
    · rw [h0]; rfl
    · rw [hl.2 j h0]
/-- the net with a suspect in it -/
theorem RelP.susp {A' B' : Nat → Nat → Int32} {J' : Nat → Int32} {i : Nat} (h : RelP k tk n m v sh nr sg od bk I A T L K F J B) (hk : k ≤ 512) (hl : Like B B') (hi : i < n) (hT : T i = none) (hq : q ∉ L) (hc : rg c 1 1000) (hJ : ∀ x, x ≠ 5 → J' x = J x) (hA : ∀ x, x = 7 ∨ x = 8 ∨ x = 17 ∨ x = 18 ∨ x = 19 ∨ x = 20 ∨ x = 21 → A' x = A x) (h9 : EqN n (A' 9) (B' 13)) (hb : hdB n (B' 13)) :
    netR n m v sh tk nr I A' (va_up T i (some q)) (L ++ [q]) (va_up K q 3) (Fq F q c) J' (Bs B' i c) := by
  have hN := h.net hk
  obtain ⟨ht, h3, hn, hm, hv, hn1, h5, h4, -⟩ := hN
  have hth := h.2.2.2.2.2.2.2.2.2.2.2.2.2.2
  have n12 := hn.1
  have hi12 : i < 12 := by omega
  refine ⟨ht, by rw [hJ 3 (by decide)]; exact h3, ?_, ?_, ?_, hn1, h5, by rw [hJ 4 (by decide)]; exact h4, ?_⟩
  · rw [hJ 0 (by decide), hA 7 (by simp), hA 8 (by simp), BsN (by omega) (by omega), BsN (by omega) (by omega), BsN (by omega) (by omega), hl.e (x := 0) (by decide), hl.e (x := 1) (by decide)]
    exact ⟨hn.1, hn.2.1, hn.2.2.1, hn.2.2.2.1, hn.2.2.2.2.1, fun i hi => ⟨h9 i hi, hb i hi⟩⟩
  · rw [hJ 1 (by decide), hA 17 (by simp), hA 18 (by simp), hA 19 (by simp), BsN (by omega) (by omega), BsN (by omega) (by omega), BsN (by omega) (by omega), hl.e (x := 14) (by decide), hl.e (x := 15) (by decide), hl.e (x := 16) (by decide)]
    exact hm
  · rw [hJ 2 (by decide), hA 20 (by simp), hA 21 (by simp), BsN (by omega) (by omega), BsN (by omega) (by omega), BsN (by omega) (by omega), hl.e (x := 17) (by decide), hl.e (x := 18) (by decide), hl.e (x := 19) (by decide)]
    exact hv
  · have hth' := hl.th hth
    have h0 := thI_none (hth'.1 i hi12) hT
    have := hth'.hang (i := i) (q := q) (c := 3) (T' := va_up T i (some q)) (K' := va_up K q 3) (F' := Fq F q c) (c2 := Bs B' i c 2) (c3 := Bs B' i c 3) (c4 := B' 4) (c5 := B' 5) (c6 := B' 6) (c7 := B' 7) (c8 := B' 8) n12 hi hq rfl rfl (fun x hx => ?_) (fun j hj => ?_) ?_
    · intro j hj
      have := this.1 j (by omega)
      exact this
    · exact (sF_ne hx).trans ((sF_ne hx).trans (va_un hx))
    · rw [Bs2 hi12, Bs3 hi12]
      exact ⟨up_ne hj, up_ne hj, rfl, rfl, rfl, rfl, rfl⟩
    · have hF : Fq F q c q = (va_up (va_up (fun _ => 0) 0 c) 1 1) := by unfold Fq; rw [sF_at, sF_at, vu_at]
      rw [Bs2 hi12, Bs3 hi12, up_at, up_at, hF]
      refine Or.inr (Or.inr (Or.inr (Or.inr (Or.inr ⟨rfl, rfl, ?_, ?_, h0.2.1, Or.inr ⟨rfl, rfl⟩, hc⟩))))
      · exact h0.2.2.symm
      · exact Or.inl h0.2.2
def hdv (n m v sh t nr : Nat) (B : Nat → Nat → Int32) (c : Int32) (i : Nat) : Nat → Int32 := (workP n (B 0) (mS (Bs B i c) (nI t)) (mT (Bs B i c) (nI t)) (mlist m (omB (B 17) sh v m) (B 14) (B 15) (B 16)) (nI nr)).1
def frB (B : Nat → Nat → Int32) (i : Nat) : Bool := decide (B 2 i = 0)
def muV (n m v sh t nr : Nat) (B : Nat → Nat → Int32) (c : Int32) (i : Nat) : Nat := (mfs (hdv n m v sh t nr B c i) (B 0) (B 12) n).toNatClampNeg
theorem RelP.hdv_bd (h : RelP k tk n m v sh nr sg od bk I A T L K F J B) (hk : k ≤ 512) {i : Nat} (hi : i < n) (hT : T i = none) (hc : rg c 1 1000) : hdB n (hdv n m v sh tk nr B c i) := by
  have hn := h.2.2.1
  obtain ⟨q, hq⟩ : ∃ q, q ∉ L := ⟨L.foldr (fun a b => max a b) 0 + 1, fun hm => by
    have : ∀ (l : List Nat) x, x ∈ l → x ≤ l.foldr (fun a b => max a b) 0 := by
      intro l
      induction l with
      | nil => intro x hx; cases hx
      | cons a l ih =>
        intro x hx
        show x ≤ max a _
        rcases List.mem_cons.mp hx with e | e
        · omega
        · have := ih x e; omega
    have := this L _ hm
    omega⟩
  have hN := h.susp (q := q) (A' := A) (B' := B) (J' := J) hk Like.rf hi hT hq hc (fun _ _ => rfl) (fun _ _ => rfl) (fun j hj => (hn.2.2.2.2.2 j hj).1) (fun j hj => (hn.2.2.2.2.2 j hj).2)
  exact (wk_bd (nr := nI nr) hN.cfg.sw 500 0 _ hN.cfg.b0).1
theorem RelP.muV_eq (h : RelP k tk n m v sh nr sg od bk I A T L K F J B) (hk : k ≤ 512) {i : Nat} (hi : i < n) (hT : T i = none) (hc : rg c 1 1000) : mfs (hdv n m v sh tk nr B c i) (B 0) (B 12) n = nI (muV n m v sh tk nr B c i) ∧ muV n m v sh tk nr B c i ≤ 240000 := by
  have hn := h.2.2.1
  have hkn := h.2.2.2.2.2.2.2.2.2.2.2.2.2.1
  obtain ⟨x, hx, e⟩ := mfs_bd hn.1 (h.hdv_bd hk hi hT hc) (fun j hj => (hn.2.2.2.1 j (by have := hn.1; omega)).2) (fun j hj => (hkn j (by have := hn.1; omega)).2)
  unfold muV
  rw [e, nI_clamp (by omega)]
  exact ⟨rfl, hx⟩
theorem RelP.fr_iff (h : RelP k tk n m v sh nr sg od bk I A T L K F J B) {i : Nat} (hi : i < n) : frB B i = true ↔ T i = none := by
  have hth := h.2.2.2.2.2.2.2.2.2.2.2.2.2.2
  have n12 := h.2.2.1.1
  have hti := hth.1 i (by omega)
  unfold frB
  rw [decide_eq_true_iff]
  cases hT : T i with
  | none => exact ⟨fun _ => rfl, fun _ => (thI_none hti hT).1⟩
  | some x => exact ⟨fun e => absurd e (thq_kd (thI_some hti hT).2), fun e => (by cases e)⟩
theorem C_bursts {A0 : Nat → Nat → Int32} {P : ((Nat → Nat → Int32) × (Nat → Option Nat)) → Prop} {X : (Nat → Nat → Int32) → (Nat → Option Nat) → Prop} (h : RelP k tk n m v sh nr sg od bk I A T L K F J B) (hk : k ≤ 512) (hq : q ∉ L) (hc : rg c 1 1000) (hA0 : ∀ x, x ≠ 11 → A0 x = A x) (mu : Nat → Nat) (hmu : ∀ i, i < n → T i = none → mu i = muV n m v sh tk nr B c i)
    (hX : ∀ A', (∀ x, x ≠ 6 → x ≠ 9 → x ≠ 10 → x ≠ 12 → x ≠ 14 → x ≠ 15 → x ≠ 16 → A' x = A0 x) → (∀ i, i < n → A' 6 i = r6 (frB B) mu i) → X A' T) : ∀ (d i : Nat) (A' : Nat → Nat → Int32), i + d = n → (∀ x, x ≠ 6 → x ≠ 9 → x ≠ 10 → x ≠ 12 → x ≠ 14 → x ≠ 15 → x ≠ 16 → A' x = A0 x) → (∀ j, j < i → A' 6 j = r6 (frB B) mu j) → hdB n (A' 9) →
    g_Pw_tryBursts_2 I (L ++ [q]) (va_up K q 3) (Fq F q c) q P X (d + 1) A' T (nI i)
  | 0, i, A', hi, hA, h6, hb => by
    have n12 := h.2.2.1.1
    have e : i = n := by omega
    subst e
    exact c2t (by rw [h.2.2.1.2.1]; exact nI_le (Nat.le_refl _) (by omega)) (hX A' hA h6)
  | d + 1, i, A', hi, hA, h6, hb => by
    have hn := h.2.2.1
    have n12 := hn.1
    have hkn := h.2.2.2.2.2.2.2.2.2.2.2.2.2.1
    have hin : vp_in (nI i) 12 := vin (by omega) (by omega)
    have hcl : (nI i).toNatClampNeg = i := nI_clamp (by omega)
    have hfr := h.fr_iff (i := i) (by omega)
    refine c2f (by rw [hn.2.1]; exact nI_ge (by omega) (by omega)) ⟨hin, hin, ?_⟩
    rw [hcl]
    refine ⟨fun hT => ⟨hin, List.mem_append_right _ List.mem_cons_self, by rw [vu_at]; simp [isTh], ?_⟩, fun q2 hT => ?_⟩
    · have hl : Like B (va_up B 13 (A' 9)) := ⟨fun x _ h13 _ _ _ => va_un h13, fun _ _ => rfl⟩
      have hN := h.susp (q := q) (A' := sA A' 6 (nI i) (-6)) (B' := va_up B 13 (A' 9)) (J' := J) hk hl (by omega) hT hq hc (fun _ _ => rfl) (fun x hx => ?_) (fun j hj => ?_) ?_
      · rw [h.1.2.1]
        refine hN.run fun A2 hA2 h9 => ⟨hin, ?_⟩
        rw [hl.mS (by omega), hl.mT (by omega)] at h9
        have h9' : EqN n (A2 9) (hdv n m v sh tk nr B c i) := h9
        have hA2' : ∀ x, x ≠ 6 → x ≠ 9 → x ≠ 10 → x ≠ 12 → x ≠ 14 → x ≠ 15 → x ≠ 16 → A2 x = A0 x := fun x x6 x9 x10 x12 x14 x15 x16 => by
          rw [hA2 x x9 x10 x12 x14 x15 x16, sA_ne x6]; exact hA x x6 x9 x10 x12 x14 x15 x16
        refine C_misfit hn.2.1 n12 h9' (H := B 0) (Kn := B 12) (fun j hj => ?_) (fun j hj => ?_) ⟨hin, ?_⟩
        · rw [hA2' 7 (by decide) (by decide) (by decide) (by decide) (by decide) (by decide) (by decide), hA0 7 (by decide)]; exact (hn.2.2.2.1 j (by omega)).1
        · rw [hA2' 4 (by decide) (by decide) (by decide) (by decide) (by decide) (by decide) (by decide), hA0 4 (by decide)]; exact (hkn j (by omega)).1
        obtain ⟨em, hm⟩ := h.muV_eq hk (i := i) (by omega) hT hc
        rw [em]
        have eT : va_up (va_up T i (some q)) i none = T := by
          funext x
          by_cases e : x = i
          · subst e; rw [vu_at, hT]
          · rw [va_un e, va_un e]
        rw [eT]
        show g_Pw_tryBursts_2 I (L ++ [q]) (va_up K q 3) (Fq F q c) q P X (d + 1) (sA A2 6 (nI i) _) T (nI i + 1)
        rw [nI_1]
        refine C_bursts h hk hq hc hA0 mu hmu hX d (i + 1) _ (by omega) (fun x x6 x9 x10 x12 x14 x15 x16 => ?_) (fun j hj => ?_) ?_
        · rw [sA_ne x6]; exact hA2' x x6 x9 x10 x12 x14 x15 x16
        · rw [sA_at, hcl]
          by_cases e : j = i
          · subst e; rw [up_at]; unfold r6; rw [hfr.mpr hT, hmu j (by omega) hT]; rfl
          · rw [up_ne e, hA2 6 (by decide) (by decide) (by decide) (by decide) (by decide) (by decide), sA_at, hcl, up_ne e]; exact h6 j (by omega)
        · rw [sA_ne (by omega)]; exact (h.hdv_bd hk (by omega) hT hc).cg h9'.sm
      · have hx6 : x ≠ 6 := by omega
        rw [sA_ne hx6, hA x (by omega) (by omega) (by omega) (by omega) (by omega) (by omega) (by omega), hA0 x (by omega)]
      · rw [sA_ne (by omega), vu_at]
      · rw [vu_at]; exact hb
    · show g_Pw_tryBursts_2 I (L ++ [q]) (va_up K q 3) (Fq F q c) q P X (d + 1) (sA A' 6 (nI i) (-6)) T (nI i + 1)
      rw [nI_1]
      refine C_bursts h hk hq hc hA0 mu hmu hX d (i + 1) _ (by omega) (fun x x6 x9 x10 x12 x14 x15 x16 => ?_) (fun j hj => ?_) ?_
      · rw [sA_ne x6]; exact hA x x6 x9 x10 x12 x14 x15 x16
      · rw [sA_at, hcl]
        by_cases e : j = i
        · subst e; rw [up_at]; unfold r6
          cases hf : frB B j with
          | false => rfl
          | true => rw [hfr.mp hf] at hT; cases hT
        · rw [up_ne e]; exact h6 j (by omega)
      · rw [sA_ne (by omega)]; exact hb
end SEEK
