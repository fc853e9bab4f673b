/-! ===== layer 2: what things take, whether they are sources, what they say of themselves ===== -/
def srcB (kd lv li tw la tick : Int32) : Bool := decide ((kd = 4 ∧ 0 < lv) ∨ (kd = 5 ∧ ¬ li = 0 ∧ ¬ tick - la < 4 * tw))
def mnt (tick : Int32) : Int32 := tick / 4
def ofD (tick : Int32) : Int32 := mnt tick - mnt tick / 1440 * 1440
def nowB (th fo tick : Int32) : Bool := decide (¬ ofD tick < th ∧ ¬ fo ≤ ofD tick)
def tkv (kd on tw th fo lv tick p : Int32) : Int32 :=
  if kd = 1 then (if nowB th fo tick then on else 0)
  else if kd = 2 then (if nowB th fo tick then on * ((tw + 3 * (ofD tick / 60)) - (tw + 3 * (ofD tick / 60)) / 7 * 7) else 0)
  else if kd = 3 then (if fo ≤ (mnt tick + th) - (mnt tick + th) / tw * tw then 0 else on)
  else if kd = 4 then (if lv = 0 then 10 else 0)
  else if kd = 6 then on * max0 p / 1000
  else if kd = 7 then 2 * (on * max0 p / 1000) else 0
theorem ofD_nI {t : Nat} (h : t < 2 ^ 31) : ofD (nI t) = nI (t / 4 % 1440) := by
  unfold ofD mnt
  rw [show (4 : Int32) = nI 4 from rfl, show (1440 : Int32) = nI 1440 from rfl, pk_div h (by omega) (by omega), pk_rem (by omega) (by omega) (by omega)]
def okd (kd : Int32) : Prop := kd = 0 ∨ kd = 1 ∨ kd = 2 ∨ kd = 3 ∨ kd = 4 ∨ kd = 5 ∨ kd = 6 ∨ kd = 7
theorem thI_okd {L : List Nat} {K : Nat → Nat} {F : Nat → Nat → Int32} {t : Option Nat} {kd on tw th fo lv li la : Int32} (h : thI t L K F kd on tw th fo lv li la) : okd kd ∧ (kd = 3 → ¬ tw = 0) := by
  rcases h with ⟨-, h, -⟩ | ⟨q, -, -, h⟩
  · exact ⟨Or.inl h, fun e => by rw [h] at e; exact absurd e (by decide)⟩
  · rcases h with h | h | h | h | h | h
    · exact ⟨Or.inr (Or.inl h.2.1), fun e => by rw [h.2.1] at e; exact absurd e (by decide)⟩
    · exact ⟨Or.inr (Or.inr (Or.inl h.2.1)), fun e => by rw [h.2.1] at e; exact absurd e (by decide)⟩
    · refine ⟨Or.inr (Or.inr (Or.inr (Or.inl h.2.1))), fun _ e => ?_⟩
      have := h.2.2.2.2.2.2.2.2.2.2.2.1
      rw [e] at this
      exact absurd this (by decide)
    · exact ⟨Or.inr (Or.inr (Or.inr (Or.inr (Or.inl h.2.1)))), fun e => by rw [h.2.1] at e; exact absurd e (by decide)⟩
    · exact ⟨Or.inr (Or.inr (Or.inr (Or.inr (Or.inr (Or.inl h.2.1))))), fun e => by rw [h.2.1] at e; exact absurd e (by decide)⟩
    · rcases h.2.2.2.2.2.1 with q | q
      · exact ⟨Or.inr (Or.inr (Or.inr (Or.inr (Or.inr (Or.inr (Or.inl q.2)))))), fun e => by rw [q.2] at e; exact absurd e (by decide)⟩
      · exact ⟨Or.inr (Or.inr (Or.inr (Or.inr (Or.inr (Or.inr (Or.inr q.2)))))), fun e => by rw [q.2] at e; exact absurd e (by decide)⟩
section TK
variable {k : Nat} {I : Nat → Int32} {A : Nat → Nat → Int32} {T : Nat → Option Nat} {L : List Nat} {K : Nat → Nat} {F : Nat → Nat → Int32} {J : Nat → Int32} {B : Nat → Nat → Int32} {a1 a2 a3 a4 a5 : Int32} {P : Int32 → Prop} {kd on tw th fo lv li la : Int32} {q : Nat}
theorem M_isSource {i : Nat} (hi : i < 12) (p : P (bI (srcB (B 2 i) (B 7 i) (B 8 i) (B 4 i) (B 9 i) (J 3)))) : g_Mo_isSource J B (nI i) P := by
  have hin : vp_in (nI i) 12 := vin hi (by omega)
  have hcl : (nI i).toNatClampNeg = i := nI_clamp (by omega)
  refine ⟨hin, ?_⟩
  unfold g_Mo_isSource_19
  rw [hcl]
  have h19 : ¬ (B 2 i = 4 ∧ 0 < B 7 i) → vp_in (nI i) 12 ∧ ((¬ (B 2 i) = (5 : Int32) → (P (0 : Int32))) ∧ ((B 2 i) = (5 : Int32) → (vp_in (nI i) 12 ∧ (((B 8 i) = 0 → (P (0 : Int32))) ∧ (¬ (B 8 i) = 0 → (vp_in (nI i) 12 ∧ (vp_in (nI i) 12 ∧ ((((J 3) - (B 9 i)) < ((4 : Int32) * (B 4 i)) → (P (0 : Int32))) ∧ (¬ ((J 3) - (B 9 i)) < ((4 : Int32) * (B 4 i)) → (g_Mo_isSource_60 J B (nI i) P  )))))))))) := by
    intro h4
    refine ⟨hin, ?_⟩
    by_cases e5 : B 2 i = 5
    · refine n2t e5 ⟨hin, ?_⟩
      by_cases e8 : B 8 i = 0
      · refine c2t e8 ?_
        simpa [srcB, h4, e8, bI] using p
      · refine c2f e8 ⟨hin, hin, ?_⟩
        by_cases e9 : J 3 - B 9 i < 4 * B 4 i
        · refine c2t e9 ?_
          have : srcB (B 2 i) (B 7 i) (B 8 i) (B 4 i) (B 9 i) (J 3) = false := decide_eq_false (fun h => h.elim h4 (fun h => h.2.2 e9))
          rw [this] at p; exact p
        · refine c2f e9 ?_
          have : srcB (B 2 i) (B 7 i) (B 8 i) (B 4 i) (B 9 i) (J 3) = true := decide_eq_true (Or.inr ⟨e5, e8, e9⟩)
          rw [this] at p; exact p
    · refine n2f e5 ?_
      have : srcB (B 2 i) (B 7 i) (B 8 i) (B 4 i) (B 9 i) (J 3) = false := decide_eq_false (fun h => h.elim h4 (fun h => e5 h.1))
      rw [this] at p; exact p
  by_cases e4 : B 2 i = 4
  · refine n2t e4 ⟨hin, ?_⟩
    by_cases e7 : 0 < B 7 i
    · refine c2t e7 ?_
      have : srcB (B 2 i) (B 7 i) (B 8 i) (B 4 i) (B 9 i) (J 3) = true := decide_eq_true (Or.inl ⟨e4, e7⟩)
      rw [this] at p; exact p
    · exact c2f e7 (h19 (fun h => e7 h.2))
  · exact n2f e4 (h19 (fun h => e4 h.1))
theorem src_0 {kd lv li tw la tick : Int32} (h4 : ¬ kd = 4) (h5 : ¬ kd = 5) : srcB kd lv li tw la tick = false := decide_eq_false (fun h => h.elim (fun h => h4 h.1) (fun h => h5 h.1))
theorem C_kind (hq : q ∈ L) (h : thq (K q) (F q) kd on tw th fo lv li la) (p : P kd) : gd_kind L K F q P := by
  rcases h with h | h | h | h | h | h
  · refine ⟨hq, Or.inr (Or.inl ⟨h.1, ?_⟩)⟩
    rw [h.2.1] at p
    exact p
  · refine ⟨hq, Or.inr (Or.inr (Or.inr (Or.inr (Or.inl ⟨h.1, ?_⟩))))⟩
    rw [h.2.1] at p
    exact p
  · refine ⟨hq, Or.inl ⟨h.1, ?_⟩⟩
    rw [h.2.1] at p
    exact p
  · refine ⟨hq, Or.inr (Or.inr (Or.inr (Or.inr (Or.inr (⟨h.1, ?_⟩)))))⟩
    rw [h.2.1] at p
    exact p
  · refine ⟨hq, Or.inr (Or.inr (Or.inl ⟨h.1, ?_⟩))⟩
    rw [h.2.1] at p
    exact p
  · refine ⟨hq, Or.inr (Or.inr (Or.inr (Or.inl ⟨h.1, ?_⟩)))⟩
    rcases h.2.2.2.2.2.1 with ⟨e1, e2⟩ | ⟨e1, e2⟩
    · rw [e2] at p
      exact c2t e1 p
    · rw [e2] at p
      exact c2f (by rw [e1]; decide) p
theorem C_isSrc (hq : q ∈ L) (h : thq (K q) (F q) kd on tw th fo lv li la) (p : P (bI (srcB kd lv li tw la a1))) : gd_isSource L K F q a1 P := by
  rcases h with h | h | h | h | h | h
  · refine ⟨hq, Or.inr (Or.inl ⟨h.1, ?_⟩)⟩
    rw [src_0 (by rw [h.2.1]; decide) (by rw [h.2.1]; decide)] at p
    exact p
  · refine ⟨hq, Or.inr (Or.inr (Or.inr (Or.inr (Or.inl ⟨h.1, ?_⟩))))⟩
    rw [src_0 (by rw [h.2.1]; decide) (by rw [h.2.1]; decide)] at p
    exact p
  · refine ⟨hq, Or.inl ⟨h.1, ?_⟩⟩
    rw [src_0 (by rw [h.2.1]; decide) (by rw [h.2.1]; decide)] at p
    exact p
  · refine ⟨hq, Or.inr (Or.inr (Or.inr (Or.inr (Or.inr (⟨h.1, ?_⟩)))))⟩
    obtain ⟨e0, e1, e2, e3, e4, -⟩ := h
    by_cases hl : 0 < lv
    · rw [show srcB kd lv li tw la a1 = true from decide_eq_true (Or.inl ⟨e1, hl⟩)] at p
      refine c2f (by rw [e4]; intro hh; exact (fa_of_lt hl).2.1 hh) p
    · rw [show srcB kd lv li tw la a1 = false from decide_eq_false (fun h => h.elim (fun h => hl h.2) (fun h => by rw [e1] at h; exact absurd h.1 (by decide)))] at p
      exact c2t (by rw [e4]; exact fa_of_nlt hl) p
  · refine ⟨hq, Or.inr (Or.inr (Or.inl ⟨h.1, ?_⟩))⟩
    obtain ⟨e0, e1, e2, e3, e4, e5, e6, e7, e8, e9, -⟩ := h
    by_cases hl : li = 0
    · rw [show srcB kd lv li tw la a1 = false from decide_eq_false (fun h => h.elim (fun h => by rw [e1] at h; exact absurd h.1 (by decide)) (fun h => h.2.1 hl))] at p
      exact c2t (e7.trans hl) p
    · refine c2f (by rw [e7]; exact hl) ?_
      rw [e9 hl, e5, show tw * 4 = 4 * tw from Int32.mul_comm _ _]
      by_cases ht : a1 - la < 4 * tw
      · rw [show srcB kd lv li tw la a1 = false from decide_eq_false (fun h => h.elim (fun h => by rw [e1] at h; exact absurd h.1 (by decide)) (fun h => h.2.2 ht))] at p
        exact c2t ht p
      · rw [show srcB kd lv li tw la a1 = true from decide_eq_true (Or.inr ⟨e1, hl, ht⟩)] at p
        exact c2f ht p
  · refine ⟨hq, Or.inr (Or.inr (Or.inr (Or.inl ⟨h.1, ?_⟩)))⟩
    rw [src_0 (by rcases h.2.2.2.2.2.1 with ⟨e1, e2⟩ | ⟨e1, e2⟩ <;> rw [e2] <;> decide) (by rcases h.2.2.2.2.2.1 with ⟨e1, e2⟩ | ⟨e1, e2⟩ <;> rw [e2] <;> decide)] at p
    exact p
theorem C_held (hq : q ∈ L) (h : thq (K q) (F q) kd on tw th fo lv li la) (p : P lv) : gd_held L K F q P := by
  rcases h with h | h | h | h | h | h
  · refine ⟨hq, Or.inr (Or.inl ⟨h.1, ?_⟩)⟩
    have e : lv = 0 := h.2.2.2.2.2.1
    rw [e] at p
    exact p
  · refine ⟨hq, Or.inr (Or.inr (Or.inr (Or.inr (Or.inl ⟨h.1, ?_⟩))))⟩
    have e : lv = 0 := h.2.2.2.2.2.2.1
    rw [e] at p
    exact p
  · refine ⟨hq, Or.inl ⟨h.1, ?_⟩⟩
    have e : lv = 0 := h.2.2.2.2.2.2.2.2.1
    rw [e] at p
    exact p
  · refine ⟨hq, Or.inr (Or.inr (Or.inr (Or.inr (Or.inr (⟨h.1, ?_⟩)))))⟩
    have e : F q 2 = lv := h.2.2.2.2.1
    show P (F q 2)
    rw [e]; exact p
  · refine ⟨hq, Or.inr (Or.inr (Or.inl ⟨h.1, ?_⟩))⟩
    have e : F q 2 = lv := h.2.2.2.1.trans h.2.2.2.2.1.symm
    show P (F q 2)
    rw [e]; exact p
  · refine ⟨hq, Or.inr (Or.inr (Or.inr (Or.inl ⟨h.1, ?_⟩)))⟩
    have e : lv = 0 := h.2.2.2.2.1
    rw [e] at p
    exact p
theorem C_litOrF (hq : q ∈ L) (h : thq (K q) (F q) kd on tw th fo lv li la) (p : P li) : gd_isLitOrFound L K F q P := by
  rcases h with h | h | h | h | h | h
  · refine ⟨hq, Or.inr (Or.inl ⟨h.1, ?_⟩)⟩
    have e : li = 0 := h.2.2.2.2.2.2.1
    rw [e] at p
    exact p
  · refine ⟨hq, Or.inr (Or.inr (Or.inr (Or.inr (Or.inl ⟨h.1, ?_⟩))))⟩
    have e : li = 0 := h.2.2.2.2.2.2.2.1
    rw [e] at p
    exact p
  · refine ⟨hq, Or.inl ⟨h.1, ?_⟩⟩
    have e : li = 0 := h.2.2.2.2.2.2.2.2.2.1
    rw [e] at p
    exact p
  · refine ⟨hq, Or.inr (Or.inr (Or.inr (Or.inr (Or.inr (⟨h.1, ?_⟩)))))⟩
    have e : li = 0 := h.2.2.2.2.2.1
    rw [e] at p
    exact p
  · refine ⟨hq, Or.inr (Or.inr (Or.inl ⟨h.1, ?_⟩))⟩
    have e : F q 5 = li := h.2.2.2.2.2.2.2.1
    have e2 : isB li := h.2.2.2.2.2.2.2.2.1
    show isB (F q 5) ∧ P (F q 5)
    rw [e]; exact ⟨e2, p⟩
  · refine ⟨hq, Or.inr (Or.inr (Or.inr (Or.inl ⟨h.1, ?_⟩)))⟩
    have e : F q 2 = li := h.2.2.1
    show isB (F q 2) ∧ P (F q 2)
    rw [e]; exact ⟨h.2.2.2.1, p⟩
theorem C_weight (hq : q ∈ L) (h : thq (K q) (F q) kd on tw th fo lv li la) (hs : srcB kd lv li tw la a1 = true) (p : P on) : gd_weight L K F q P := by
  rcases h with h | h | h | h | h | h
  · refine ⟨hq, Or.inr (Or.inl ⟨h.1, ?_⟩)⟩
    rw [src_0 (by rw [h.2.1]; decide) (by rw [h.2.1]; decide)] at hs
    cases hs
  · refine ⟨hq, Or.inr (Or.inr (Or.inr (Or.inr (Or.inl ⟨h.1, ?_⟩))))⟩
    rw [src_0 (by rw [h.2.1]; decide) (by rw [h.2.1]; decide)] at hs
    cases hs
  · refine ⟨hq, Or.inl ⟨h.1, ?_⟩⟩
    rw [src_0 (by rw [h.2.1]; decide) (by rw [h.2.1]; decide)] at hs
    cases hs
  · refine ⟨hq, Or.inr (Or.inr (Or.inr (Or.inr (Or.inr (⟨h.1, ?_⟩)))))⟩
    have e : F q 0 = on := h.2.2.1
    show P (F q 0)
    rw [e]; exact p
  · refine ⟨hq, Or.inr (Or.inr (Or.inl ⟨h.1, ?_⟩))⟩
    have e : F q 0 = on := h.2.2.1
    show P (F q 0)
    rw [e]; exact p
  · refine ⟨hq, Or.inr (Or.inr (Or.inr (Or.inl ⟨h.1, ?_⟩)))⟩
    rw [src_0 (by rcases h.2.2.2.2.2.1 with ⟨e1, e2⟩ | ⟨e1, e2⟩ <;> rw [e2] <;> decide) (by rcases h.2.2.2.2.2.1 with ⟨e1, e2⟩ | ⟨e1, e2⟩ <;> rw [e2] <;> decide)] at hs
    cases hs
theorem now_t {th fo tick : Int32} (h1 : ¬ ofD tick < th) (h2 : ¬ fo ≤ ofD tick) : nowB th fo tick = true := decide_eq_true ⟨h1, h2⟩
theorem now_f1 {th fo tick : Int32} (h1 : ofD tick < th) : nowB th fo tick = false := decide_eq_false (fun h => h.1 h1)
theorem now_f2 {th fo tick : Int32} (h1 : fo ≤ ofD tick) : nowB th fo tick = false := decide_eq_false (fun h => h.2 h1)
theorem tkv_1 {on tw th fo lv tick p : Int32} : tkv 1 on tw th fo lv tick p = if nowB th fo tick then on else 0 := rfl
theorem tkv_2 {on tw th fo lv tick p : Int32} : tkv 2 on tw th fo lv tick p = if nowB th fo tick then on * ((tw + 3 * (ofD tick / 60)) - (tw + 3 * (ofD tick / 60)) / 7 * 7) else 0 := rfl
theorem tkv_3 {on tw th fo lv tick p : Int32} : tkv 3 on tw th fo lv tick p = if fo ≤ (mnt tick + th) - (mnt tick + th) / tw * tw then 0 else on := rfl
theorem tkv_4 {on tw th fo lv tick p : Int32} : tkv 4 on tw th fo lv tick p = if lv = 0 then 10 else 0 := rfl
theorem tkv_5 {on tw th fo lv tick p : Int32} : tkv 5 on tw th fo lv tick p = 0 := rfl
theorem tkv_6 {on tw th fo lv tick p : Int32} : tkv 6 on tw th fo lv tick p = on * max0 p / 1000 := rfl
theorem tkv_7 {on tw th fo lv tick p : Int32} : tkv 7 on tw th fo lv tick p = 2 * (on * max0 p / 1000) := rfl
theorem tkv_0 {on tw th fo lv tick p : Int32} : tkv 0 on tw th fo lv tick p = 0 := rfl
theorem C_takes (hq : q ∈ L) (h : thq (K q) (F q) kd on tw th fo lv li la) {t : Nat} (ht : t < 2 ^ 31) (hk : a1 = nI t) (p : P (tkv kd on tw th fo lv a1 a2)) : gd_takes L K F q a1 a2 P := by
  rcases h with h | h | h | h | h | h
  · refine ⟨hq, Or.inr (Or.inl ⟨h.1, ?_⟩)⟩
    obtain ⟨e0, e1, eon, eth, efo, -⟩ := h
    rw [e1, tkv_1] at p
    refine y1 ?_
    show (ofD a1 < F q 1 → P 0) ∧ (¬ ofD a1 < F q 1 → ((F q 2 ≤ ofD a1 → P 0) ∧ (¬ F q 2 ≤ ofD a1 → _)))
    rw [eth, efo]
    by_cases n1 : ofD a1 < th
    · rw [now_f1 n1] at p; exact c2t n1 p
    · refine c2f n1 ?_
      by_cases n2 : fo ≤ ofD a1
      · rw [now_f2 n2] at p; exact c2t n2 p
      · rw [now_t n1 n2] at p
        refine c2f n2 ?_
        show P (F q 0)
        rw [eon]; exact p
  · refine ⟨hq, Or.inr (Or.inr (Or.inr (Or.inr (Or.inl ⟨h.1, ?_⟩))))⟩
    obtain ⟨e0, e1, eon, etw, eth, efo, -⟩ := h
    rw [e1, tkv_2] at p
    refine y1 ?_
    show (ofD a1 < F q 1 → P 0) ∧ (¬ ofD a1 < F q 1 → ((F q 2 ≤ ofD a1 → P 0) ∧ (¬ F q 2 ≤ ofD a1 → _)))
    rw [eth, efo]
    by_cases n1 : ofD a1 < th
    · rw [now_f1 n1] at p; exact c2t n1 p
    · refine c2f n1 ?_
      by_cases n2 : fo ≤ ofD a1
      · rw [now_f2 n2] at p; exact c2t n2 p
      · rw [now_t n1 n2] at p
        refine c2f n2 ?_
        refine y1 ?_
        show P (F q 0 * ((F q 3 + 3 * (ofD a1 / 60)) - (F q 3 + 3 * (ofD a1 / 60)) / 7 * 7))
        rw [eon, etw]; exact p
  · refine ⟨hq, Or.inl ⟨h.1, ?_⟩⟩
    obtain ⟨e0, e1, eon, ef1, ef2, etw, eth, efo, -, -, -, h1, -⟩ := h
    rw [e1, tkv_3] at p
    have hz : ¬ tw = 0 := by intro e; rw [e] at h1; exact absurd h1 (by decide)
    have hz2 : ¬ tw ≤ 0 := fun e => absurd ((fa_le _ _).mp e) (by show ¬ tw.toInt ≤ 0; omega)
    refine y1 ?_
    show (ofD a1 < F q 1 → P 0) ∧ (¬ ofD a1 < F q 1 → ((F q 2 ≤ ofD a1 → P 0) ∧ (¬ F q 2 ≤ ofD a1 → g_Br_takesIn_Br F q (mnt a1) (fun r => P r))))
    rw [ef1, ef2, hk, ofD_nI ht]
    refine c2f (nI_pos (by omega)) (c2f (nI_ge (b := 1440) (by omega) (by omega)) ?_)
    rw [← hk]
    show (F q 3 ≤ 0 → P 0) ∧ (¬ F q 3 ≤ 0 → (¬ F q 3 = 0 ∧ ((F q 5 ≤ (mnt a1 + F q 4) - (mnt a1 + F q 4) / F q 3 * F q 3 → P 0) ∧ (¬ F q 5 ≤ (mnt a1 + F q 4) - (mnt a1 + F q 4) / F q 3 * F q 3 → P (F q 0)))))
    rw [etw, eth, efo, eon]
    refine c2f hz2 ⟨hz, ?_⟩
    by_cases c : fo ≤ (mnt a1 + th) - (mnt a1 + th) / tw * tw
    · rw [if_pos c] at p; exact c2t c p
    · rw [if_neg c] at p; exact c2f c p
  · refine ⟨hq, Or.inr (Or.inr (Or.inr (Or.inr (Or.inr (⟨h.1, ?_⟩)))))⟩
    obtain ⟨e0, e1, eon, etw, elv, -⟩ := h
    rw [e1, tkv_4] at p
    show (¬ F q 2 = 0 → P 0) ∧ (F q 2 = 0 → P 10)
    rw [elv]
    by_cases c : lv = 0
    · rw [if_pos c] at p; exact n2t c p
    · rw [if_neg c] at p; exact n2f c p
  · refine ⟨hq, Or.inr (Or.inr (Or.inl ⟨h.1, ?_⟩))⟩
    rw [h.2.1, tkv_5] at p
    exact p
  · refine ⟨hq, Or.inr (Or.inr (Or.inr (Or.inl ⟨h.1, ?_⟩)))⟩
    obtain ⟨e0, eon, eli, hB, elv, e1, -⟩ := h
    have g18 : ∀ x : Int32, x = on * max0 a2 / 1000 → g_Le_takes_Le_18 F q a1 a2 P x := by
      intro x hx
      subst hx
      rcases e1 with ⟨e2, e3⟩ | ⟨e2, e3⟩
      · rw [e3, tkv_6] at p
        exact c2t e2 p
      · rw [e3, tkv_7] at p
        exact c2f (by rw [e2]; decide) p
    refine ⟨fun c => g18 _ ?_, fun c => g18 _ ?_⟩
    · rw [eon, max0, if_neg (fun z => (fa_of_lt z).2.1 c)]
    · rw [max0, if_pos (fa_of_nle c), Int32.mul_zero]
      rfl
theorem M_takes {i : Nat} (hi : i < 12) (hk : okd (B 2 i)) (h3 : B 2 i = 3 → ¬ B 4 i = 0) (p : P (tkv (B 2 i) (B 3 i) (B 4 i) (B 5 i) (B 6 i) (B 7 i) (J 3) (B 13 i - 10 * B 0 i))) : g_Mo_takes J B (nI i) P := by
  have hin : vp_in (nI i) 12 := vin hi (by omega)
  have hcl : (nI i).toNatClampNeg = i := nI_clamp (by omega)
  have g57 : g_Mo_takes_57 J B (nI i) P (mnt (J 3)) (ofD (J 3)) (bI (nowB (B 5 i) (B 6 i) (J 3))) (max0 (B 13 i - 10 * B 0 i)) := by
    refine ⟨hin, ?_⟩
    rw [hcl]
    rcases hk with e | e | e | e | e | e | e | e
    · rw [e] at p ⊢
      refine ⟨fun q => absurd q (by decide), fun q => absurd q (by decide), fun q => absurd q (by decide), fun q => absurd q (by decide), fun q => absurd q (by decide), fun q => absurd q (by decide), fun q => absurd q (by decide), fun _ _ _ _ _ _ _ => ?_⟩
      rw [tkv_0] at p; exact p
    · rw [e] at p ⊢
      refine ⟨fun _ => ?_, fun q => absurd q (by decide), fun q => absurd q (by decide), fun q => absurd q (by decide), fun q => absurd q (by decide), fun q => absurd q (by decide), fun q => absurd q (by decide), fun z _ _ _ _ _ _ => absurd rfl z⟩
      rw [tkv_1] at p
      cases hw : nowB (B 5 i) (B 6 i) (J 3)
      · rw [hw] at p; exact c2t rfl p
      · rw [hw] at p; exact c2f nz1 ⟨hin, p⟩
    · rw [e] at p ⊢
      refine ⟨fun q => absurd q (by decide), fun _ => ?_, fun q => absurd q (by decide), fun q => absurd q (by decide), fun q => absurd q (by decide), fun q => absurd q (by decide), fun q => absurd q (by decide), fun _ z _ _ _ _ _ => absurd rfl z⟩
      rw [tkv_2] at p
      cases hw : nowB (B 5 i) (B 6 i) (J 3)
      · rw [hw] at p; exact c2t rfl p
      · rw [hw] at p; exact c2f nz1 ⟨hin, hin, p⟩
    · rw [e] at p ⊢
      refine ⟨fun q => absurd q (by decide), fun q => absurd q (by decide), fun _ => ?_, fun q => absurd q (by decide), fun q => absurd q (by decide), fun q => absurd q (by decide), fun q => absurd q (by decide), fun _ _ z _ _ _ _ => absurd rfl z⟩
      rw [tkv_3] at p
      refine ⟨hin, hin, h3 e, hin, ?_⟩
      by_cases c : B 6 i ≤ (mnt (J 3) + B 5 i) - (mnt (J 3) + B 5 i) / B 4 i * B 4 i
      · rw [if_pos c] at p; exact c2t c p
      · rw [if_neg c] at p; exact c2f c ⟨hin, p⟩
    · rw [e] at p ⊢
      refine ⟨fun q => absurd q (by decide), fun q => absurd q (by decide), fun q => absurd q (by decide), fun _ => ?_, fun q => absurd q (by decide), fun q => absurd q (by decide), fun q => absurd q (by decide), fun _ _ _ z _ _ _ => absurd rfl z⟩
      rw [tkv_4] at p
      refine ⟨hin, ?_⟩
      by_cases c : B 7 i = 0
      · rw [if_pos c] at p; exact n2t c p
      · rw [if_neg c] at p; exact n2f c p
    · rw [e] at p ⊢
      refine ⟨fun q => absurd q (by decide), fun q => absurd q (by decide), fun q => absurd q (by decide), fun q => absurd q (by decide), fun _ => ?_, fun q => absurd q (by decide), fun q => absurd q (by decide), fun _ _ _ _ z _ _ => absurd rfl z⟩
      rw [tkv_5] at p; exact p
    · rw [e] at p ⊢
      refine ⟨fun q => absurd q (by decide), fun q => absurd q (by decide), fun q => absurd q (by decide), fun q => absurd q (by decide), fun q => absurd q (by decide), fun _ => ?_, fun q => absurd q (by decide), fun _ _ _ _ _ z _ => absurd rfl z⟩
      rw [tkv_6] at p; exact ⟨hin, p⟩
    · rw [e] at p ⊢
      refine ⟨fun q => absurd q (by decide), fun q => absurd q (by decide), fun q => absurd q (by decide), fun q => absurd q (by decide), fun q => absurd q (by decide), fun q => absurd q (by decide), fun _ => ?_, fun _ _ _ _ _ _ z => absurd rfl z⟩
      rw [tkv_7] at p; exact ⟨hin, p⟩
  have g38 : g_Mo_takes_38 J B (nI i) P (mnt (J 3)) (ofD (J 3)) (bI (nowB (B 5 i) (B 6 i) (J 3))) := by
    refine ⟨hin, hin, ?_⟩
    rw [hcl]
    refine ⟨fun c => ⟨hin, hin, ?_⟩, fun c => ?_⟩
    · rw [hcl]
      rw [max0, if_neg (fun z => (fa_of_lt z).2.1 c)] at g57
      exact g57
    · rw [max0, if_pos (fa_of_nle c)] at g57
      exact g57
  refine y1 (y1 ⟨hin, ?_⟩)
  rw [hcl]
  show (ofD (J 3) < B 5 i → _) ∧ (¬ ofD (J 3) < B 5 i → (_ ∧ ((B 6 i ≤ ofD (J 3) → _) ∧ (¬ B 6 i ≤ ofD (J 3) → _))))
  by_cases n1 : ofD (J 3) < B 5 i
  · rw [now_f1 n1] at g38; exact c2t n1 g38
  · refine c2f n1 ⟨hin, ?_⟩
    by_cases n2 : B 6 i ≤ ofD (J 3)
    · rw [now_f2 n2] at g38; exact c2t n2 g38
    · rw [now_t n1 n2] at g38; exact c2f n2 g38
/-- the class's side, at a node -/
theorem C_taken {i t : Nat} (hi : i < 12) (ht : t < 2 ^ 31) (hk : a1 = nI t) (h : thI (T i) L K F kd on tw th fo lv li la) (p : P (tkv kd on tw th fo lv a1 (A 9 i - 10 * A 7 i))) : g_Ne_taken A T L K F (nI i) a1 P := by
  have hin : vp_in (nI i) 12 := vin hi (by omega)
  have hcl : (nI i).toNatClampNeg = i := nI_clamp (by omega)
  refine ⟨hin, ?_⟩
  rw [hcl]
  refine ⟨fun e => ?_, fun q e => ⟨hin, hin, ?_⟩⟩
  · rw [(thI_none h e).1, tkv_0] at p; exact p
  · rw [hcl]
    exact C_takes (thI_some h e).1 (thI_some h e).2 ht hk p
theorem C_isSource {i : Nat} (hi : i < 12) (h : thI (T i) L K F kd on tw th fo lv li la) (p : P (bI (srcB kd lv li tw la a1))) : g_Ne_isSource T L K F (nI i) a1 P := by
  refine ⟨vin hi (by omega), ?_⟩
  rw [nI_clamp (by omega)]
  refine ⟨fun e => ?_, fun q e => ?_⟩
  · rw [src_0 (by rw [(thI_none h e).1]; decide) (by rw [(thI_none h e).1]; decide)] at p; exact p
  · exact C_isSrc (thI_some h e).1 (thI_some h e).2 (bI_split p)
end TK
