/-! ===== layer 2, base: branches, ranges, loops ===== -/
theorem c2t {c X Y : Prop} (h : c) (x : X) : (c → X) ∧ (¬ c → Y) := ⟨fun _ => x, fun n => absurd h n⟩
theorem c2f {c X Y : Prop} (h : ¬ c) (y : Y) : (c → X) ∧ (¬ c → Y) := ⟨fun n => absurd n h, fun _ => y⟩
theorem n2t {c X Y : Prop} (h : c) (y : Y) : (¬ c → X) ∧ (c → Y) := ⟨fun n => absurd h n, fun _ => y⟩
theorem n2f {c X Y : Prop} (h : ¬ c) (x : X) : (¬ c → X) ∧ (c → Y) := ⟨fun _ => x, fun n => absurd n h⟩
theorem y1 {α : Type} {v : α} {X : α → Prop} (h : X v) : ∀ y, y = v → X y := fun _ e => e ▸ h
theorem nz1 : ¬ (1 : Int32) = 0 := by decide
/-- whether, as an int -/
def bI (b : Bool) : Int32 := if b then 1 else 0
theorem bI_t : bI true = 1 := rfl
theorem bI_f : bI false = 0 := rfl
theorem bI_B (b : Bool) : isB (bI b) := by
  cases b
  · exact Or.inl rfl
  · exact Or.inr rfl
theorem bI_0 {b : Bool} : bI b = 0 ↔ b = false := by cases b <;> decide
theorem bI_n {b : Bool} : ¬ bI b = 0 ↔ b = true := by cases b <;> decide
theorem bI_inj {a b : Bool} : bI a = bI b ↔ a = b := by cases a <;> cases b <;> decide
theorem isB_of {x : Int32} (h : isB x) : ∃ b, x = bI b := by
  rcases h with rfl | rfl
  · exact ⟨false, rfl⟩
  · exact ⟨true, rfl⟩
theorem nar_B {x : Int32} (h : isB x) : vp_nar .boolean x = x := by rcases h with rfl | rfl <;> rfl
theorem nar_0 : vp_nar .boolean 0 = 0 := rfl
theorem nar_1 : vp_nar .boolean 1 = 1 := rfl
/-- a number that names one of n -/
def inN (a : Int32) (n : Nat) : Prop := ∃ i, i < n ∧ a = nI i
theorem inN_of {a : Int32} {n : Nat} (hn : n < 2 ^ 31) (h0 : ¬ a < 0) (h : ¬ nI n ≤ a) : inN a n := by
  obtain ⟨j, h1, h2, -⟩ := pk_mu h0 h hn
  exact ⟨j, h1, h2⟩
theorem vin {i n : Nat} (h : i < n) (hn : n < 2 ^ 31) : vp_in (nI i) n := nI_in h hn
theorem v12 {i n : Nat} (h : i < n) (hn : n ≤ 12) : vp_in (nI i) 12 := nI_in (by omega) (by omega)
theorem v18 {i n : Nat} (h : i < n) (hn : n ≤ 18) : vp_in (nI i) 18 := nI_in (by omega) (by omega)
theorem vcl {i n : Nat} (h : i < n) (hn : n < 2 ^ 31) : (nI i).toNatClampNeg = i := nI_clamp (by omega)
theorem lt_of_vp {a : Int32} {n : Nat} (hn : n < 2 ^ 31) (h : vp_in a n) : inN a n := by
  unfold vp_in at h
  have h0 : ¬ a < 0 := fun q => h (Or.inl q)
  obtain ⟨j, h1, rfl⟩ := nI_of h0
  refine ⟨j, Nat.not_le.mp fun q => h (Or.inr ?_), rfl⟩
  rw [nI_clamp h1]; exact q
theorem lit_lt {i n : Nat} {x : Int32} (hx : x = nI n) (hi : i < n) (hn : n < 2 ^ 31) : ¬ x ≤ nI i := by subst hx; exact nI_ge hi hn
theorem lit_le {i n : Nat} {x : Int32} (hx : x = nI n) (hi : n ≤ i) (hn : i < 2 ^ 31) : x ≤ nI i := by subst hx; exact nI_le hi hn
theorem g_wt {a b c : Int32} {P : Int32 → Prop} (h : b ≤ a ∧ a ≤ c) (p : P 1) : g_Pw_isWithin a b c P :=
  c2f (fun q => (fa_of_lt q).2.1 h.1) (c2f (fun q => (fa_of_lt q).2.1 h.2) p)
theorem g_wf {a b c : Int32} {P : Int32 → Prop} (h : ¬ (b ≤ a ∧ a ≤ c)) (p : P 0) : g_Pw_isWithin a b c P :=
  ⟨fun _ => p, fun h1 => ⟨fun _ => p, fun h2 => absurd ⟨fa_of_nlt h1, fa_of_nlt h2⟩ h⟩⟩
theorem g_wi {a b c : Int32} {P : Int32 → Prop} (h1 : b ≤ a ∧ a ≤ c → P 1) (h0 : ¬ (b ≤ a ∧ a ≤ c) → P 0) : g_Pw_isWithin a b c P := by
  by_cases h : b ≤ a ∧ a ≤ c
  · exact g_wt h (h1 h)
  · exact g_wf h (h0 h)
theorem g_mt {a b c : Int32} {P : Int32 → Prop} (h : b ≤ a ∧ a ≤ c) (p : P 1) : g_Mo_in a b c P := g_wt h p
theorem g_mf {a b c : Int32} {P : Int32 → Prop} (h : ¬ (b ≤ a ∧ a ≤ c)) (p : P 0) : g_Mo_in a b c P := g_wf h p
theorem g_hasC {a x : Int32} {n : Nat} {P : Int32 → Prop} (hn : n < 2 ^ 31) (hx : x = nI n) (h1 : ∀ i, i < n → a = nI i → P 1) (h0 : ¬ inN a n → P 0) : (a < 0 → P 0) ∧ (¬ a < 0 → ((x ≤ a → P 0) ∧ (¬ x ≤ a → P 1))) := by
  subst hx
  refine ⟨fun h => h0 ?_, fun h => ⟨fun h2 => h0 ?_, fun h2 => ?_⟩⟩
  · rintro ⟨i, hi, rfl⟩; exact nI_pos (by omega) h
  · rintro ⟨i, hi, rfl⟩; exact nI_ge hi hn h2
  · obtain ⟨i, hi, e⟩ := inN_of hn h h2; exact h1 i hi e
theorem g_inC_t {x : Int32} {n i : Nat} {P : Int32 → Prop} (hn : n < 2 ^ 31) (hx : x = nI n) (hi : i < n) (p : P 1) : g_Mo_in (nI i) 0 (x - 1) P := by
  subst hx
  refine c2f (nI_pos (by omega)) (c2f ?_ p)
  obtain ⟨k, rfl⟩ : ∃ k, n = k + 1 := ⟨n - 1, by omega⟩
  rw [nI_pred]; exact nI_nlt (by omega) (by omega)
theorem g_inC_f {a x : Int32} {n : Nat} {P : Int32 → Prop} (hn : n < 2 ^ 31) (hx : x = nI n) (h : ¬ inN a n) (p : P 0) : g_Mo_in a 0 (x - 1) P := by
  subst hx
  refine ⟨fun _ => p, fun h0 => ⟨fun _ => p, fun h1 => absurd ?_ h⟩⟩
  refine inN_of hn h0 ?_
  have e0 : (0 : Int32).toInt = 0 := by decide
  rcases n with _ | k
  · exfalso
    apply h1
    rw [show nI 0 - 1 = -1 from rfl, fa_lt, show (-1 : Int32).toInt = -1 from by decide]
    rw [fa_lt] at h0
    omega
  · rw [nI_pred, fa_lt, nI_toInt (by omega)] at h1
    rw [fa_le, nI_toInt (by omega)]
    omega
/-- a loop that goes up: d rounds from j on -/
def lp {α : Type} (f : Nat → α → α) : Nat → Nat → α → α
  | 0, _, a => a
  | d + 1, j, a => lp f d (j + 1) (f j a)
theorem lp_cong {α : Type} {f g : Nat → α → α} : ∀ (d j : Nat) (a : α), (∀ i a, j ≤ i → i < j + d → f i a = g i a) → lp f d j a = lp g d j a
  | 0, _, _, _ => rfl
  | d + 1, j, a, h => by
    show lp f d (j + 1) (f j a) = lp g d (j + 1) (g j a)
    rw [h j a (Nat.le_refl _) (by omega)]
    exact lp_cong d (j + 1) _ (fun i a h1 h2 => h i a (by omega) (by omega))
theorem lp_inv {α : Type} {f : Nat → α → α} {Q : Nat → α → Prop} : ∀ (d j : Nat) (a : α), Q j a → (∀ i a, j ≤ i → i < j + d → Q i a → Q (i + 1) (f i a)) → Q (j + d) (lp f d j a)
  | 0, _, _, h, _ => h
  | d + 1, j, a, h, hs => by
    have := lp_inv (f := f) (Q := Q) d (j + 1) (f j a) (hs j a (Nat.le_refl _) (by omega) h) (fun i a h1 h2 => hs i a (by omega) (by omega))
    rw [show j + (d + 1) = j + 1 + d by omega]
    exact this
/-- two loops side by side -/
theorem lp_rel {α β : Type} {f : Nat → α → α} {g : Nat → β → β} {Q : Nat → α → β → Prop} : ∀ (d j : Nat) (a : α) (b : β), Q j a b → (∀ i a b, j ≤ i → i < j + d → Q i a b → Q (i + 1) (f i a) (g i b)) → Q (j + d) (lp f d j a) (lp g d j b)
  | 0, _, _, _, h, _ => h
  | d + 1, j, a, b, h, hs => by
    have := lp_rel (f := f) (g := g) (Q := Q) d (j + 1) (f j a) (g j b) (hs j a b (Nat.le_refl _) (by omega) h) (fun i a b h1 h2 => hs i a b (by omega) (by omega))
    rw [show j + (d + 1) = j + 1 + d by omega]
    exact this
theorem lp_snoc {α : Type} {f : Nat → α → α} : ∀ (d j : Nat) (a : α), lp f (d + 1) j a = f (j + d) (lp f d j a)
  | 0, _, _ => rfl
  | d + 1, j, a => by
    show lp f (d + 1) (j + 1) (f j a) = _
    rw [lp_snoc d (j + 1) (f j a), show j + 1 + d = j + (d + 1) by omega]
    rfl
/-- the first of d from j on -/
def fd (p : Nat → Bool) : Nat → Nat → Option Nat
  | 0, _ => none
  | d + 1, j => if p j then some j else fd p d (j + 1)
theorem fd_cong {p q : Nat → Bool} : ∀ (d j : Nat), (∀ i, j ≤ i → i < j + d → p i = q i) → fd p d j = fd q d j
  | 0, _, _ => rfl
  | d + 1, j, h => by
    show (if p j then _ else _) = (if q j then _ else _)
    rw [h j (Nat.le_refl _) (by omega), fd_cong d (j + 1) (fun i h1 h2 => h i (by omega) (by omega))]
theorem fd_none {p : Nat → Bool} : ∀ {d j : Nat}, fd p d j = none → ∀ i, j ≤ i → i < j + d → p i = false
  | 0, _, _, i, h1, h2 => by omega
  | d + 1, j, h, i, h1, h2 => by
    unfold fd at h
    cases hp : p j
    · rw [hp] at h
      rcases Nat.eq_or_lt_of_le h1 with rfl | h3
      · exact hp
      · exact fd_none (d := d) (j := j + 1) (by simpa using h) i h3 (by omega)
    · rw [hp] at h; simp at h
theorem fd_some {p : Nat → Bool} : ∀ {d j i : Nat}, fd p d j = some i → j ≤ i ∧ i < j + d ∧ p i = true ∧ ∀ k, j ≤ k → k < i → p k = false
  | 0, _, _, h => by simp [fd] at h
  | d + 1, j, i, h => by
    unfold fd at h
    cases hp : p j
    · rw [hp] at h
      obtain ⟨h1, h2, h3, h4⟩ := fd_some (d := d) (j := j + 1) (i := i) (by simpa using h)
      refine ⟨by omega, by omega, h3, fun k hk1 hk2 => ?_⟩
      rcases Nat.eq_or_lt_of_le hk1 with rfl | hk3
      · exact hp
      · exact h4 k hk3 hk2
    · rw [hp] at h
      have e : j = i := by simpa using h
      subst e
      exact ⟨Nat.le_refl _, by omega, hp, fun k h1 h2 => by omega⟩
/-- NONE, or its number -/
def oN (o : Option Nat) : Int32 := match o with
  | none => -6
  | some i => nI i
theorem va_un {α : Type} {f : Nat → α} {k j : Nat} {v : α} (h : j ≠ k) : va_up f k v j = f j := if_neg h
theorem up_at (f : Nat → Int32) (k : Nat) (v : Int32) : upd f k v k = v := if_pos rfl
theorem up_ne {f : Nat → Int32} {k j : Nat} {v : Int32} (h : j ≠ k) : upd f k v j = f j := if_neg h
theorem sA_at (A : Nat → Nat → Int32) (k : Nat) (i x : Int32) : sA A k i x k = upd (A k) i.toNatClampNeg x := if_pos rfl
theorem sA_ne {A : Nat → Nat → Int32} {k j : Nat} {i x : Int32} (h : j ≠ k) : sA A k i x j = A j := if_neg h
