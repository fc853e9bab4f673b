/-! ===== layer 2: the beginning ===== -/
theorem rel_init {A B : Nat → Nat → Int32} (hA : ∀ c, c ≠ 2 → c ≠ 3 → A c = fun _ => 0) (hA2 : ∀ i, i < 4 → A 2 i = 1) (hA3 : ∀ i, i < 4 → A 3 i = -6) (hB : ∀ c, c ≠ 20 → c ≠ 30 → B c = fun _ => 0) (hB20 : ∀ i, i < 4 → B 20 i = -1) (hB30 : ∀ i, i < 4 → B 30 i = 1) :
    Rel 0 (fun _ => 0) A (fun _ => none) [] (fun _ => 0) (fun _ _ => 0) (fun _ => 0) B := by
  refine ⟨0, 0, 0, 0, 0, 0, 0, 0, 0, ⟨by omega, rfl, rfl⟩, ⟨rfl, rfl, rfl⟩, ?_, ⟨by omega, rfl, rfl, fun i hi => absurd hi (by omega)⟩, ⟨by omega, rfl, rfl, rfl, by decide, fun i hi => absurd hi (by omega), fun i j hi => absurd hi (by omega)⟩, ⟨by omega, rfl, rfl, rfl⟩, fun h => absurd rfl h, ⟨by omega, rfl, rfl, fun i hi => absurd hi (by omega)⟩, ⟨by omega, rfl, rfl, fun i hi => absurd hi (by omega)⟩, ?_, ?_, ?_, ?_, ?_, ?_⟩
  · refine ⟨by omega, rfl, rfl, fun i hi => ?_, fun i hi => ?_, fun i hi => absurd hi (by omega)⟩
    · rw [hA 7 (by omega) (by omega), hB 0 (by omega) (by omega)]; exact ⟨rfl, 0, by omega, rfl⟩
    · rw [hA 8 (by omega) (by omega), hB 1 (by omega) (by omega)]; exact ⟨rfl, 0, by omega, rfl⟩
  · refine ⟨by omega, rfl, rfl, fun i hi => absurd hi (by omega), fun i hi => ?_, fun h => absurd rfl h⟩
    rw [hA 26 (by omega) (by omega), hA 27 (by omega) (by omega), hB 28 (by omega) (by omega), hB 29 (by omega) (by omega)]
    exact ⟨rfl, rfl, ⟨0, by omega, rfl⟩, 0, by omega, rfl⟩
  · intro r hr
    rw [hA 31 (by omega) (by omega), hA 32 (by omega) (by omega), hA 33 (by omega) (by omega), hA 34 (by omega) (by omega), hB 21 (by omega) (by omega), hB 22 (by omega) (by omega)]
    refine ⟨Or.inl ⟨hA3 r hr, hB20 r hr⟩, fun i hi => ⟨Or.inl rfl, fun _ => ⟨?_, show (-1000000 : Int) ≤ (0 : Int32).toInt by decide, show (0 : Int32).toInt ≤ 1000000 by decide⟩, fun h => absurd rfl h⟩⟩
    rcases r with _ | _ | _ | r <;> rfl
  · intro d hd
    rw [hA2 d hd, hB30 d hd]
  · intro i hi
    rw [hA 0 (by omega) (by omega), hA 1 (by omega) (by omega), hB 10 (by omega) (by omega), hB 11 (by omega) (by omega)]
    exact ⟨rfl, rfl, Or.inl rfl⟩
  · intro i hi
    rw [hA 4 (by omega) (by omega), hB 12 (by omega) (by omega)]
    exact ⟨rfl, show (-10000 : Int) ≤ (0 : Int32).toInt by decide, show (0 : Int32).toInt ≤ 10000 by decide⟩
  · refine ⟨fun i hi => Or.inl ⟨rfl, ?_, ?_, ?_⟩, fun i _ _ => rfl, fun i j q _ _ h => by cases h⟩
    · rw [hB 2 (by omega) (by omega)]
    · rw [hB 7 (by omega) (by omega)]
    · rw [hB 8 (by omega) (by omega)]
theorem M_init_l {P X : (Nat → Nat → Int32) → Prop} : ∀ (d j : Nat) (B : Nat → Nat → Int32), j + d = 4 → (∀ c, c ≠ 20 → c ≠ 30 → B c = fun _ => 0) → (∀ i, i < j → B 20 i = -1) → (∀ i, i < j → B 30 i = 1) →
    (∀ B', (∀ c, c ≠ 20 → c ≠ 30 → B' c = fun _ => 0) → (∀ i, i < 4 → B' 20 i = -1) → (∀ i, i < 4 → B' 30 i = 1) → X B') → g_Mo_init_300 P X (d + 1) B (nI j)
  | 0, j, B, hj, h1, h2, h3, hX => by
    have e : j = 4 := by omega
    subst e
    exact c2t (by decide) (hX B h1 h2 h3)
  | d + 1, j, B, hj, h1, h2, h3, hX => by
    refine c2f (nI_ge (b := 4) (by omega) (by omega)) ⟨vin (by omega) (by omega), vin (by omega) (by omega), ?_⟩
    rw [nI_1]
    refine M_init_l d (j + 1) _ (by omega) (fun c c1 c2 => ?_) (fun i hi => ?_) (fun i hi => ?_) hX
    · rw [sA_ne c2, sA_ne c1]; exact h1 c c1 c2
    · rw [sA_ne (by omega), sA_at, nI_clamp (by omega)]
      by_cases c : i = j
      · subst c; rw [up_at]
      · rw [up_ne c]; exact h2 i (by omega)
    · rw [sA_at, nI_clamp (by omega), sA_ne (by omega)]
      by_cases c : i = j
      · subst c; rw [up_at]
      · rw [up_ne c]; exact h3 i (by omega)
theorem op_init : g_Pw_init_113 (fun A => g_Mo_init_298 (fun B => Rel 0 (fun _ => 0) A (fun _ => none) [] (fun _ => 0) (fun _ _ => 0) (fun _ => 0) B) (fun _ _ => 0)) (fun _ _ => 0) := by
  refine C_fill (by decide) (C_fill (by decide) ⟨5, M_init_l 4 0 _ (by omega) (fun _ _ _ => rfl) (fun i hi => absurd hi (by omega)) (fun i hi => absurd hi (by omega)) fun B' h1 h2 h3 => ?_⟩)
  refine rel_init (fun c c2 c3 => ?_) (fun i hi => ?_) (fun i hi => ?_) h1 h2 h3
  · rw [va_un c3, va_un c2]
  · rw [va_un (by omega), vu_at]; exact fa_fill_in hi
  · rw [vu_at]; exact fa_fill_in hi
