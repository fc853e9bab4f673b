/-! ===== layer 2: misfits; the reference puts its rivals in order ===== -/
section MISFIT
def mfs (h H Kn : Nat → Int32) (n : Nat) : Int32 := lp (fun j x => x + absI (h j - 10 * H j - Kn j)) n 0 0
theorem abs_bd {z : Int32} {b : Nat} (hb : b < 2 ^ 30) (h1 : -(b : Int) ≤ z.toInt) (h2 : z.toInt ≤ b) : ∃ y, y ≤ b ∧ absI z = nI y := by
  have e0 : (0 : Int32).toInt = 0 := by decide
  unfold absI
  by_cases c : (0 : Int32) ≤ z
  · rw [if_pos c]
    rw [fa_le, e0] at c
    exact nI_of_int c h2
  · rw [if_neg c]
    rw [fa_le, e0] at c
    refine nI_of_int ?_ ?_
    · rw [fb_subI (by omega) (by omega), e0]; omega
    · rw [fb_subI (by omega) (by omega), e0]; omega
theorem term_bd {h H Kn : Nat → Int32} {j x y : Nat} (hx : x ≤ 7000) (e1 : h j = nI x) (hy : y ≤ 200) (e2 : H j = nI y) (hk : rg (Kn j) (-10000) 10000) : ∃ t, t ≤ 20000 ∧ absI (h j - 10 * H j - Kn j) = nI t := by
  obtain ⟨k1, k2⟩ := hk
  have t1 : (h j).toInt = x := by rw [e1, nI_toInt (by omega)]
  have t2 : (10 * H j).toInt = 10 * y := by
    rw [e2, show (10 : Int32) = nI 10 from rfl, pk_mul, nI_toInt (by omega)]; omega
  have t3 : (h j - 10 * H j).toInt = (x : Int) - 10 * y := by rw [fb_subI (by omega) (by omega), t1, t2]
  have t4 : (h j - 10 * H j - Kn j).toInt = (x : Int) - 10 * y - (Kn j).toInt := by rw [fb_subI (by omega) (by omega), t3]
  exact abs_bd (by omega) (by omega) (by omega)
theorem mfs_bd {h H Kn : Nat → Int32} {n : Nat} (n12 : n ≤ 12) (hb : hdB n h) (hH : ∀ i, i < n → ∃ x, x ≤ 200 ∧ H i = nI x) (hK : ∀ i, i < n → rg (Kn i) (-10000) 10000) : ∃ x, x ≤ 240000 ∧ mfs h H Kn n = nI x := by
  have := lp_inv (f := fun j x => x + absI (h j - 10 * H j - Kn j)) (Q := fun j x => ∃ y, y ≤ 20000 * j ∧ x = nI y) n 0 (0 : Int32) ⟨0, by omega, rfl⟩ (fun j a _ hj hq => by
    obtain ⟨y, hy, rfl⟩ := hq
    obtain ⟨x1, hx1, e1⟩ := hb j (by omega)
    obtain ⟨y1, hy1, e2⟩ := hH j (by omega)
    obtain ⟨t, ht, e3⟩ := term_bd hx1 e1 hy1 e2 (hK j (by omega))
    exact ⟨y + t, by omega, by show nI y + absI _ = _; rw [e3, nI_add]⟩)
  obtain ⟨y, hy, e⟩ := this
  exact ⟨y, by omega, e⟩
theorem mfs_cong {h h2 H Kn : Nat → Int32} {n : Nat} (e : EqN n h h2) : mfs h H Kn n = mfs h2 H Kn n := by
  refine lp_cong _ _ _ fun i a _ hi => ?_
  rw [e i (by omega)]
theorem C_misfit_l {n : Nat} {I : Nat → Int32} {A : Nat → Nat → Int32} {h H Kn : Nat → Int32} {P X : Int32 → Prop} (hn : I 4 = nI n) (n12 : n ≤ 12) (h9 : EqN n (A 9) h) (h7 : EqN n (A 7) H) (h4 : EqN n (A 4) Kn) : ∀ (d j : Nat) (x : Int32), j + d = n → X (lp (fun j x => x + absI (h j - 10 * H j - Kn j)) d j x) → g_Pw_misfitToKnown_4 I A P X (d + 1) x (nI j)
  | 0, j, x, hj, hX => c2t (by rw [hn]; exact nI_le (by omega) (by omega)) hX
  | d + 1, j, x, hj, hX => by
    have hin : vp_in (nI j) 12 := vin (by omega) (by omega)
    have ih := C_misfit_l (P := P) hn n12 h9 h7 h4 d (j + 1) (x + absI (h j - 10 * H j - Kn j)) (by omega) hX
    refine c2f (by rw [hn]; exact nI_ge (by omega) (by omega)) ⟨hin, hin, hin, y1 ?_⟩
    rw [nI_1, nI_clamp (by omega), h9 j (by omega), h7 j (by omega), h4 j (by omega)]
    exact ih
theorem C_misfit {n : Nat} {I : Nat → Int32} {A : Nat → Nat → Int32} {h H Kn : Nat → Int32} {P : Int32 → Prop} (hn : I 4 = nI n) (n12 : n ≤ 12) (h9 : EqN n (A 9) h) (h7 : EqN n (A 7) H) (h4 : EqN n (A 4) Kn) (hP : P (mfs h H Kn n)) : g_Pw_misfitToKnown I A P := ⟨n + 1, C_misfit_l hn n12 h9 h7 h4 n 0 0 (by omega) hP⟩
section SEEKM
variable {n : Nat} {J : Nat → Int32} {a1 a2 a3 : Int32} {P : Int32 → ((Nat → Int32) × (Nat → Nat → Int32)) → Prop}
theorem M_misfit_l {B : Nat → Nat → Int32} {X : (Nat → Int32) → (Nat → Nat → Int32) → Int32 → Int32 → Int32 → Int32 → Prop} {x4 x5 x6 : Int32} (hn : J 0 = nI n) (n12 : n ≤ 12) : ∀ (d j : Nat) (x : Int32), j + d = n → X J B x4 x5 x6 (lp (fun j x => x + absI (B 13 j - 10 * B 0 j - B 12 j)) d j x) → g_Mo_seek_122 a1 a2 a3 P X (d + 1) J B x4 x5 x6 x (nI j)
  | 0, j, x, hj, hX => c2t (by rw [hn]; exact nI_le (by omega) (by omega)) hX
  | d + 1, j, x, hj, hX => by
    have hin : vp_in (nI j) 12 := vin (by omega) (by omega)
    have ih := M_misfit_l (X := X) hn n12 d (j + 1) (x + absI (B 13 j - 10 * B 0 j - B 12 j)) (by omega) hX
    refine c2f (by rw [hn]; exact nI_ge (by omega) (by omega)) ⟨hin, hin, hin, y1 ?_⟩
    rw [nI_clamp (by omega)]
    unfold absI at ih
    refine ⟨fun c => y1 ?_, fun c => y1 ?_⟩
    · rw [if_pos c] at ih; rw [nI_1]; exact ih
    · rw [if_neg c, Int32.zero_sub] at ih; rw [nI_1]; exact ih
theorem M_ins {fr : Nat → Bool} {mu : Nat → Nat} {x cnt : Nat} {B : Nat → Nat → Int32} {x4 : Int32} {kb : (Nat → Int32) → (Nat → Nat → Int32) → Int32 → Int32 → Int32 → Prop} (hS : Srt fr mu x cnt (B 33) (B 34)) (hx : fr x = true) (hx12 : x < 12) (hcnt : cnt ≤ x) (hmu : ∀ i, i ≤ x → mu i ≤ 240000)
    (hk : ∀ B', (∀ c, c ≠ 33 → c ≠ 34 → B' c = B c) → Srt fr mu (x + 1) (cnt + 1) (B' 33) (B' 34) → kb J B' x4 (nI (cnt + 1)) (nI (x + 1))) : ∀ (y : Nat) (B' : Nat → Nat → Int32), y ≤ cnt → (∀ c, c ≠ 33 → c ≠ 34 → B' c = B c) → (∀ k, k < y → B' 33 k = B 33 k ∧ B' 34 k = B 34 k) → (∀ k, y ≤ k → k < cnt → B' 33 (k + 1) = B 33 k ∧ B' 34 (k + 1) = B 34 k) →
    (∀ k, y ≤ k → k < cnt → ∃ j, j < x ∧ fr j = true ∧ rk fr mu x j = k ∧ mu x < mu j) →
    g_Mo_seek_175 a1 a2 a3 P (fun I_20 A_20 x4_20 x5_20 x6_20 x7_20 x8_20 => g_Mo_seek_232 a1 a2 a3 P kb I_20 A_20 x4_20 x5_20 x6_20 x7_20 x8_20) (y + 1) J B' x4 (nI cnt) (nI x) (nI (mu x)) (nI y)
  | y, B', hy, e0, e1, e2, e3 => by
    have hmx := hmu x (Nat.le_refl _)
    have fin : (∀ k, k < y → k < cnt → ∃ j, j < x ∧ fr j = true ∧ rk fr mu x j = k ∧ mu j ≤ mu x) → g_Mo_seek_232 a1 a2 a3 P kb J B' x4 (nI cnt) (nI x) (nI (mu x)) (nI y) := by
      intro hlo
      have hin : vp_in (nI y) 12 := vin (by omega) (by omega)
      refine ⟨hin, hin, ?_⟩
      show kb J _ x4 (nI cnt + 1) (nI x + 1)
      rw [nI_1, nI_1]
      have hcl : (nI y).toNatClampNeg = y := nI_clamp (by omega)
      refine hk _ (fun c c1 c2 => by rw [sA_ne c1, sA_ne c2]; exact e0 c c1 c2) ?_
      rw [sA_at, sA_ne (show 33 ≠ 34 by omega), sA_ne (show 34 ≠ 33 by omega), sA_at, hcl]
      refine hS.put hx hy hlo e3 (fun k hk => ?_) ?_ (fun k k1 k2 => ?_)
      · rw [up_ne (by omega), up_ne (by omega)]; exact e1 k hk
      · rw [up_at, up_at]; exact ⟨rfl, rfl⟩
      · rw [up_ne (by omega), up_ne (by omega)]; exact e2 k k1 k2
    cases y with
    | zero => exact c2t (by decide) (fin fun k hk => absurd hk (by omega))
    | succ y =>
      obtain ⟨j, q1, q2, q3, q4, q5⟩ := hS.2 y (by omega)
      have hmj := hmu j (by omega)
      have hin : vp_in (nI y) 12 := vin (by omega) (by omega)
      have hin1 : vp_in (nI (y + 1)) 12 := vin (by omega) (by omega)
      have hcl : (nI y).toNatClampNeg = y := nI_clamp (by omega)
      have hcl1 : (nI (y + 1)).toNatClampNeg = y + 1 := nI_clamp (by omega)
      refine c2f (nI_nle (by omega) (by omega)) ?_
      rw [nI_pred]
      refine ⟨hin, ?_⟩
      rw [hcl, (e1 y (by omega)).2, q5, nI_leI (by omega) (by omega)]
      refine ⟨fun c => fin fun k hk hk2 => ?_, fun c => ⟨hin, hin1, hin, hin1, ?_⟩⟩
      · obtain ⟨j', w1, w2, w3, -, -⟩ := hS.2 k hk2
        exact ⟨j', w1, w2, w3, Nat.le_trans (hS.mono (k1 := k) (k2 := y) (by omega) w1 w2 w3 q1 q2 q3) c⟩
      · rw [nI_dec, sA_ne (show 33 ≠ 34 by omega), (e1 y (by omega)).1]
        refine M_ins hS hx hx12 hcnt hmu hk y _ (by omega) (fun c c1 c2 => by rw [sA_ne c1, sA_ne c2]; exact e0 c c1 c2) (fun k hk => ?_) (fun k k1 k2 => ?_) (fun k k1 k2 => ?_)
        · rw [sA_at, sA_ne (show 33 ≠ 34 by omega), sA_ne (show 34 ≠ 33 by omega), sA_at, hcl1, up_ne (by omega), up_ne (by omega)]
          exact e1 k (by omega)
        · rw [sA_at, sA_ne (show 33 ≠ 34 by omega), sA_ne (show 34 ≠ 33 by omega), sA_at, hcl1]
          by_cases ck : k = y
          · subst ck; rw [up_at, up_at]; exact ⟨rfl, q5.symm⟩
          · rw [up_ne (by omega), up_ne (by omega)]; exact e2 k (by omega) k2
        · by_cases ck : k = y
          · subst ck; exact ⟨j, q1, q2, q3, by omega⟩
          · exact e3 k (by omega) k2
end SEEKM
end MISFIT
