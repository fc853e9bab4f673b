/-! ===== layer 2: calls on mains and valves ===== -/
/-- the search for a main between two nodes -/
def pm (e1 e2 : Nat → Int32) (a b : Int32) (i : Nat) : Bool := decide ((e1 i = a ∧ e2 i = b) ∨ (e1 i = b ∧ e2 i = a))
theorem C_addMain_l {I : Nat → Int32} {A : Nat → Nat → Int32} {m : Nat} {a b g : Int32} {P : Int32 → ((Nat → Int32) × (Nat → Nat → Int32)) → Prop} {X : (Nat → Int32) → (Nat → Nat → Int32) → Prop} (hm : I 9 = nI m) (hm18 : m ≤ 18) : ∀ (d j : Nat), j + d = m → (fd (pm (A 17) (A 18) a b) d j = none → X I A) → (∀ i, fd (pm (A 17) (A 18) a b) d j = some i → P (-5) (I, A)) → g_Pi_addMain_15 a b g P X (d + 1) I A (nI j)
  | 0, j, hj, h1, _ => c2t (lit_le hm (by omega) (by omega)) (h1 rfl)
  | d + 1, j, hj, h1, h2 => by
    refine c2f (lit_lt hm (by omega) (by omega)) ⟨vin (by omega) (by omega), ?_⟩
    rw [nI_clamp (by omega)]
    have hin : vp_in (nI j) 18 := vin (by omega) (by omega)
    have next : pm (A 17) (A 18) a b j = false → g_Pi_addMain_71 a b g P (g_Pi_addMain_15 a b g P X (d + 1)) I A (nI j) := by
      intro e
      show g_Pi_addMain_15 a b g P X (d + 1) I A (nI j + 1)
      rw [nI_1]
      exact C_addMain_l hm hm18 d (j + 1) (by omega) (fun q => h1 (by unfold fd; simpa [e] using q)) (fun i q => h2 i (by unfold fd; simpa [e] using q))
    have hit : pm (A 17) (A 18) a b j = true → P (-5) (I, A) := fun e => h2 j (by unfold fd; simp [e])
    have two : ¬ (A 17 j = a ∧ A 18 j = b) → g_Pi_addMain_46 a b g P (g_Pi_addMain_15 a b g P X (d + 1)) I A (nI j) := by
      intro e
      refine ⟨hin, ?_⟩
      rw [nI_clamp (by omega)]
      by_cases q1 : A 17 j = b
      · refine n2t q1 ⟨hin, ?_⟩
        by_cases q2 : A 18 j = a
        · exact n2t q2 (hit (by simp [pm, q1, q2]))
        · exact n2f q2 (next (by simp only [pm, q2, e, and_false, or_false, decide_false]))
      · exact n2f q1 (next (by simp only [pm, q1, e, false_and, or_false, decide_false]))
    by_cases q1 : A 17 j = a
    · refine n2t q1 ⟨hin, ?_⟩
      by_cases q2 : A 18 j = b
      · exact c2t q2 (hit (by simp [pm, q1, q2]))
      · exact c2f q2 (two (fun q => q2 q.2))
    · exact n2f q1 (two (fun q => q1 q.1))
theorem M_main_l {I : Nat → Int32} {A : Nat → Nat → Int32} {m : Nat} {a b g : Int32} {P : Int32 → ((Nat → Int32) × (Nat → Nat → Int32)) → Prop} {X : (Nat → Int32) → (Nat → Nat → Int32) → Prop} (hm : I 1 = nI m) (hm18 : m ≤ 18) : ∀ (d j : Nat), j + d = m → (fd (pm (A 14) (A 15) a b) d j = none → X I A) → (∀ i, fd (pm (A 14) (A 15) a b) d j = some i → P (-5) (I, A)) → g_Mo_main_52 a b g P X (d + 1) I A (nI j)
  | 0, j, hj, h1, _ => c2t (lit_le hm (by omega) (by omega)) (h1 rfl)
  | d + 1, j, hj, h1, h2 => by
    refine c2f (lit_lt hm (by omega) (by omega)) ⟨vin (by omega) (by omega), ?_⟩
    rw [nI_clamp (by omega)]
    have hin : vp_in (nI j) 18 := vin (by omega) (by omega)
    have next : pm (A 14) (A 15) a b j = false → g_Mo_main_108 a b g P (g_Mo_main_52 a b g P X (d + 1)) I A (nI j) := by
      intro e
      show g_Mo_main_52 a b g P X (d + 1) I A (nI j + 1)
      rw [nI_1]
      exact M_main_l hm hm18 d (j + 1) (by omega) (fun q => h1 (by unfold fd; simpa [e] using q)) (fun i q => h2 i (by unfold fd; simpa [e] using q))
    have hit : pm (A 14) (A 15) a b j = true → P (-5) (I, A) := fun e => h2 j (by unfold fd; simp [e])
    have two : ¬ (A 14 j = a ∧ A 15 j = b) → g_Mo_main_83 a b g P (g_Mo_main_52 a b g P X (d + 1)) I A (nI j) := by
      intro e
      refine ⟨hin, ?_⟩
      rw [nI_clamp (by omega)]
      by_cases q1 : A 14 j = b
      · refine n2t q1 ⟨hin, ?_⟩
        by_cases q2 : A 15 j = a
        · exact n2t q2 (hit (by simp [pm, q1, q2]))
        · exact n2f q2 (next (by simp only [pm, q2, e, and_false, or_false, decide_false]))
      · exact n2f q1 (next (by simp only [pm, q1, e, false_and, or_false, decide_false]))
    by_cases q1 : A 14 j = a
    · refine n2t q1 ⟨hin, ?_⟩
      by_cases q2 : A 15 j = b
      · exact c2t q2 (hit (by simp [pm, q1, q2]))
      · exact c2f q2 (two (fun q => q2 q.2))
    · exact n2f q1 (two (fun q => q1 q.1))
theorem Rmain.add {n m x y : Nat} {i9 j1 g : Int32} {a17 a18 a19 b14 b15 b16 : Nat → Int32} (h : Rmain n m i9 j1 a17 a18 a19 b14 b15 b16) (hm : m < 18) (hx : x < n) (hy : y < n) (hxy : x ≠ y) (hg : (1 : Int32) ≤ g ∧ g ≤ 1000) :
    Rmain n (m + 1) (i9 + 1) (j1 + 1) (upd a17 i9.toNatClampNeg (nI x)) (upd a18 i9.toNatClampNeg (nI y)) (upd a19 i9.toNatClampNeg g) (upd b14 j1.toNatClampNeg (nI x)) (upd b15 j1.toNatClampNeg (nI y)) (upd b16 j1.toNatClampNeg g) := by
  obtain ⟨h0, rfl, rfl, h3⟩ := h
  obtain ⟨w, hw1, hw2, rfl⟩ := rg_nI (lo := 1) (hi := 1000) hg (by omega) (by omega)
  rw [nI_clamp (by omega)]
  refine ⟨by omega, nI_1 m, nI_1 m, fun i hi => ?_⟩
  by_cases e : i = m
  · subst e; rw [up_at, up_at, up_at, up_at, up_at, up_at]; exact ⟨rfl, rfl, rfl, x, y, w, hx, hy, hxy, hw1, hw2, rfl, rfl, rfl⟩
  · rw [up_ne e, up_ne e, up_ne e, up_ne e, up_ne e, up_ne e]; exact h3 i (by omega)
theorem Rvalve.main {m v sh : Nat} {i10 i11 j2 : Int32} {a20 a21 b17 b18 b19 : Nat → Int32} (h : Rvalve m v sh i10 i11 j2 a20 a21 b17 b18 b19) : Rvalve (m + 1) v sh i10 i11 j2 a20 a21 b17 b18 b19 := by
  obtain ⟨h1, h2, h3, h4, h5, h6, h7⟩ := h
  refine ⟨h1, h2, h3, h4, h5, fun i hi => ?_, h7⟩
  obtain ⟨q1, q2, q3, ⟨x, hx, ex⟩, y, hy, ey⟩ := h6 i hi
  exact ⟨q1, q2, q3, ⟨x, by omega, ex⟩, y, by omega, ey⟩
theorem Rmemo.main {n m : Nat} {i6 i7 i8 i9 x y z : Int32} {a7 a9 a13 a17 a18 a19 : Nat → Int32} (hi : i9 = nI m) (hm : m < 18) (h : Rmemo n m i6 i7 i8 a7 a9 a13 a17 a18 a19) : Rmemo n (m + 1) i6 i7 i8 a7 a9 a13 (upd a17 i9.toNatClampNeg x) (upd a18 i9.toNatClampNeg y) (upd a19 i9.toNatClampNeg z) := by
  subst hi
  rw [nI_clamp (by omega)]
  intro h8
  obtain ⟨n0, bits, nr0, h0, e1, e2, w0, q1, q2, q3, q4, q5, q6, q7, q8, q9⟩ := h h8
  refine ⟨n0, bits, nr0, h0, e1, e2, w0, q1, by rw [Nat.pow_succ]; omega, q3, q4, q5, q6, q7, fun i hi hb => ?_, q9⟩
  have hne : i ≠ m := by
    rintro rfl
    rw [Nat.testBit_lt_two_pow q2] at hb
    cases hb
  rw [up_ne hne, up_ne hne, up_ne hne]
  exact q8 i (by omega) hb
section OPS2
variable {k : Nat} {I : Nat → Int32} {A : Nat → Nat → Int32} {T : Nat → Option Nat} {L : List Nat} {K : Nat → Nat} {F : Nat → Nat → Int32} {J : Nat → Int32} {B : Nat → Nat → Int32} {a1 a2 a3 : Int32}
theorem op_main (hR : Rel k I A T L K F J B) : g_Pw_main I A a1 a2 a3 (fun r u => g_Mo_main J B a1 a2 a3 (fun r2 v => r = r2 ∧ Rel (k + 1) u.1 u.2 T L K F v.1 v.2)) := by
  have hU := hR.up
  obtain ⟨tk, n, m, v, sh, nr, sg, od, bk, ht, hc, hn, hm, hv, hnr, hmm, hs, ho, hp, hrw, htm, hmt, hkn, hth⟩ := hR
  obtain ⟨n12, hi4, hj0, hh, hd, hhd⟩ := id hn
  obtain ⟨m18, hi9, hj1, hms⟩ := id hm
  refine g_has n12 hi4 (fun x hx e1 => ?_) (fun h => ?_)
  · subst e1
    refine c2f nz1 (g_has n12 hi4 (fun y hy e2 => ?_) (fun h => ?_))
    · subst e2
      refine c2f nz1 ?_
      by_cases hxy : x = y
      · subst hxy
        exact n2t rfl (m_nodeT n12 hj0 hx (c2f nz1 (m_nodeT n12 hj0 hx (c2f nz1 (n2t rfl ⟨rfl, hU⟩)))))
      · have hne : ¬ nI x = nI y := by rw [nI_eq (by omega) (by omega)]; exact hxy
        refine n2f hne (g_wi (fun h3 => ?_) (fun h3 => ?_))
        · refine c2f nz1 ?_
          by_cases hfull : m = 18
          · refine c2f (cnt_nlt (N := 18) hi9 (by omega) (by omega)) ?_
            exact m_nodeT n12 hj0 hx (c2f nz1 (m_nodeT n12 hj0 hy (c2f nz1 (n2f hne (g_mt h3 (n2f nz1 (n2t (by rw [hj1, hfull]; rfl) ⟨rfl, hU⟩)))))))
          · have hlt : m < 18 := by omega
            have hpm : fd (pm (A 17) (A 18) (nI x) (nI y)) m 0 = fd (pm (B 14) (B 15) (nI x) (nI y)) m 0 := fd_cong _ _ (fun i _ hi => by
              obtain ⟨q1, q2, -⟩ := hms i (by omega)
              unfold pm; rw [q1, q2])
            refine c2t (cnt_lt (N := 18) hi9 (by omega) hlt) ⟨m + 1, C_addMain_l hi9 m18 m 0 (by omega) (fun q => ?_) (fun i q => ?_)⟩
            · have hin : vp_in (I 9) 18 := by rw [hi9]; exact vin hlt (by omega)
              have hin2 : vp_in (J 1) 18 := by rw [hj1]; exact vin hlt (by omega)
              refine ⟨hin, hin, hin, ?_⟩
              refine m_nodeT n12 hj0 hx (c2f nz1 (m_nodeT n12 hj0 hy (c2f nz1 (n2f hne (g_mt h3 (n2f nz1 (n2f (cnt_ne (N := 18) hj1 (by omega) hlt) ⟨m + 1, M_main_l hj1 m18 m 0 (by omega) (fun _ => ?_) (fun i q2 => ?_)⟩)))))))
              · refine ⟨hin2, hin2, hin2, ?_, ?_⟩
                · show I 9 = J 1 + 1 - 1
                  rw [cnt_sub hj1, hj1, hi9]
                · exact ⟨tk, n, m + 1, v, sh, nr, sg, od, bk, ht.up, hc, hn, hm.add hlt hx hy hxy h3, hv.main, hnr, hmm.main hi9 hlt, hs, ho, hp, hrw, htm, hmt, hkn, hth⟩
              · rw [← hpm, q] at q2; cases q2
            · refine m_nodeT n12 hj0 hx (c2f nz1 (m_nodeT n12 hj0 hy (c2f nz1 (n2f hne (g_mt h3 (n2f nz1 (n2f (cnt_ne (N := 18) hj1 (by omega) hlt) ⟨m + 1, M_main_l hj1 m18 m 0 (by omega) (fun q2 => ?_) (fun i q2 => ⟨rfl, hU⟩)⟩)))))))
              rw [← hpm, q] at q2; cases q2
        · exact c2t rfl (m_nodeT n12 hj0 hx (c2f nz1 (m_nodeT n12 hj0 hy (c2f nz1 (n2f hne (g_mf h3 (n2t rfl ⟨rfl, hU⟩)))))))
    · exact c2t rfl (m_nodeT n12 hj0 hx (c2f nz1 (m_nodeF n12 hj0 h (c2t rfl ⟨rfl, hU⟩))))
  · exact c2t rfl (m_nodeF n12 hj0 h (c2t rfl ⟨rfl, hU⟩))
end OPS2
