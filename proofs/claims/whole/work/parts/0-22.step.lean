/-! ===== layer 2: step ===== -/
section SP
variable {k tk n m v sh nr sg od bk : Nat} {I I2 : Nat → Int32} {A A2 : Nat → Nat → Int32} {T : Nat → Option Nat} {L : List Nat} {K : Nat → Nat} {F F2 : Nat → Nat → Int32} {J J2 : Nat → Int32} {B B2 : Nat → Nat → Int32} {a1 : Int32}
theorem RelP.stepped {tk2 : Nat} (h : RelP k tk n m v sh nr sg od bk I A T L K F J B) (hI : ∀ c, c ≠ 0 → c ≠ 1 → c ≠ 2 → c ≠ 3 → I2 c = I c) (hA : ∀ c, c ≠ 0 → A2 c = A c) (hJ : ∀ c, c ≠ 3 → c ≠ 6 → c ≠ 7 → c ≠ 8 → J2 c = J c) (hB : ∀ c, c ≠ 7 → c ≠ 10 → c ≠ 31 → c ≠ 32 → B2 c = B c)
    (ht : Rtime k tk2 (I2 0) (J2 3)) (hc : Rcnt (I2 1) (I2 2) (I2 3) (J2 6) (J2 7) (J2 8)) (hmt : Rmet (A2 0) (A2 1) (B2 10) (B2 11)) (hth : Rth n T L K F2 (B2 2) (B2 3) (B2 4) (B2 5) (B2 6) (B2 7) (B2 8) (B2 9)) : RelP k tk2 n m v sh nr sg od bk I2 A2 T L K F2 J2 B2 := by
  obtain ⟨-, -, hn, hm, hv, hnr, hmm, hs, ho, hp, hrw, htm, -, hkn, -⟩ := h
  refine ⟨ht, hc, ?_, ?_, ?_, ?_, ?_, ?_, ?_, ?_, ?_, ?_, hmt, ?_, hth⟩
  · rw [hI 4 (by decide) (by decide) (by decide) (by decide), hJ 0 (by decide) (by decide) (by decide) (by decide), hA 7 (by decide), hA 8 (by decide), hA 9 (by decide), hB 0 (by decide) (by decide) (by decide) (by decide), hB 1 (by decide) (by decide) (by decide) (by decide), hB 13 (by decide) (by decide) (by decide) (by decide)]; exact hn
  · rw [hI 9 (by decide) (by decide) (by decide) (by decide), hJ 1 (by decide) (by decide) (by decide) (by decide), hA 17 (by decide), hA 18 (by decide), hA 19 (by decide), hB 14 (by decide) (by decide) (by decide) (by decide), hB 15 (by decide) (by decide) (by decide) (by decide), hB 16 (by decide) (by decide) (by decide) (by decide)]; exact hm
  · rw [hI 10 (by decide) (by decide) (by decide) (by decide), hI 11 (by decide) (by decide) (by decide) (by decide), hJ 2 (by decide) (by decide) (by decide) (by decide), hA 20 (by decide), hA 21 (by decide), hB 17 (by decide) (by decide) (by decide) (by decide), hB 18 (by decide) (by decide) (by decide) (by decide), hB 19 (by decide) (by decide) (by decide) (by decide)]; exact hv
  · rw [hI 5 (by decide) (by decide) (by decide) (by decide), hJ 4 (by decide) (by decide) (by decide) (by decide), hI 6 (by decide) (by decide) (by decide) (by decide), hJ 5 (by decide) (by decide) (by decide) (by decide)]; exact hnr
  · rw [hI 6 (by decide) (by decide) (by decide) (by decide), hI 7 (by decide) (by decide) (by decide) (by decide), hI 8 (by decide) (by decide) (by decide) (by decide), hA 7 (by decide), hA 9 (by decide), hA 13 (by decide), hA 17 (by decide), hA 18 (by decide), hA 19 (by decide)]; exact hmm
  · rw [hI 12 (by decide) (by decide) (by decide) (by decide), hJ 9 (by decide) (by decide) (by decide) (by decide), hA 22 (by decide), hB 23 (by decide) (by decide) (by decide) (by decide)]; exact hs
  · rw [hI 13 (by decide) (by decide) (by decide) (by decide), hJ 10 (by decide) (by decide) (by decide) (by decide), hA 23 (by decide), hA 24 (by decide), hA 35 (by decide), hA 36 (by decide), hA 37 (by decide), hA 38 (by decide), hA 39 (by decide), hA 40 (by decide), hB 24 (by decide) (by decide) (by decide) (by decide), hB 25 (by decide) (by decide) (by decide) (by decide), hB 26 (by decide) (by decide) (by decide) (by decide)]; exact ho
  · rw [hI 14 (by decide) (by decide) (by decide) (by decide), hI 15 (by decide) (by decide) (by decide) (by decide), hJ 11 (by decide) (by decide) (by decide) (by decide), hA 25 (by decide), hA 26 (by decide), hA 27 (by decide), hA 28 (by decide), hA 29 (by decide), hA 30 (by decide), hB 27 (by decide) (by decide) (by decide) (by decide), hB 28 (by decide) (by decide) (by decide) (by decide), hB 29 (by decide) (by decide) (by decide) (by decide)]; exact hp
  · rw [hA 3 (by decide), hB 20 (by decide) (by decide) (by decide) (by decide), hA 31 (by decide), hA 32 (by decide), hA 33 (by decide), hA 34 (by decide), hB 21 (by decide) (by decide) (by decide) (by decide), hB 22 (by decide) (by decide) (by decide) (by decide)]; exact hrw
  · rw [hA 2 (by decide), hB 30 (by decide) (by decide) (by decide) (by decide)]; exact htm
  · rw [hA 4 (by decide), hB 12 (by decide) (by decide) (by decide) (by decide)]; exact hkn
theorem sLv_bd {tick : Int32} {bits i : Nat} (hr : rg (B 4 i) 1 100000) : 0 ≤ (sLv B tick bits m i).toInt ∧ (sLv B tick bits m i).toInt ≤ (B 4 i).toInt := by
  unfold sLv
  obtain ⟨h1, h2⟩ := hr
  have h0 : (0 : Int32).toInt = 0 := by decide
  simp only [fa_lt, h0]
  by_cases c : (sNx B tick bits m i).toInt < (B 4 i).toInt
  · rw [if_pos c]
    by_cases c2 : 0 < (sNx B tick bits m i).toInt
    · rw [if_pos c2]; omega
    · rw [if_neg c2, h0]; omega
  · rw [if_neg c, if_pos (by omega)]; omega
theorem Rth.stepped {tick : Int32} {bits : Nat} (h : Rth n T L K F (B 2) (B 3) (B 4) (B 5) (B 6) (B 7) (B 8) (B 9)) (hF : stF B tick bits m n T F2 F) : Rth n T L K F2 (B 2) (B 3) (B 4) (B 5) (B 6) (fa_fill (fun i => if B 2 i = 4 then sLv B tick bits m i else B 7 i) (B 7) n) (B 8) (B 9) := by
  obtain ⟨h1, h2, h3⟩ := h
  refine ⟨fun i hi => ?_, h2, h3⟩
  have hti := h1 i hi
  rcases hti with ⟨e0, e1, e2, e3⟩ | ⟨q, e0, e1, e2⟩
  · refine Or.inl ⟨e0, e1, ?_, e3⟩
    unfold fa_fill
    by_cases c : i < n
    · rw [if_pos c]
      show (if B 2 i = 4 then sLv B tick bits m i else B 7 i) = 0
      rw [if_neg (by rw [e1]; decide)]; exact e2
    · rw [if_neg c]; exact e2
  · refine Or.inr ⟨q, e0, e1, ?_⟩
    rw [hF i q hi e0]
    have hin : i < n := by
      rcases Nat.lt_or_ge i n with c | c
      · exact c
      · rw [h2 i c hi] at e0; cases e0
    rw [fa_fill_in hin]
    by_cases c : B 2 i = 4
    · rw [if_pos ⟨hin, c⟩, if_pos c]
      have hb := sLv_bd (B := B) (tick := tick) (bits := bits) (m := m) (i := i)
      rcases e2 with g | g | g | g | g | g
      · rw [g.2.1] at c; exact absurd c (by decide)
      · rw [g.2.1] at c; exact absurd c (by decide)
      · rw [g.2.1] at c; exact absurd c (by decide)
      · obtain ⟨g0, g1, g2, g3, g4, g5, g6, g7, g8⟩ := g
        exact Or.inr (Or.inr (Or.inr (Or.inl ⟨g0, g1, g2, g3, rfl, g5, g6, g7, hb g7⟩)))
      · rw [g.2.1] at c; exact absurd c (by decide)
      · rcases g.2.2.2.2.2.1 with ⟨-, y⟩ | ⟨-, y⟩ <;> (rw [y] at c; exact absurd c (by decide))
    · rw [if_neg (fun z => c z.2), if_neg c]; exact e2
theorem up3 {B B' : Nat → Nat → Int32} {f10 f31 f32 : Nat → Int32} (h : ∀ c, c ≠ 10 → c ≠ 31 → c ≠ 32 → B' c = B c) (h1 : B' 10 = f10) (h2 : B' 31 = f31) (h3 : B' 32 = f32) : B' = va_up (va_up (va_up B 10 f10) 31 f31) 32 f32 := by
  funext c
  by_cases c3 : c = 32
  · subst c3; rw [h3, vu_at]
  · rw [va_un c3]
    by_cases c2 : c = 31
    · subst c2; rw [h2, vu_at]
    · rw [va_un c2]
      by_cases c1 : c = 10
      · subst c1; rw [h1, vu_at]
      · rw [va_un c1]; exact h c c1 c2 c3
theorem up2 {J J' : Nat → Int32} {x y : Int32} (h : ∀ c, c ≠ 7 → c ≠ 8 → J' c = J c) (h1 : J' 7 = x) (h2 : J' 8 = y) : J' = va_up (va_up J 7 x) 8 y := by
  funext c
  by_cases c2 : c = 8
  · subst c2; rw [h2, vu_at]
  · rw [va_un c2]
    by_cases c1 : c = 7
    · subst c1; rw [h1, vu_at]
    · rw [va_un c1]; exact h c c1 c2
/-- one step on both sides -/
theorem RelP.step1 {X : (Nat → Int32) → (Nat → Nat → Int32) → (Nat → Nat → Int32) → Prop} (h : RelP k tk n m v sh nr sg od bk I A T L K F J B) (hk : k ≤ 512) (htk : tk + 1 ≤ 400 * k)
    (hX : ∀ (I2 : Nat → Int32) (A2 F2 : Nat → Nat → Int32) (J2 : Nat → Int32) (B2 : Nat → Nat → Int32) (r : Int32), RelP k (tk + 1) n m v sh nr sg od bk I2 A2 T L K F2 J2 B2 → I2 1 = I 1 + r → (∀ Q : Int32 → ((Nat → Int32) × (Nat → Nat → Int32)) → Prop, Q r (J2, B2) → g_Mo_stepOnce J B Q) → X I2 A2 F2) :
    g_Ne_settle I A T L K F (I 0) (fun u5 => (g_Pi_openMains u5.1 u5.2 (0 : Int32) (fun r6 => (g_Pw_stepThings u5.1 u5.2 T L K F r6 (fun u7 => X (va_up u7.1 0 ((u7.1 0) + (1 : Int32))) u7.2.1 u7.2.2))))) := by
  refine h.work hk (fun I1 A1 b J1 B1 _ h1 hM hI1 _ _ => ?_)
  dsimp only
  have hN := h1.net hk
  have hmok := hN.mok
  obtain ⟨ht, hc, hn, hm, hv, hnr, hmm, hs, ho, hp, hrw, htm, hmt, hkn, hth⟩ := id h1
  obtain ⟨n12, hi4, hj0, hht, hd, hhd⟩ := id hn
  have ht31 : tk < 2 ^ 31 := hN.1
  refine C_open (bs := 0) hm.2.1 hv.2.1 hv.1 hv.2.2.2.1 (fun i hi => ?_) hm.1 ?_
  · obtain ⟨q1, -, -, q2, -⟩ := hv.2.2.2.2.2.1 i hi
    rw [q1]; exact q2
  · rw [Nat.or_zero, om_eq hv]
    refine ⟨n + 1, C_things_l (I0 := I1) (A0 := A1) (F0 := F) (B := B1) (J := J1) n12 hi4 ht.2.1 ht31 hm (fun i hi => (hht i (by omega)).1) (fun i hi => (hhd i hi).1) (fun i hi => (hmt i (by omega)).2.1) hth.1 hth.2.2 (fun I2 A2 F2 sI sA sF => ?_) n 0 I1 A1 F (by omega) ⟨fun _ _ _ _ => rfl, rfl, rfl, rfl⟩ ⟨fun _ _ => rfl, fun i => (if_neg (by omega)).symm⟩ (fun i q _ _ => (if_neg (fun z => by omega)).symm)⟩
    generalize hbits : omB (B1 17) sh v m = bits at *
    show X (va_up I2 0 (I2 0 + 1)) A2 F2
    refine hX (va_up I2 0 (I2 0 + 1)) A2 F2 (va_up (va_up (va_up (va_up J1 7 (lp (fun i x => x + sSp B1 (nI tk) bits m i) n 0 (J1 7))) 8 (lp (fun i x => x + sBn B1 (nI tk) i) n 0 (J1 8))) 3 ((va_up (va_up J1 7 (lp (fun i x => x + sSp B1 (nI tk) bits m i) n 0 (J1 7))) 8 (lp (fun i x => x + sBn B1 (nI tk) i) n 0 (J1 8))) 3 + 1)) 6 ((va_up (va_up (va_up J1 7 (lp (fun i x => x + sSp B1 (nI tk) bits m i) n 0 (J1 7))) 8 (lp (fun i x => x + sBn B1 (nI tk) i) n 0 (J1 8))) 3 ((va_up (va_up J1 7 (lp (fun i x => x + sSp B1 (nI tk) bits m i) n 0 (J1 7))) 8 (lp (fun i x => x + sBn B1 (nI tk) i) n 0 (J1 8))) 3 + 1)) 6 + lp (fun i x => x + bI (sDry B1 (nI tk) i)) n 0 0)) (va_up (va_up (va_up (va_up B1 10 (fa_fill (fun i => B1 10 i + sStr B1 (nI tk) i) (B1 10) n)) 31 (fa_fill (sGot B1 (nI tk)) (B1 31) n)) 32 (fa_fill (fun i => bI (sSrc B1 (nI tk) i)) (B1 32) n)) 7 (fa_fill (fun i => if B1 2 i = 4 then sLv B1 (nI tk) bits m i else B1 7 i) (B1 7) n)) (lp (fun i x => x + bI (sDry B1 (nI tk) i)) n 0 0) ?_ ?_ (fun Q hQ => ?_)
    · have hI2 : ∀ c, c ≠ 0 → c ≠ 1 → c ≠ 2 → c ≠ 3 → (va_up I2 0 (I2 0 + 1)) c = I1 c := fun c c0 c1 c2 c3 => by rw [va_un c0]; exact sI.1 c c1 c2 c3
      refine h1.stepped (tk2 := tk + 1) hI2 sA.1 (fun c c3 c6 c7 c8 => by rw [va_un c6, va_un c3, va_un c8, va_un c7]) (fun c c7 c10 c31 c32 => by rw [va_un c7, va_un c32, va_un c31, va_un c10]) ?_ ?_ ?_ ?_
      · refine ⟨htk, ?_, ?_⟩
        · rw [vu_at, sI.1 0 (by decide) (by decide) (by decide), ht.2.1, nI_1]
        · rw [va_un (by decide), vu_at, va_un (by decide), va_un (by decide), ht.2.2, nI_1]
      · refine ⟨?_, ?_, ?_⟩
        · rw [va_un (by decide), sI.2.1, vu_at, va_un (by decide), va_un (by decide), va_un (by decide), ← hc.1]
          have := lp_add (f := fun i => bI (sDry B1 (nI tk) i)) n 0 (I1 1) 0
          rw [Int32.add_zero] at this
          exact this
        · rw [va_un (by decide), sI.2.2.1, va_un (by decide), va_un (by decide), va_un (by decide), vu_at, ← hc.2.1]
        · rw [va_un (by decide), sI.2.2.2, va_un (by decide), va_un (by decide), vu_at, ← hc.2.2]
      · intro i hi
        obtain ⟨q0, q1, q2⟩ := hmt i hi
        rw [sA.2 i, sA.1 1 (by decide), va_un (by decide), va_un (by decide), va_un (by decide), vu_at, va_un (by decide), va_un (by decide), va_un (by decide), va_un (by decide)]
        refine ⟨?_, q1, q2⟩
        unfold fa_fill
        by_cases c : i < n
        · rw [if_pos c, if_pos c, q0]
        · rw [if_neg c, if_neg c, q0]
      · exact hth.stepped sF
    · rw [va_un (by decide), sI.2.1, hI1 1 (by decide) (by decide) (by decide)]
      have := lp_add (f := fun i => bI (sDry B1 (nI tk) i)) n 0 (I 1) 0
      rw [Int32.add_zero] at this
      exact this
    · refine hM _ ⟨n + 1, M_st1_l hmok (fun Ba hst1 => ⟨n + 1, ?_⟩) n 0 B1 (by omega) ⟨fun _ _ _ _ => rfl, (fa_fill_0 _ _).symm, (fa_fill_0 _ _).symm, (fa_fill_0 _ _).symm⟩⟩
      refine M_st2_l (B1 := Ba) hmok hm hst1 (fun i hi h4 => ?_) (fun Jy By hst2 => ?_) n 0 J1 Ba (by omega) ⟨fun _ _ _ => rfl, rfl, rfl, fun _ _ => rfl, ?_⟩
      · have hti := hth.1 i (by omega)
        rcases hti with ⟨-, e1, -⟩ | ⟨q, -, -, e2⟩
        · rw [e1] at h4; exact absurd h4 (by decide)
        · obtain ⟨-, -, -, g1, g2, g3⟩ := tow_q e2 h4
          exact ⟨g1, g2, by have := g1.2; omega⟩
      · obtain ⟨y1, y2, y3, y4, y5⟩ := hst2
        have eJ := up2 y1 y2 y3
        have eB := up3 hst1.1 hst1.2.1 hst1.2.2.1 hst1.2.2.2
        have eB2 := fr_up y4 y5
        rw [eB] at eB2
        rw [eJ, eB2]
        exact hQ
      · rw [fa_fill_0]; exact hst1.1 7 (by decide) (by decide) (by decide)
theorem C_step_l {P : Int32 → ((Nat → Int32) × (Nat → Nat → Int32) × (Nat → Nat → Int32)) → Prop} {N : Nat} {x2 : Int32} {J0 : Nat → Int32} {B0 : Nat → Nat → Int32} (ha : a1 = nI N) (hN : N ≤ 400) (hk : k ≤ 512)
    (hP : ∀ I A F tk J B x, RelP k tk n m v sh nr sg od bk I A T L K F J B → I 1 = x2 + x → (∀ (Q : Int32 → ((Nat → Int32) × (Nat → Nat → Int32)) → Prop), Q x (J, B) → g_Mo_step_18 a1 Q (fun I_7 A_7 x2_7 => Q x2_7 (I_7, A_7)) (N + 1) J0 B0 0 0) → P (I 1 - x2) (I, A, F)) : ∀ (d i tk : Nat) (I : Nat → Int32) (A F : Nat → Nat → Int32) (J : Nat → Int32) (B : Nat → Nat → Int32) (x : Int32), i + d = N → tk + d ≤ 400 * k → RelP k tk n m v sh nr sg od bk I A T L K F J B → I 1 = x2 + x →
    (∀ (Q : Int32 → ((Nat → Int32) × (Nat → Nat → Int32)) → Prop), g_Mo_step_18 a1 Q (fun I_7 A_7 x2_7 => Q x2_7 (I_7, A_7)) (d + 1) J B x (nI i) → g_Mo_step_18 a1 Q (fun I_7 A_7 x2_7 => Q x2_7 (I_7, A_7)) (N + 1) J0 B0 0 0) →
    g_Pw_step_21 T L K a1 P (fun I_8 A_8 F_8 x2_8 => P ((I_8 1) - x2_8) (I_8, A_8, F_8)) (d + 1) I A F x2 (nI i)
  | 0, i, tk, I, A, F, J, B, x, hi, htk, h, hx, hg => by
    have e : i = N := by omega
    subst e
    exact c2t (lit_le ha (Nat.le_refl _) (by omega)) (hP I A F tk J B x h hx (fun Q q => hg Q (c2t (lit_le ha (Nat.le_refl _) (by omega)) q)))
  | d + 1, i, tk, I, A, F, J, B, x, hi, htk, h, hx, hg => by
    refine c2f (lit_lt ha (by omega) (by omega)) (h.step1 (X := fun I' A' F' => g_Pw_step_21 T L K a1 P (fun I_8 A_8 F_8 x2_8 => P ((I_8 1) - x2_8) (I_8, A_8, F_8)) (d + 1) I' A' F' x2 (nI i + 1)) hk (by omega) (fun I2 A2 F2 J2 B2 r h2 hr hM => ?_))
    rw [nI_1]
    refine C_step_l ha hN hk hP d (i + 1) (tk + 1) I2 A2 F2 J2 B2 (x + r) (by omega) (by omega) h2 (by rw [hr, hx, Int32.add_assoc]) (fun Q q => hg Q (c2f (lit_lt ha (by omega) (by omega)) (hM _ (y1 ?_))))
    rw [nI_1]
    exact q
theorem i_addsub (a b : Int32) : a + b - a = b := by
  rw [Int32.sub_eq_add_neg, Int32.add_comm a b, Int32.add_assoc, Int32.add_right_neg, Int32.add_zero]
theorem op_step (hk : k < 512) (hR : Rel k I A T L K F J B) : g_Pw_step I A T L K F a1 (fun r u => g_Mo_step J B a1 (fun r2 v => r = r2 ∧ Rel (k + 1) u.1 u.2.1 T L K u.2.2 v.1 v.2)) := by
  have hU := hR.up
  refine g_wi (fun h1 => n2f nz1 (y1 ?_)) (fun h1 => n2t rfl (g_mf h1 (n2t rfl ⟨rfl, hU⟩)))
  obtain ⟨N, hN1, hN, ha⟩ := rg_nI (lo := 1) (hi := 400) h1 (by omega) (by omega)
  obtain ⟨tk, n, m, v, sh, nr, sg, od, bk, h⟩ := hR
  have h' : RelP (k + 1) tk n m v sh nr sg od bk I A T L K F J B := ⟨h.1.up, h.2⟩
  have htk := h.1.1
  refine ⟨N + 1, C_step_l (k := k + 1) (N := N) (x2 := I 1) (J0 := J) (B0 := B) ha hN (by omega) (fun I' A' F' tk' J' B' x' h2 hx hm => ?_) N 0 tk I A F J B 0 (by omega) (by omega) h' (Int32.add_zero _).symm (fun Q q => q)⟩
  refine g_mt h1 (n2f nz1 ⟨N + 1, hm _ ⟨?_, tk', n, m, v, sh, nr, sg, od, bk, h2⟩⟩)
  rw [hx, i_addsub]
end SP
