/-! ===== layer 2: seek, the reference; both together ===== -/
section SEEK2
variable {k tk n m v sh nr sg od bk : Nat} {I J : Nat → Int32} {A B : Nat → Nat → Int32} {T : Nat → Option Nat} {L : List Nat} {K : Nat → Nat} {F : Nat → Nat → Int32} {c a2 a3 : Int32} {P : Int32 → ((Nat → Int32) × (Nat → Nat → Int32)) → Prop}
theorem M_keep {X : (Nat → Int32) → (Nat → Nat → Int32) → Int32 → Prop} {x4 : Int32} (hj : J 0 = nI n) (n12 : n ≤ 12) : ∀ (d i : Nat) (B' : Nat → Nat → Int32), i + d = n → (∀ x, x ≠ 35 → B' x = B x) → (∀ j, j < i → B' 35 j = B 13 j) → (∀ B2, (∀ x, x ≠ 35 → B2 x = B x) → (∀ j, j < n → B2 35 j = B 13 j) → X J B2 x4) → g_Mo_seek_32 c a2 a3 P X (d + 1) J B' x4 (nI i)
  | 0, i, B', hi, e1, e2, hX => by
    have e : i = n := by omega
    subst e
    exact c2t (by rw [hj]; exact nI_le (Nat.le_refl _) (by omega)) (hX B' e1 e2)
  | d + 1, i, B', hi, e1, e2, hX => by
    have hin : vp_in (nI i) 12 := vin (by omega) (by omega)
    refine c2f (by rw [hj]; exact nI_ge (by omega) (by omega)) ⟨hin, hin, ?_⟩
    rw [nI_1, nI_clamp (by omega)]
    refine M_keep hj n12 d (i + 1) _ (by omega) (fun x hx => by rw [sA_ne hx]; exact e1 x hx) (fun j hj' => ?_) hX
    rw [sA_at, nI_clamp (by omega)]
    by_cases e : j = i
    · subst e; rw [up_at, e1 13 (by omega)]
    · rw [up_ne e]; exact e2 j (by omega)
theorem M_back {B0 : Nat → Nat → Int32} {h0 : Nat → Int32} {X : (Nat → Int32) → (Nat → Nat → Int32) → Int32 → Prop} {x5 : Int32} (hj : J 0 = nI n) (n12 : n ≤ 12) (h35 : ∀ j, j < n → B0 35 j = h0 j) : ∀ (d i : Nat) (B' : Nat → Nat → Int32), i + d = n → (∀ x, x ≠ 13 → B' x = B0 x) → (∀ j, j < i → B' 13 j = h0 j) → (∀ B2, (∀ x, x ≠ 13 → B2 x = B0 x) → EqN n (B2 13) h0 → X J B2 x5) → g_Mo_seek_268 c a2 a3 P X (d + 1) J B' x5 (nI i)
  | 0, i, B', hi, e1, e2, hX => by
    have e : i = n := by omega
    subst e
    exact c2t (by rw [hj]; exact nI_le (Nat.le_refl _) (by omega)) (hX B' e1 e2)
  | d + 1, i, B', hi, e1, e2, hX => by
    have hin : vp_in (nI i) 12 := vin (by omega) (by omega)
    refine c2f (by rw [hj]; exact nI_ge (by omega) (by omega)) ⟨hin, hin, ?_⟩
    rw [nI_1, nI_clamp (by omega)]
    refine M_back hj n12 h35 d (i + 1) _ (by omega) (fun x hx => by rw [sA_ne hx]; exact e1 x hx) (fun j hj' => ?_) hX
    rw [sA_at, nI_clamp (by omega)]
    by_cases e : j = i
    · subst e; rw [up_at, e1 35 (by omega)]; exact h35 j (by omega)
    · rw [up_ne e]; exact e2 j (by omega)
theorem M_bursts {X : (Nat → Int32) → (Nat → Nat → Int32) → Int32 → Int32 → Prop} {x4 : Int32} (h : RelP k tk n m v sh nr sg od bk I A T L K F J B) (hk : k ≤ 512) (hc : rg c 1 1000) (mu : Nat → Nat) (hmu : ∀ i, i < n → T i = none → mu i = muV n m v sh tk nr B c i) (hm24 : ∀ i, mu i ≤ 240000)
    (hX : ∀ J2 B2 cnt, (∀ x, x ≠ 5 → J2 x = J x) → Like B B2 → (∀ i, i < n → B2 35 i = B 13 i) → Srt (frB B) mu n cnt (B2 33) (B2 34) → X J2 B2 x4 (nI cnt)) : ∀ (d x : Nat) (J' : Nat → Int32) (B' : Nat → Nat → Int32) (cnt : Nat), x + d = n → (∀ x, x ≠ 5 → J' x = J x) → Like B B' → (∀ i, i < n → B' 35 i = B 13 i) → hdB n (B' 13) → Srt (frB B) mu x cnt (B' 33) (B' 34) →
    g_Mo_seek_67 c a2 a3 P X (d + 1) J' B' x4 (nI cnt) (nI x)
  | 0, x, J', B', cnt, hx, eJ, hl, h35, hb, hS => by
    have n12 := h.2.2.1.1
    have e : x = n := by omega
    subst e
    exact c2t (by rw [eJ 0 (by decide), h.2.2.1.2.2.1]; exact nI_le (Nat.le_refl _) (by omega)) (hX J' B' cnt eJ hl h35 hS)
  | d + 1, x, J', B', cnt, hx, eJ, hl, h35, hb, hS => by
    have hn := h.2.2.1
    have n12 := hn.1
    have hin : vp_in (nI x) 12 := vin (by omega) (by omega)
    have hcl : (nI x).toNatClampNeg = x := nI_clamp (by omega)
    have hfr := h.fr_iff (i := x) (by omega)
    refine c2f (by rw [eJ 0 (by decide), hn.2.2.1]; exact nI_ge (by omega) (by omega)) ⟨hin, ?_⟩
    rw [hcl, hl.e (x := 2) (by decide)]
    refine ⟨fun h0 => ?_, fun h0 => ⟨hin, hin, ?_⟩⟩
    · show g_Mo_seek_67 c a2 a3 P X (d + 1) J' B' x4 (nI cnt) (nI x + 1)
      rw [nI_1]
      exact M_bursts h hk hc mu hmu hm24 hX d (x + 1) J' B' cnt (by omega) eJ hl h35 hb (hS.skip (decide_eq_false h0))
    · have hf : frB B x = true := decide_eq_true h0
      have hT := hfr.mp hf
      obtain ⟨q, hq⟩ : ∃ q, q ∉ L := ⟨L.foldr (fun a b => max a b) 0 + 1, fun hm => by
        have : ∀ (l : List Nat) x, x ∈ l → x ≤ l.foldr (fun a b => max a b) 0 := by
          intro l
          induction l with
          | nil => intro x hx; cases hx
          | cons a l ih =>
            intro x hx
            show x ≤ max a _
            rcases List.mem_cons.mp hx with e | e
            · omega
            · have := ih x e; omega
        have := this L _ hm
        omega⟩
      have hN := h.susp (q := q) (A' := va_up A 9 (B' 13)) (B' := B') (J' := J') hk hl (by omega) hT hq hc eJ (fun y hy => va_un (by omega)) (fun j _ => by rw [vu_at]) hb
      have hcg := hN.cfg
      obtain ⟨x1, x2⟩ := wkX_eq (nr := nI nr) hcg
      refine M_work hN.mok hcg hN.2.2.2.2.2.2.2.1 (nI_pos' (by have := hN.2.2.2.2.2.1; omega)) ⟨hin, n + 1, ?_⟩
      show g_Mo_seek_122 c a2 a3 P _ (n + 1) (va_up J' 5 (nI (wkX n m tk (omB (Bs B' x c 17) sh v m) (Bs B' x c) (nI nr)).2.1)) (sA (va_up (Bs B' x c) 13 (wkX n m tk (omB (Bs B' x c 17) sh v m) (Bs B' x c) (nI nr)).1) 2 (nI x) 0) x4 (nI cnt) (nI x) (0 : Int32) (nI 0)
      rw [hl.mS (by omega), hl.mT (by omega)] at x1
      generalize hH : (wkX n m tk (omB (Bs B' x c 17) sh v m) (Bs B' x c) (nI nr)).1 = H at x1 ⊢
      have x1' : EqN n H (hdv n m v sh tk nr B c x) := by
        have e0 : Bs B' x c 0 = B 0 := (BsN (by omega) (by omega)).trans (hl.e (by decide))
        have e17 : Bs B' x c 17 = B 17 := (BsN (by omega) (by omega)).trans (hl.e (by decide))
        have e14 : Bs B' x c 14 = B 14 := (BsN (by omega) (by omega)).trans (hl.e (by decide))
        have e15 : Bs B' x c 15 = B 15 := (BsN (by omega) (by omega)).trans (hl.e (by decide))
        have e16 : Bs B' x c 16 = B 16 := (BsN (by omega) (by omega)).trans (hl.e (by decide))
        rw [e0, e17, e14, e15, e16] at x1
        exact x1
      generalize (wkX n m tk (omB (Bs B' x c 17) sh v m) (Bs B' x c) (nI nr)).2.1 = cs
      generalize hB2 : sA (va_up (Bs B' x c) 13 H) 2 (nI x) 0 = B2
      have b13 : B2 13 = H := by rw [← hB2, sA_ne (by omega), vu_at]
      have bN : ∀ y, y ≠ 2 → y ≠ 3 → y ≠ 13 → B2 y = B' y := fun y y2 y3 y13 => by rw [← hB2, sA_ne y2, va_un y13, BsN y2 y3]
      have b2 : B2 2 = B 2 := by
        rw [← hB2, sA_at, va_un (by omega), Bs2 (by omega), hcl, fa_upd_twice, hl.e (x := 2) (by decide)]
        exact fa_upd_same h0
      have b3 : B2 3 = upd (B' 3) x c := by rw [← hB2, sA_ne (by omega), va_un (by omega), Bs3 (by omega)]
      have hl2 : Like B B2 := by
        refine ⟨fun y y3 y13 y33 y34 y35 => ?_, fun j hj => ?_⟩
        · by_cases y2 : y = 2
          · subst y2; exact b2
          · rw [bN y y2 y3 y13]; exact hl.1 y y3 y13 y33 y34 y35
        · have : j ≠ x := fun e => hj (by rw [e]; exact h0)
          rw [b3, up_ne this]; exact hl.2 j hj
      have eJ2 : ∀ y, y ≠ 5 → va_up J' 5 (nI cs) y = J y := fun y hy => by rw [va_un hy]; exact eJ y hy
      obtain ⟨em, hm⟩ := h.muV_eq hk (i := x) (by omega) hT hc
      refine M_misfit_l (n := n) (by rw [eJ2 0 (by decide)]; exact hn.2.2.1) n12 n 0 0 (by omega) ⟨cnt + 1, ?_⟩
      have eM : lp (fun j x => x + absI (B2 13 j - 10 * B2 0 j - B2 12 j)) n 0 0 = nI (mu x) := by
        rw [hmu x (by omega) hT, ← em, ← mfs_cong x1', b13, hl2.e (x := 0) (by decide), hl2.e (x := 12) (by decide)]
        rfl
      rw [eM]
      have hS2 : Srt (frB B) mu x cnt (B2 33) (B2 34) := by rw [bN 33 (by decide) (by decide) (by decide), bN 34 (by decide) (by decide) (by decide)]; exact hS
      have hcx : cnt ≤ x := by rw [hS.1]; exact fa_cnt_le _ x
      refine M_ins hS2 hf (by omega) hcx (fun i _ => hm24 i) (fun B3 e3 hS3 => ?_) cnt B2 (Nat.le_refl _) (fun _ _ _ => rfl) (fun _ _ => ⟨rfl, rfl⟩) (fun i h1 h2 => absurd h1 (by omega)) (fun i h1 h2 => absurd h1 (by omega))
      refine M_bursts h hk hc mu hmu hm24 hX d (x + 1) _ B3 (cnt + 1) (by omega) eJ2 ⟨fun y y3 y13 y33 y34 y35 => (e3 y y33 y34).trans (hl2.1 y y3 y13 y33 y34 y35), fun j hj => by rw [e3 3 (by decide) (by decide)]; exact hl2.2 j hj⟩ (fun i hi => ?_) ?_ hS3
      · rw [e3 35 (by decide) (by decide), bN 35 (by decide) (by decide) (by decide)]; exact h35 i hi
      · rw [e3 13 (by decide) (by decide), b13]; exact (h.hdv_bd hk (by omega) hT hc).cg x1'.sm
/-- what the reference comes to -/
theorem M_seek {a1 : Int32} (h : RelP k tk n m v sh nr sg od bk I A T L K F J B) (hk : k ≤ 512) (hc : rg a1 1 1000) (h1 : (1 : Int32) ≤ a1 ∧ a1 ≤ 1000) (h3 : (0 : Int32) ≤ a3 ∧ a3 ≤ 1) (mu : Nat → Nat) (hmu : ∀ i, i < n → T i = none → mu i = muV n m v sh tk nr B a1 i) (hm24 : ∀ i, mu i ≤ 240000)
    (hP : ∀ B2 cnt, Like B B2 → EqN n (B2 13) (B 13) → Srt (frB B) mu n cnt (B2 33) (B2 34) → ((¬ inN a2 cnt → P (-6) (J, B2)) ∧ ∀ i, i < cnt → a2 = nI i → ((¬ a3 = 0 → P (B2 34 i) (J, B2)) ∧ (a3 = 0 → P (B2 33 i) (J, B2))))) : g_Mo_seek J B a1 a2 a3 P := by
  have hn := h.2.2.1
  have n12 := hn.1
  refine g_mt h1 (c2f nz1 (g_mt h3 (n2f nz1 (y1 ⟨n + 1, M_keep hn.2.2.1 n12 n 0 B (by omega) (fun _ _ => rfl) (fun j hj => absurd hj (by omega)) fun B1 e1 h35 => ⟨n + 1, ?_⟩⟩))))
  refine M_bursts h hk hc mu hmu hm24 (fun J2 B2 cnt eJ hl h35' hS => ⟨n + 1, ?_⟩) n 0 J B1 0 (by omega) (fun _ _ => rfl) ⟨fun y _ _ _ _ y35 => e1 y y35, fun j _ => by rw [e1 3 (by decide)]⟩ h35 (fun i hi => by rw [e1 13 (by decide)]; exact (hn.2.2.2.2.2 i hi).2) ⟨rfl, fun i hi => absurd hi (by omega)⟩
  have eJJ : va_up J2 5 (J 5) = J := by
    funext y
    by_cases e : y = 5
    · subst e; rw [vu_at]
    · rw [va_un e]; exact eJ y e
  rw [eJJ]
  refine M_back (h0 := B 13) hn.2.2.1 n12 h35' n 0 B2 (by omega) (fun _ _ => rfl) (fun j hj => absurd hj (by omega)) fun B3 e3 h13 => ?_
  have hl3 : Like B B3 := ⟨fun y y3 y13 y33 y34 y35 => (e3 y y13).trans (hl.1 y y3 y13 y33 y34 y35), fun j hj => by rw [e3 3 (by decide)]; exact hl.2 j hj⟩
  have hS3 : Srt (frB B) mu n cnt (B3 33) (B3 34) := by rw [e3 33 (by decide), e3 34 (by decide)]; exact hS
  have hcn : cnt ≤ n := by rw [hS.1]; exact fa_cnt_le _ n
  obtain ⟨p1, p2⟩ := hP B3 cnt hl3 h13 hS3
  by_cases hi : inN a2 cnt
  · obtain ⟨i, hic, rfl⟩ := hi
    have hin : vp_in (nI i) 12 := vin (by omega) (by omega)
    have hcl : (nI i).toNatClampNeg = i := nI_clamp (by omega)
    refine g_inC_t (by omega) rfl hic (n2f nz1 ?_)
    rw [hcl]
    obtain ⟨w1, w2⟩ := p2 i hic rfl
    exact ⟨fun z => ⟨hin, w1 z⟩, fun z => ⟨hin, w2 z⟩⟩
  · exact g_inC_f (by omega) rfl hi (n2t rfl (p1 hi))
/-- all stands again when the seeking is over -/
theorem RelP.sought {A' B' : Nat → Nat → Int32} {q : Nat} (h : RelP k tk n m v sh nr sg od bk I A T L K F J B) (hq : q ∉ L) (hA : ∀ x, x ≠ 6 → x ≠ 9 → x ≠ 10 → x ≠ 11 → x ≠ 12 → x ≠ 14 → x ≠ 15 → x ≠ 16 → A' x = A x) (h9 : EqN n (A' 9) (A 9)) (hl : Like B B') (h13 : EqN n (B' 13) (B 13)) :
    RelP (k + 1) tk n m v sh nr sg od bk I A' T (L ++ [q]) (va_up K q 3) (Fq F q c) J B' := by
  obtain ⟨ht, hct, hn, hm, hv, hnr, hmm, hs, ho, hp, hrw, htm, hmt, hkn, hth⟩ := h
  have e : ∀ x, (x ≠ 6 ∧ x ≠ 9 ∧ x ≠ 10 ∧ x ≠ 11 ∧ x ≠ 12 ∧ x ≠ 14 ∧ x ≠ 15 ∧ x ≠ 16) → A' x = A x := fun x hx => hA x hx.1 hx.2.1 hx.2.2.1 hx.2.2.2.1 hx.2.2.2.2.1 hx.2.2.2.2.2.1 hx.2.2.2.2.2.2.1 hx.2.2.2.2.2.2.2
  refine ⟨ht.up, hct, ?_, ?_, ?_, hnr, ?_, ?_, ?_, ?_, ?_, ?_, ?_, ?_, ?_⟩
  · rw [e 7 (by decide), e 8 (by decide), hl.e (x := 0) (by decide), hl.e (x := 1) (by decide)]
    exact ⟨hn.1, hn.2.1, hn.2.2.1, hn.2.2.2.1, hn.2.2.2.2.1, fun i hi => by rw [h9 i hi, h13 i hi]; exact hn.2.2.2.2.2 i hi⟩
  · rw [e 17 (by decide), e 18 (by decide), e 19 (by decide), hl.e (x := 14) (by decide), hl.e (x := 15) (by decide), hl.e (x := 16) (by decide)]; exact hm
  · rw [e 20 (by decide), e 21 (by decide), hl.e (x := 17) (by decide), hl.e (x := 18) (by decide), hl.e (x := 19) (by decide)]; exact hv
  · rw [e 7 (by decide), e 13 (by decide), e 17 (by decide), e 18 (by decide), e 19 (by decide)]
    intro h8
    obtain ⟨n0, bits, nr0, h0, e1, e2, w0, m1, m2, m3, m4, m5, m6, m7, m8, m9, m10⟩ := hmm h8
    exact ⟨n0, bits, nr0, h0, e1, e2, w0, m1, m2, m3, m4, m5, m6, m7, m8, fun i hi => by rw [h9 i (by omega)]; exact m9 i hi, m10⟩
  · rw [e 22 (by decide), hl.e (x := 23) (by decide)]; exact hs
  · rw [e 23 (by decide), e 24 (by decide), e 35 (by decide), e 36 (by decide), e 37 (by decide), e 38 (by decide), e 39 (by decide), e 40 (by decide), hl.e (x := 24) (by decide), hl.e (x := 25) (by decide), hl.e (x := 26) (by decide)]; exact ho
  · rw [e 25 (by decide), e 26 (by decide), e 27 (by decide), e 28 (by decide), e 29 (by decide), e 30 (by decide), hl.e (x := 27) (by decide), hl.e (x := 28) (by decide), hl.e (x := 29) (by decide)]; exact hp
  · rw [e 3 (by decide), e 31 (by decide), e 32 (by decide), e 33 (by decide), e 34 (by decide), hl.e (x := 20) (by decide), hl.e (x := 21) (by decide), hl.e (x := 22) (by decide)]; exact hrw
  · rw [e 2 (by decide), hl.e (x := 30) (by decide)]; exact htm
  · rw [e 0 (by decide), e 1 (by decide), hl.e (x := 10) (by decide), hl.e (x := 11) (by decide)]; exact hmt
  · rw [e 4 (by decide), hl.e (x := 12) (by decide)]; exact hkn
  · have hth' := hl.th hth
    refine ⟨fun i hi => ?_, hth'.2⟩
    have hti := hth'.1 i hi
    cases hT : T i with
    | none => exact Or.inl ⟨rfl, thI_none hti hT⟩
    | some x =>
      obtain ⟨q1, q2⟩ := thI_some hti hT
      have hx : x ≠ q := fun z => hq (z ▸ q1)
      refine Or.inr ⟨x, rfl, List.mem_append_left _ q1, ?_⟩
      rw [va_un hx, show Fq F q c x = F x from (sF_ne hx).trans ((sF_ne hx).trans (va_un hx))]
      exact q2
theorem op_seek {a1 : Int32} (hk : k < 512) (hR : Rel k I A T L K F J B) : g_Pw_seek I A T L K F a1 a2 a3 (fun r u => g_Mo_seek J B a1 a2 a3 (fun r2 v => r = r2 ∧ Rel (k + 1) I u.1 u.2.1 u.2.2.1 u.2.2.2.1 u.2.2.2.2 v.1 v.2)) := by
  have hU := hR.up
  obtain ⟨tk, n, m, v, sh, nr, sg, od, bk, h⟩ := hR
  refine g_wi (fun h1 => c2f nz1 (g_wi (fun h3 => n2f nz1 ?_) (fun h3 => n2t rfl (g_mt h1 (c2f nz1 (g_mf h3 (n2t rfl ⟨rfl, hU⟩))))))) (fun h1 => c2t rfl (g_mf h1 (c2t rfl ⟨rfl, hU⟩)))
  have hc : rg a1 1 1000 := rg_le h1
  have hn := h.2.2.1
  have n12 := hn.1
  generalize hA0 : va_up A 11 (va_cpy (A 9) (A 11) (0 : Int32).toNatClampNeg (0 : Int32).toNatClampNeg (12 : Int32).toNatClampNeg) = A0
  have eA0 : ∀ x, x ≠ 11 → A0 x = A x := fun x hx => by rw [← hA0]; exact va_un hx
  have e11 : ∀ i, i < 12 → A0 11 i = A 9 i := fun i hi => by
    rw [← hA0, vu_at, show (0 : Int32).toNatClampNeg = 0 from rfl, show (12 : Int32).toNatClampNeg = 12 from rfl]
    unfold va_cpy
    rw [if_pos (by omega), show 0 + (i - 0) = i by omega]
  unfold g_Ne_keepHeads
  rw [hA0]
  intro q hq
  refine ⟨Or.inr rfl, n + 1, ?_⟩
  have hm24 : ∀ i, min 240000 (muV n m v sh tk nr B a1 i) ≤ 240000 := fun i => Nat.min_le_left _ _
  have hmu : ∀ i, i < n → T i = none → min 240000 (muV n m v sh tk nr B a1 i) = muV n m v sh tk nr B a1 i := fun i hi hT => Nat.min_eq_right (h.muV_eq (by omega) hi hT hc).2
  refine C_bursts h (by omega) hq hc eA0 (fun i => min 240000 (muV n m v sh tk nr B a1 i)) hmu (fun A1 eA1 h6 => ?_) n 0 A0 (by omega) (fun _ _ _ _ _ _ _ _ => rfl) (fun j hj => absurd hj (by omega)) (fun i hi => by rw [eA0 9 (by omega)]; obtain ⟨w1, w2⟩ := hn.2.2.2.2.2 i hi; rw [w1]; exact w2)
  show g_Ne_takeBackHeads A1 _
  generalize hA2 : va_up A1 9 (va_cpy (A1 11) (A1 9) (0 : Int32).toNatClampNeg (0 : Int32).toNatClampNeg (12 : Int32).toNatClampNeg) = A2
  have eA2 : ∀ x, x ≠ 9 → A2 x = A1 x := fun x hx => by rw [← hA2]; exact va_un hx
  have e9 : EqN n (A2 9) (A 9) := fun i hi => by
    rw [← hA2, vu_at, show (0 : Int32).toNatClampNeg = 0 from rfl, show (12 : Int32).toNatClampNeg = 12 from rfl]
    unfold va_cpy
    rw [if_pos (by omega), show 0 + (i - 0) = i by omega, eA1 11 (by decide) (by decide) (by decide) (by decide) (by decide) (by decide) (by decide)]
    exact e11 i (by omega)
  unfold g_Ne_takeBackHeads
  rw [hA2]
  have h6' : ∀ i, i < n → A2 6 i = r6 (frB B) (fun i => min 240000 (muV n m v sh tk nr B a1 i)) i := fun i hi => by rw [eA2 6 (by decide)]; exact h6 i hi
  have fin : ∀ B2, Like B B2 → EqN n (B2 13) (B 13) → Rel (k + 1) I A2 T (L ++ [q]) (va_up K q 3) (Fq F q a1) J B2 := fun B2 hl h13 =>
    ⟨tk, n, m, v, sh, nr, sg, od, bk, h.sought hq (fun x x6 x9 x10 x11 x12 x14 x15 x16 => by rw [eA2 x x9, eA1 x x6 x9 x10 x12 x14 x15 x16, eA0 x x11]) e9 hl h13⟩
  refine C_rival (mu := fun i => min 240000 (muV n m v sh tk nr B a1 i)) hn.2.1 n12 (fun i _ => hm24 i) h6' (fun hno => ?_) (fun j hj hf hrk => ?_)
  · refine n2t rfl (M_seek h (by omega) hc h1 h3 _ hmu hm24 fun B2 cnt hl h13 hS => ⟨fun _ => ⟨rfl, fin B2 hl h13⟩, fun i hi e => ?_⟩)
    obtain ⟨j, w1, w2, w3, -, -⟩ := hS.2 i hi
    exact absurd (by rw [e, w3]) (hno j w1 w2)
  · have hjT := (h.fr_iff hj).mp hf
    have hrl : rk (frB B) (fun i => min 240000 (muV n m v sh tk nr B a1 i)) n j < fa_cnt (frB B) n := rk_all hj hf
    have hcl : (nI j).toNatClampNeg = j := nI_clamp (by omega)
    have val6 : A2 6 j = nI (min 240000 (muV n m v sh tk nr B a1 j)) := by rw [h6' j hj]; unfold r6; rw [hf]; rfl
    have both : ∀ r : Int32, (¬ a3 = 0 → r = A2 6 j) → (a3 = 0 → r = nI j) → g_Mo_seek J B a1 a2 a3 (fun r2 v => r = r2 ∧ Rel (k + 1) I A2 T (L ++ [q]) (va_up K q 3) (Fq F q a1) v.1 v.2) := by
      intro r hr1 hr2
      refine M_seek h (by omega) hc h1 h3 _ hmu hm24 fun B2 cnt hl h13 hS => ⟨fun hno => absurd ⟨_, by rw [hS.1]; exact hrl, hrk.symm⟩ hno, fun i hi e => ?_⟩
      obtain ⟨j', w1, w2, w3, w4, w5⟩ := hS.2 i hi
      have hcn : cnt ≤ n := by rw [hS.1]; exact fa_cnt_le _ n
      have : j' = j := by
        refine rk_inj w1 hj w2 hf (w3.trans ?_)
        rw [e] at hrk
        exact ((nI_eq (by have := hS.1; omega) (by omega)).mp hrk).symm
      subst this
      refine ⟨fun z => ⟨?_, fin B2 hl h13⟩, fun z => ⟨?_, fin B2 hl h13⟩⟩
      · rw [hr1 z, val6, w5]
      · rw [hr2 z, w4]
    refine n2f (nI_n6 (by omega)) ⟨fun z => ⟨vin (by omega) (by omega), ?_⟩, fun z => both _ (fun w => absurd z w) (fun _ => rfl)⟩
    rw [hcl]
    exact both _ (fun _ => rfl) (fun w => absurd w z)
end SEEK2
