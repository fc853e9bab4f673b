/-! ===== layer 2: calls on valves ===== -/
theorem Rvalve.add {m v sh x y : Nat} {i10 i11 j2 : Int32} {a20 a21 b17 b18 b19 : Nat → Int32} (h : Rvalve m v sh i10 i11 j2 a20 a21 b17 b18 b19) (hv : v < 12) (hx : x < m) (hy : y < m) (hno : fd (fun i => b17 i = nI x) v 0 = none) :
    Rvalve m (v + 1) sh (i10 + 1) i11 (j2 + 1) (upd a20 i10.toNatClampNeg (nI x)) (upd a21 i10.toNatClampNeg (nI y)) (upd b17 j2.toNatClampNeg (nI x)) (upd b18 j2.toNatClampNeg (nI y)) (upd b19 j2.toNatClampNeg (vp_nar .boolean 0)) := by
  obtain ⟨h0, rfl, rfl, h3, h4, h5, h6⟩ := h
  rw [nI_clamp (by omega)]
  refine ⟨by omega, nI_1 v, nI_1 v, h3, by rw [Nat.pow_succ]; omega, fun i hi => ?_, fun i j hi hj e => ?_⟩
  · by_cases e : i = v
    · subst e; rw [up_at, up_at, up_at, up_at, up_at, Nat.testBit_lt_two_pow h4]; exact ⟨rfl, rfl, rfl, ⟨x, hx, rfl⟩, y, hy, rfl⟩
    · rw [up_ne e, up_ne e, up_ne e, up_ne e, up_ne e]; exact h5 i (by omega)
  · by_cases ei : i = v
    · by_cases ej : j = v
      · omega
      · subst ei
        rw [up_at, up_ne ej] at e
        have := fd_none hno j (by omega) (by omega)
        simp [← e] at this
    · by_cases ej : j = v
      · subst ej
        rw [up_at, up_ne ei] at e
        have := fd_none hno i (by omega) (by omega)
        simp [e] at this
      · rw [up_ne ei, up_ne ej] at e
        exact h6 i j (by omega) (by omega) e
theorem nI_xor (a b : Nat) : nI a ^^^ nI b = nI (a ^^^ b) := fb_xorI a b
theorem shl1 {j : Nat} (hj : j < 32) : (1 : Int32) <<< (nI j &&& 31) = nI (2 ^ j) := by
  have : ∀ j, j < 32 → (1 : Int32) <<< (nI j &&& 31) = nI (2 ^ j) := by decide +kernel
  exact this j hj
theorem xor_lt {a j v : Nat} (ha : a < 2 ^ v) (hj : j < v) : a ^^^ 2 ^ j < 2 ^ v := Nat.xor_lt_two_pow ha (Nat.pow_lt_pow_right (by omega) hj)
theorem Rvalve.turn {m v sh j : Nat} {i10 i11 j2 x : Int32} {a20 a21 b17 b18 b19 : Nat → Int32} (h : Rvalve m v sh i10 i11 j2 a20 a21 b17 b18 b19) (hj : j < v) (hx : x = bI (!sh.testBit j)) :
    Rvalve m v (sh ^^^ 2 ^ j) i10 (i11 ^^^ ((1 : Int32) <<< (nI j &&& 31))) j2 a20 a21 b17 b18 (upd b19 (nI j).toNatClampNeg x) := by
  obtain ⟨h0, h1, h2, rfl, h4, h5, h6⟩ := h
  rw [nI_clamp (by omega), shl1 (by omega), nI_xor]
  refine ⟨h0, h1, h2, rfl, xor_lt h4 hj, fun i hi => ?_, h6⟩
  obtain ⟨q1, q2, q3, q4⟩ := h5 i hi
  refine ⟨q1, q2, ?_, q4⟩
  rw [fb_bit_flip]
  by_cases e : i = j
  · subst e; rw [up_at, hx]; simp
  · rw [up_ne e, q3]; simp [e]
theorem C_turnValve {I : Nat → Int32} {sh j : Nat} {P : Int32 → (Nat → Int32) → Prop} (hs : I 11 = nI sh) (hj : j < 31) (h : P (bI (!sh.testBit j)) (va_up I 11 (I 11 ^^^ ((1 : Int32) <<< (nI j &&& 31))))) : g_Pi_turnValve I (nI j) P := by
  refine g_isShut (x := sh ^^^ 2 ^ j) (j := j) ?_ rfl hj ?_
  · show I 11 ^^^ ((1 : Int32) <<< (nI j &&& 31)) = _
    rw [hs, shl1 (by omega), nI_xor]
  · rw [fb_bit_flip]
    refine g_bitB ?_
    simp only [decide_true, Bool.xor_true]
    exact h
/-- wrong valves: the i-th, or how many -/
def wrg (f g : Nat → Int32) (a : Int32) : Nat → Nat → Int32 → Option Nat × Int32
  | 0, _, c => (none, c)
  | d + 1, j, c => if f j = g j then wrg f g a d (j + 1) c else if c = a then (some j, c) else wrg f g a d (j + 1) (c + 1)
theorem wrg_cong {f g f2 g2 : Nat → Int32} {a : Int32} : ∀ (d j : Nat) (c : Int32), (∀ i, j ≤ i → i < j + d → f i = f2 i ∧ g i = g2 i) → wrg f g a d j c = wrg f2 g2 a d j c
  | 0, _, _, _ => rfl
  | d + 1, j, c, h => by
    obtain ⟨e1, e2⟩ := h j (Nat.le_refl _) (by omega)
    unfold wrg
    rw [e1, e2, wrg_cong d (j + 1) c (fun i h1 h2 => h i (by omega) (by omega)), wrg_cong d (j + 1) (c + 1) (fun i h1 h2 => h i (by omega) (by omega))]
theorem C_wrong_l {I : Nat → Int32} {A : Nat → Nat → Int32} {v : Nat} {a : Int32} {P : Int32 → Prop} {X : Int32 → Prop} (hv : I 10 = nI v) (hv12 : v ≤ 12) : ∀ (d j : Nat) (c : Int32), j + d = v → ((wrg (A 20) (A 21) a d j c).1 = none → X (wrg (A 20) (A 21) a d j c).2) → (∀ i, (wrg (A 20) (A 21) a d j c).1 = some i → P (nI i)) → g_Pi_wrongValve_4 I A a P X (d + 1) c (nI j)
  | 0, j, c, hj, h1, _ => c2t (lit_le hv (by omega) (by omega)) (h1 rfl)
  | d + 1, j, c, hj, h1, h2 => by
    refine c2f (lit_lt hv (by omega) (by omega)) ⟨vin (by omega) (by omega), vin (by omega) (by omega), ?_⟩
    rw [nI_clamp (by omega)]
    unfold wrg at h1 h2
    by_cases e : A 20 j = A 21 j
    · refine c2t e ?_
      show g_Pi_wrongValve_4 I A a P X (d + 1) c (nI j + 1)
      rw [nI_1]
      rw [if_pos e] at h1 h2
      exact C_wrong_l hv hv12 d (j + 1) c (by omega) h1 h2
    · refine c2f e ?_
      rw [if_neg e] at h1 h2
      by_cases q : c = a
      · rw [if_pos q] at h2
        exact n2t q (h2 j rfl)
      · rw [if_neg q] at h1 h2
        refine n2f q ?_
        show g_Pi_wrongValve_4 I A a P X (d + 1) (c + 1) (nI j + 1)
        rw [nI_1]
        exact C_wrong_l hv hv12 d (j + 1) (c + 1) (by omega) h1 h2
theorem M_wrong_l {I : Nat → Int32} {A : Nat → Nat → Int32} {v : Nat} {a : Int32} {P : Int32 → Prop} {X : Int32 → Prop} (hv : I 2 = nI v) (hv12 : v ≤ 12) : ∀ (d j : Nat) (c : Int32), j + d = v → ((wrg (A 17) (A 18) a d j c).1 = none → X (wrg (A 17) (A 18) a d j c).2) → (∀ i, (wrg (A 17) (A 18) a d j c).1 = some i → P (nI i)) → g_Mo_wrong_4 I A a P X (d + 1) c (nI j)
  | 0, j, c, hj, h1, _ => c2t (lit_le hv (by omega) (by omega)) (h1 rfl)
  | d + 1, j, c, hj, h1, h2 => by
    refine c2f (lit_lt hv (by omega) (by omega)) ⟨vin (by omega) (by omega), vin (by omega) (by omega), ?_⟩
    rw [nI_clamp (by omega)]
    unfold wrg at h1 h2
    by_cases e : A 17 j = A 18 j
    · refine c2t e ?_
      show g_Mo_wrong_4 I A a P X (d + 1) c (nI j + 1)
      rw [nI_1]
      rw [if_pos e] at h1 h2
      exact M_wrong_l hv hv12 d (j + 1) c (by omega) h1 h2
    · refine c2f e ?_
      rw [if_neg e] at h1 h2
      by_cases q : c = a
      · rw [if_pos q] at h2
        exact n2t q (h2 j rfl)
      · rw [if_neg q] at h1 h2
        refine n2f q ?_
        show g_Mo_wrong_4 I A a P X (d + 1) (c + 1) (nI j + 1)
        rw [nI_1]
        exact M_wrong_l hv hv12 d (j + 1) (c + 1) (by omega) h1 h2
theorem Rvalve.mend {m v sh j : Nat} {i10 i11 j2 : Int32} {a20 a21 b17 b18 b19 : Nat → Int32} (h : Rvalve m v sh i10 i11 j2 a20 a21 b17 b18 b19) (hj : j < v) :
    Rvalve m v sh i10 i11 j2 a20 (upd a21 (nI j).toNatClampNeg (a20 (nI j).toNatClampNeg)) b17 (upd b18 (nI j).toNatClampNeg (b17 (nI j).toNatClampNeg)) b19 := by
  obtain ⟨h0, h1, h2, h3, h4, h5, h6⟩ := h
  rw [nI_clamp (by omega)]
  refine ⟨h0, h1, h2, h3, h4, fun i hi => ?_, h6⟩
  obtain ⟨q1, q2, q3, q4, q5⟩ := h5 i hi
  by_cases e : i = j
  · subst e; rw [up_at, up_at]; exact ⟨q1, q1, q3, q4, q4⟩
  · rw [up_ne e, up_ne e]; exact ⟨q1, q2, q3, q4, q5⟩
section OPS3
variable {k : Nat} {I : Nat → Int32} {A : Nat → Nat → Int32} {T : Nat → Option Nat} {L : List Nat} {K : Nat → Nat} {F : Nat → Nat → Int32} {J : Nat → Int32} {B : Nat → Nat → Int32} {a1 a2 a3 : Int32}
theorem op_valve (hR : Rel k I A T L K F J B) : g_Pw_valve I A a1 a2 (fun r u => g_Mo_valve J B a1 a2 (fun r2 v => r = r2 ∧ Rel (k + 1) u.1 u.2 T L K F v.1 v.2)) := by
  have hU := hR.up
  obtain ⟨tk, n, m, v, sh, nr, sg, od, bk, ht, hc, hn, hm, hv, hnr, hmm, hs, ho, hp, hrw, htm, hmt, hkn, hth⟩ := hR
  obtain ⟨m18, hi9, hj1, hms⟩ := id hm
  obtain ⟨v12, hi10, hj2, hi11, hsh, hvs, hvi⟩ := id hv
  refine g_hasMain m18 hi9 (fun x hx e1 => ?_) (fun h => ?_)
  · subst e1
    refine c2f nz1 (g_hasMain m18 hi9 (fun y hy e2 => ?_) (fun h => ?_))
    · subst e2
      refine c2f nz1 ?_
      by_cases hfull : v = 12
      · refine c2f (cnt_nlt (N := 12) hi10 (by omega) (by omega)) ?_
        exact m_mainT m18 hj1 hx (c2f nz1 (m_mainT m18 hj1 hy (n2f nz1 (n2t (by rw [hj2, hfull]; rfl) ⟨rfl, hU⟩))))
      · have hlt : v < 12 := by omega
        have hin : vp_in (I 10) 12 := by rw [hi10]; exact vin hlt (by omega)
        have hin2 : vp_in (J 2) 12 := by rw [hj2]; exact vin hlt (by omega)
        refine c2t (cnt_lt (N := 12) hi10 (by omega) hlt) (C_valveIn hi10 v12 rfl ?_)
        rw [fdOn_eq hv]
        cases e : fd (fun i => decide (B 17 i = nI x)) v 0 with
        | some i =>
          have hi := fd_lt e
          refine n2f (m6_nI (by omega)) ?_
          exact m_mainT m18 hj1 hx (c2f nz1 (m_mainT m18 hj1 hy (n2f nz1 (n2f (cnt_ne (N := 12) hj2 (by omega) hlt) (M_valveOn hj2 v12 (by rw [e]; exact c2t (nI_pos' (by omega)) ⟨rfl, hU⟩))))))
        | none =>
          refine n2t rfl (C_valveIn hi10 v12 rfl ?_)
          rw [fdMap_eq hv]
          cases e2 : fd (fun i => decide (B 18 i = nI y)) v 0 with
          | some i =>
            have hi := fd_lt e2
            refine c2f (m6_nI (by omega)) ?_
            exact m_mainT m18 hj1 hx (c2f nz1 (m_mainT m18 hj1 hy (n2f nz1 (n2f (cnt_ne (N := 12) hj2 (by omega) hlt) (M_valveOn hj2 v12 (by
              rw [e]
              exact c2f (by decide) (M_valveByMap hj2 v12 (by rw [e2]; exact c2f (nI_pos (by omega)) ⟨rfl, hU⟩))))))))
          | none =>
            refine c2t rfl ⟨hin, hin, ?_⟩
            refine m_mainT m18 hj1 hx (c2f nz1 (m_mainT m18 hj1 hy (n2f nz1 (n2f (cnt_ne (N := 12) hj2 (by omega) hlt) (M_valveOn hj2 v12 ?_)))))
            rw [e]
            refine c2f (by decide) (M_valveByMap hj2 v12 ?_)
            rw [e2]
            refine c2t (by decide) ⟨hin2, hin2, hin2, ?_, ?_⟩
            · show I 10 = J 2 + 1 - 1
              rw [cnt_sub hj2, hj2, hi10]
            · exact ⟨tk, n, m, v + 1, sh, nr, sg, od, bk, ht.up, hc, hn, hm, hv.add hlt hx hy e, hnr, hmm, hs, ho, hp, hrw, htm, hmt, hkn, hth⟩
    · exact c2t rfl (m_mainT m18 hj1 hx (c2f nz1 (m_mainF m18 hj1 h (n2t rfl ⟨rfl, hU⟩))))
  · exact c2t rfl (m_mainF m18 hj1 h (c2t rfl ⟨rfl, hU⟩))
theorem op_turn (hR : Rel k I A T L K F J B) : g_Pw_turn I a1 (fun r u => g_Mo_turn J B a1 (fun r2 v => r = r2 ∧ Rel (k + 1) u A T L K F J v)) := by
  have hU := hR.up
  obtain ⟨tk, n, m, v, sh, nr, sg, od, bk, ht, hc, hn, hm, hv, hnr, hmm, hs, ho, hp, hrw, htm, hmt, hkn, hth⟩ := hR
  obtain ⟨v12, hi10, hj2, hi11, hsh, hvs, hvi⟩ := id hv
  refine g_hasValve v12 hi10 (fun x hx e1 => ?_) (fun h => ?_)
  · subst e1
    refine c2f nz1 (C_turnValve hi11 (by omega) ?_)
    have hin : vp_in (nI x) 12 := vin (by omega) (by omega)
    have hb := (hvs x hx).2.2.1
    refine m_valveT v12 hj2 hx (n2f nz1 ⟨hin, ?_⟩)
    rw [nI_clamp (by omega), hb]
    cases e : sh.testBit x
    · refine n2t rfl ⟨hin, hin, ?_⟩
      rw [sA_at, up_at]
      exact c2f nz1 ⟨rfl, tk, n, m, v, sh ^^^ 2 ^ x, nr, sg, od, bk, ht.up, hc, hn, hm, hv.turn hx (by rw [e]; rfl), hnr, hmm, hs, ho, hp, hrw, htm, hmt, hkn, hth⟩
    · refine n2f nz1 ⟨hin, hin, ?_⟩
      rw [sA_at, up_at]
      exact c2t rfl ⟨rfl, tk, n, m, v, sh ^^^ 2 ^ x, nr, sg, od, bk, ht.up, hc, hn, hm, hv.turn hx (by rw [e]; rfl), hnr, hmm, hs, ho, hp, hrw, htm, hmt, hkn, hth⟩
  · exact c2t rfl (m_valveF v12 hj2 h (n2t rfl ⟨rfl, hU⟩))
theorem bI_split {Q : Int32 → Prop} {b : Bool} (h : Q (bI b)) : (bI b = 0 → Q 0) ∧ (¬ bI b = 0 → Q 1) := by
  cases b
  · exact c2t rfl h
  · exact c2f nz1 h
theorem M_openMap {v : Nat} {a : Int32} {P : Int32 → Prop} (hv : I 2 = nI v) (hv12 : v ≤ 12) (h : P (bI (opnM (A 19) (fd (fun i => A 18 i = a) v 0)))) : g_Mo_valveByMap I A a (fun r7 => ((r7 < 0 → P 1) ∧ (¬ r7 < 0 → (vp_in r7 12 ∧ ((¬ (A 19 r7.toNatClampNeg) = 0 → P 0) ∧ ((A 19 r7.toNatClampNeg) = 0 → P 1)))))) := by
  refine M_valveByMap hv hv12 ?_
  cases e : fd (fun i => decide (A 18 i = a)) v 0 with
  | none => rw [e] at h; exact c2t (by decide) h
  | some i =>
    rw [e] at h
    have hi := fd_lt e
    refine c2f (nI_pos (by omega)) ⟨vin (by omega) (by omega), ?_⟩
    rw [show (oN (some i)).toNatClampNeg = i from nI_clamp (by omega)]
    by_cases e2 : A 19 i = 0
    · simp only [opnM, e2, decide_true] at h; exact n2t e2 h
    · simp only [opnM, e2, decide_false] at h; exact n2f e2 h
theorem op_ofMain (hR : Rel k I A T L K F J B) : g_Pw_ofMain I A a1 a2 (fun r => g_Mo_ofMain J B a1 a2 (fun r2 => r = r2 ∧ Rel (k + 1) I A T L K F J B)) := by
  have hU := hR.up
  obtain ⟨tk, n, m, v, sh, nr, sg, od, bk, ht, hc, hn, hm, hv, hnr, hmm, hs, ho, hp, hrw, htm, hmt, hkn, hth⟩ := hR
  obtain ⟨m18, hi9, hj1, hms⟩ := id hm
  obtain ⟨v12, hi10, hj2, hi11, hsh, hvs, hvi⟩ := id hv
  refine g_hasMain m18 hi9 (fun x hx e1 => ?_) (fun h => ?_)
  · subst e1
    have hin : vp_in (nI x) 18 := vin (by omega) (by omega)
    have hcl : (nI x).toNatClampNeg = x := nI_clamp (by omega)
    obtain ⟨w1, w2, w3, -⟩ := hms x hx
    refine n2f nz1 ⟨fun e => ?_, fun e => ?_, fun e => ?_, fun e => ?_, fun e => ?_, fun e => ?_, fun n0 n1 n2 n3 n4 n5 => ?_⟩
    · subst e
      refine C_isOpen hi10 v12 hi11 (g_bitB ?_)
      rw [fdOn_eq hv]
      refine m_mainT m18 hj1 hx (n2f nz1 ⟨fun _ => M_isOpen hj2 v12 ?_, fun q => absurd q (by decide), fun q => absurd q (by decide), fun q => absurd q (by decide), fun q => absurd q (by decide), fun q => absurd q (by decide), fun z _ _ _ _ _ => absurd rfl z⟩)
      rw [opn_eq hv (fun i q => fd_lt q)]
      exact bI_split (Q := fun r => _ = r ∧ _) ⟨rfl, hU⟩
    · subst e
      refine C_isOpenByMap hi10 v12 hi11 (g_bitB ?_)
      rw [fdMap_eq hv]
      refine m_mainT m18 hj1 hx (n2f nz1 ⟨fun q => absurd q (by decide), fun _ => M_openMap hj2 v12 (P := fun r2 => _ = r2 ∧ _) ?_, fun q => absurd q (by decide), fun q => absurd q (by decide), fun q => absurd q (by decide), fun q => absurd q (by decide), fun _ z _ _ _ _ => absurd rfl z⟩)
      rw [opn_eq hv (fun i q => fd_lt q)]
      exact ⟨rfl, hU⟩
    · subst e
      refine ⟨hin, m_mainT m18 hj1 hx (n2f nz1 ⟨fun q => absurd q (by decide), fun q => absurd q (by decide), fun _ => ⟨hin, ?_⟩, fun q => absurd q (by decide), fun q => absurd q (by decide), fun q => absurd q (by decide), fun _ _ z _ _ _ => absurd rfl z⟩)⟩
      rw [hcl, w3]; exact ⟨rfl, hU⟩
    · subst e
      refine ⟨hin, m_mainT m18 hj1 hx (n2f nz1 ⟨fun q => absurd q (by decide), fun q => absurd q (by decide), fun q => absurd q (by decide), fun _ => ⟨hin, ?_⟩, fun q => absurd q (by decide), fun q => absurd q (by decide), fun _ _ _ z _ _ => absurd rfl z⟩)⟩
      rw [hcl, w1]; exact ⟨rfl, hU⟩
    · subst e
      refine ⟨hin, m_mainT m18 hj1 hx (n2f nz1 ⟨fun q => absurd q (by decide), fun q => absurd q (by decide), fun q => absurd q (by decide), fun q => absurd q (by decide), fun _ => ⟨hin, ?_⟩, fun q => absurd q (by decide), fun _ _ _ _ z _ => absurd rfl z⟩)⟩
      rw [hcl, w2]; exact ⟨rfl, hU⟩
    · subst e
      refine C_valveIn hi10 v12 rfl ?_
      rw [fdOn_eq hv]
      exact m_mainT m18 hj1 hx (n2f nz1 ⟨fun q => absurd q (by decide), fun q => absurd q (by decide), fun q => absurd q (by decide), fun q => absurd q (by decide), fun q => absurd q (by decide), fun _ => M_valveOn hj2 v12 ⟨rfl, hU⟩, fun _ _ _ _ _ z => absurd rfl z⟩)
    · exact m_mainT m18 hj1 hx (n2f nz1 ⟨fun q => absurd q n0, fun q => absurd q n1, fun q => absurd q n2, fun q => absurd q n3, fun q => absurd q n4, fun q => absurd q n5, fun _ _ _ _ _ _ => ⟨rfl, hU⟩⟩)
  · exact n2t rfl (m_mainF m18 hj1 h (n2t rfl ⟨rfl, hU⟩))
theorem op_wrong (hR : Rel k I A T L K F J B) : g_Pw_wrong I A a1 (fun r => g_Mo_wrong J B a1 (fun r2 => r = r2 ∧ Rel (k + 1) I A T L K F J B)) := by
  have hU := hR.up
  obtain ⟨tk, n, m, v, sh, nr, sg, od, bk, ht, hc, hn, hm, hv, hnr, hmm, hs, ho, hp, hrw, htm, hmt, hkn, hth⟩ := hR
  obtain ⟨v12, hi10, hj2, hi11, hsh, hvs, hvi⟩ := id hv
  have hw : wrg (A 20) (A 21) a1 v 0 0 = wrg (B 17) (B 18) a1 v 0 0 := wrg_cong _ _ _ (fun i _ hi => by
    obtain ⟨q1, q2, -⟩ := hvs i (by omega)
    exact ⟨q1, q2⟩)
  refine ⟨v + 1, C_wrong_l hi10 v12 v 0 0 (by omega) (fun q => ?_) (fun i q => ?_)⟩
  · rw [hw] at q ⊢
    refine ⟨fun e => ?_, fun e => ?_⟩
    · exact ⟨v + 1, M_wrong_l hj2 v12 v 0 0 (by omega) (fun _ => n2f e ⟨rfl, hU⟩) (fun i q2 => by rw [q] at q2; cases q2)⟩
    · exact ⟨v + 1, M_wrong_l hj2 v12 v 0 0 (by omega) (fun _ => n2t e ⟨rfl, hU⟩) (fun i q2 => by rw [q] at q2; cases q2)⟩
  · rw [hw] at q
    exact ⟨v + 1, M_wrong_l hj2 v12 v 0 0 (by omega) (fun q2 => by rw [q] at q2; cases q2) (fun i2 q2 => by rw [q] at q2; cases q2; exact ⟨rfl, hU⟩)⟩
theorem op_mend (hR : Rel k I A T L K F J B) : g_Pw_mend I A a1 (fun r u => g_Mo_mend J B a1 (fun r2 v => r = r2 ∧ Rel (k + 1) I u T L K F J v)) := by
  have hU := hR.up
  obtain ⟨tk, n, m, v, sh, nr, sg, od, bk, ht, hc, hn, hm, hv, hnr, hmm, hs, ho, hp, hrw, htm, hmt, hkn, hth⟩ := hR
  obtain ⟨v12, hi10, hj2, hi11, hsh, hvs, hvi⟩ := id hv
  refine g_hasValve v12 hi10 (fun x hx e1 => ?_) (fun h => ?_)
  · subst e1
    have hin : vp_in (nI x) 12 := vin (by omega) (by omega)
    have hcl : (nI x).toNatClampNeg = x := nI_clamp (by omega)
    obtain ⟨w1, w2, -⟩ := hvs x hx
    refine c2f nz1 ⟨hin, C_valveIn hi10 v12 rfl ?_⟩
    rw [fdMap_eq hv, hcl, w1]
    have hD : ∀ {P : Int32 → (Nat → Nat → Int32) → Prop}, P (B 18 x) (sA B 18 (nI x) (B 17 x)) → g_Mo_mend_33 J (nI x) P B := by
      intro P hP
      refine ⟨hin, y1 ⟨hin, hin, ?_⟩⟩
      rw [hcl]; exact hP
    have hC : ∀ {P : Int32 → (Nat → Nat → Int32) → Prop}, P (B 18 x) (sA A 21 (nI x) (A 20 (nI x).toNatClampNeg)) → g_Pi_mendMap_25 I (nI x) P A := by
      intro P hP
      refine ⟨hin, y1 ⟨hin, hin, ?_⟩⟩
      rw [hcl, w2]; rw [hcl] at hP; exact hP
    have hE : Rel (k + 1) I (sA A 21 (nI x) (A 20 (nI x).toNatClampNeg)) T L K F J (sA B 18 (nI x) (B 17 (nI x).toNatClampNeg)) :=
      ⟨tk, n, m, v, sh, nr, sg, od, bk, ht.up, hc, hn, hm, hv.mend hx, hnr, hmm, hs, ho, hp, hrw, htm, hmt, hkn, hth⟩
    cases e : fd (fun i => decide (B 18 i = B 17 x)) v 0 with
    | none =>
      refine c2t rfl (hC (m_valveT v12 hj2 hx (n2f nz1 ⟨hin, M_valveByMap hj2 v12 ?_⟩)))
      rw [hcl, e]
      refine c2t (by decide) (hD ⟨rfl, ?_⟩)
      rw [hcl] at hE; exact hE
    | some i =>
      have hi := fd_lt e
      refine c2f (m6_nI (by omega)) ?_
      by_cases hix : i = x
      · subst hix
        refine c2t rfl (hC (m_valveT v12 hj2 hx (n2f nz1 ⟨hin, M_valveByMap hj2 v12 ?_⟩)))
        rw [hcl, e]
        refine c2f (nI_pos (by omega)) (c2t rfl (hD ⟨rfl, ?_⟩))
        rw [hcl] at hE; exact hE
      · have hne : ¬ nI i = nI x := by rw [nI_eq (by omega) (by omega)]; exact hix
        refine c2f hne (m_valveT v12 hj2 hx (n2f nz1 ⟨hin, M_valveByMap hj2 v12 ?_⟩))
        rw [hcl, e]
        exact c2f (nI_pos (by omega)) (c2f hne ⟨rfl, hU⟩)
  · exact c2t rfl (m_valveF v12 hj2 h (n2t rfl ⟨rfl, hU⟩))
end OPS3
