/-! ===== layer 2: near, press, flow, told, terms, meters, signs, blocks ===== -/
section OPS6
variable {k : Nat} {I : Nat → Int32} {A : Nat → Nat → Int32} {T : Nat → Option Nat} {L : List Nat} {K : Nat → Nat} {F : Nat → Nat → Int32} {J : Nat → Int32} {B : Nat → Nat → Int32} {a1 a2 a3 a4 a5 : Int32}
theorem op_near (hR : Rel k I A T L K F J B) : g_Pw_near I a1 (fun r u => g_Mo_near J a1 (fun r2 v => r = r2 ∧ Rel (k + 1) u A T L K F v B)) := by
  have hU := hR.up
  obtain ⟨tk, n, m, v, sh, nr, sg, od, bk, ht, hc, hn, hm, hv, hnr, hmm, hs, ho, hp, hrw, htm, hmt, hkn, hth⟩ := hR
  refine g_wi (fun h => n2f nz1 (y1 (g_mt h (n2f nz1 (y1 ⟨?_, ?_⟩))))) (fun h => n2t rfl (g_mf h (n2t rfl ⟨rfl, hU⟩)))
  · rw [hnr.2.1, hnr.2.2.1]
  · obtain ⟨x, -, hx, e⟩ := rg_nI (lo := 0) (hi := 100) h (by omega) (by omega)
    exact ⟨tk, n, m, v, sh, x, sg, od, bk, ht.up, hc, hn, hm, hv, ⟨hx, e, e, hnr.2.2.2⟩, hmm, hs, ho, hp, hrw, htm, hmt, hkn, hth⟩
theorem op_press (hR : Rel k I A T L K F J B) : g_Pw_press I A a1 a2 (fun r => g_Mo_press J B a1 a2 (fun r2 => r = r2 ∧ Rel (k + 1) I A T L K F J B)) := by
  have hU := hR.up
  obtain ⟨tk, n, m, v, sh, nr, sg, od, bk, ht, hc, hn, hm, hv, hnr, hmm, hs, ho, hp, hrw, htm, hmt, hkn, hth⟩ := hR
  obtain ⟨n12, hi4, hj0, hh, hd, hhd⟩ := id hn
  refine g_has n12 hi4 (fun i hi e => ?_) (fun h => ?_)
  · subst e
    have hin : vp_in (nI i) 12 := vin (by omega) (by omega)
    have hcl : (nI i).toNatClampNeg = i := nI_clamp (by omega)
    have w7 := (hh i (by omega)).1
    have w9 := (hhd i hi).1
    refine n2f nz1 (g_wi (fun h => n2f nz1 ⟨fun h0 => ?_, fun h0 => ?_⟩) (fun h => n2t rfl ?_))
    · have e1 : a2 = 1 := by
        obtain ⟨x, -, hx, rfl⟩ := rg_nI (lo := 0) (hi := 1) h (by omega) (by omega)
        rcases (show x = 0 ∨ x = 1 by omega) with rfl | rfl
        · exact absurd rfl h0
        · rfl
      refine ⟨hin, hin, m_nodeT n12 hj0 hi (n2f nz1 (n2f h0 (n2t e1 ⟨hin, hin, ?_⟩)))⟩
      rw [hcl, w7, w9]; exact ⟨rfl, hU⟩
    · refine ⟨hin, m_nodeT n12 hj0 hi (n2f nz1 (n2t h0 ⟨hin, ?_⟩))⟩
      rw [hcl, w9]; exact ⟨rfl, hU⟩
    · refine m_nodeT n12 hj0 hi (n2f nz1 (n2f (fun z => h ?_) (n2f (fun z => h ?_) ⟨rfl, hU⟩)))
      · rw [z]; decide
      · rw [z]; decide
  · exact n2t rfl (m_nodeF n12 hj0 h (n2t rfl ⟨rfl, hU⟩))
/-- the flow of a main -/
def flw (e1 e2 w h : Nat → Int32) (j : Nat) : Int32 := w j * (h (e1 j).toNatClampNeg - h (e2 j).toNatClampNeg) / 1000
theorem C_flowOf {P : Int32 → Prop} {n m j : Nat} (n12 : n ≤ 12) (hm : Rmain n m (I 9) (J 1) (A 17) (A 18) (A 19) (B 14) (B 15) (B 16)) (hj : j < m) (p : P (flw (A 17) (A 18) (A 19) (A 9) j)) : g_Ne_flowOf A (nI j) P := by
  obtain ⟨m18, hi9, hj1, hms⟩ := hm
  obtain ⟨q1, q2, q3, x, y, w, hx, hy, -, -, -, ex, ey, ew⟩ := hms j hj
  have hin : vp_in (nI j) 18 := vin (by omega) (by omega)
  have hcl : (nI j).toNatClampNeg = j := nI_clamp (by omega)
  refine ⟨hin, hin, ?_, hin, ?_, ?_⟩
  · rw [hcl, q1, ex]; exact vin (by omega) (by omega)
  · rw [hcl, q2, ey]; exact vin (by omega) (by omega)
  · rw [hcl]; exact p
theorem M_flowOf {P : Int32 → Prop} {n m v j : Nat} (n12 : n ≤ 12) (hm : Rmain n m (I 9) (J 1) (A 17) (A 18) (A 19) (B 14) (B 15) (B 16)) (hv12 : v ≤ 12) (hv : J 2 = nI v) (hj : j < m) (p : P (if opnM (B 19) (fd (fun i => B 17 i = nI j) v 0) then flw (B 14) (B 15) (B 16) (B 13) j else 0)) : g_Mo_flowOf J B (nI j) P := by
  obtain ⟨m18, hi9, hj1, hms⟩ := hm
  obtain ⟨q1, q2, q3, x, y, w, hx, hy, -, -, -, ex, ey, ew⟩ := hms j hj
  have hin : vp_in (nI j) 18 := vin (by omega) (by omega)
  have hcl : (nI j).toNatClampNeg = j := nI_clamp (by omega)
  refine M_isOpen hv hv12 ?_
  cases e : opnM (B 19) (fd (fun i => decide (B 17 i = nI j)) v 0)
  · rw [e] at p; exact c2t rfl p
  · rw [e] at p
    refine c2f nz1 ⟨hin, hin, ?_, hin, ?_, ?_⟩
    · rw [hcl, ex]; exact vin (by omega) (by omega)
    · rw [hcl, ey]; exact vin (by omega) (by omega)
    · rw [hcl]; exact p
theorem flw_eq {n m j : Nat} {i9 j1 : Int32} {a17 a18 a19 b14 b15 b16 a9 b13 : Nat → Int32} (hm : Rmain n m i9 j1 a17 a18 a19 b14 b15 b16) (n12 : n ≤ 12) (hh : ∀ i, i < n → a9 i = b13 i) (hj : j < m) : flw a17 a18 a19 a9 j = flw b14 b15 b16 b13 j := by
  obtain ⟨m18, hi9, hj1, hms⟩ := hm
  obtain ⟨q1, q2, q3, x, y, w, hx, hy, -, -, -, ex, ey, ew⟩ := hms j hj
  unfold flw
  rw [q1, q2, q3, ex, ey, nI_clamp (by omega), nI_clamp (by omega), hh x hx, hh y hy]
theorem op_flow (hR : Rel k I A T L K F J B) : g_Pw_flow I A a1 (fun r => g_Mo_flow J B a1 (fun r2 => r = r2 ∧ Rel (k + 1) I A T L K F J B)) := by
  have hU := hR.up
  obtain ⟨tk, n, m, v, sh, nr, sg, od, bk, ht, hc, hn, hm, hv, hnr, hmm, hs, ho, hp, hrw, htm, hmt, hkn, hth⟩ := hR
  obtain ⟨n12, hi4, hj0, hh, hd, hhd⟩ := id hn
  obtain ⟨m18, hi9, hj1, hms⟩ := id hm
  obtain ⟨v12, hi10, hj2, hi11, hsh, hvs, hvi⟩ := id hv
  refine g_hasMain m18 hi9 (fun x hx e1 => ?_) (fun h => ?_)
  · subst e1
    refine n2f nz1 (C_isOpen hi10 v12 hi11 ?_)
    rw [fdOn_eq hv, ← opn_eq hv (fun i q => fd_lt q)]
    cases e : opnM (B 19) (fd (fun i => decide (B 17 i = nI x)) v 0)
    · exact c2t rfl (m_mainT m18 hj1 hx (c2f nz1 (M_flowOf n12 hm v12 hj2 hx (by rw [e]; exact ⟨rfl, hU⟩))))
    · refine c2f nz1 (C_flowOf n12 hm hx (m_mainT m18 hj1 hx (c2f nz1 (M_flowOf n12 hm v12 hj2 hx ?_))))
      rw [e]
      exact ⟨flw_eq hm n12 (fun i hi => (hhd i hi).1) hx, hU⟩
  · exact n2t rfl (m_mainF m18 hj1 h (c2t rfl ⟨rfl, hU⟩))
theorem op_told (hR : Rel k I A T L K F J B) : g_Pw_told I a1 (fun r => g_Mo_told J a1 (fun r2 => r = r2 ∧ Rel (k + 1) I A T L K F J B)) := by
  have hU := hR.up
  obtain ⟨tk, n, m, v, sh, nr, sg, od, bk, ht, hc, hn, hm, hv, hnr, hmm, hs, ho, hp, hrw, htm, hmt, hkn, hth⟩ := hR
  refine ⟨fun e => ?_, fun e => ?_, fun e => ?_, fun e => ?_, fun e => ?_, fun e => ?_, fun e => ?_, fun e => ?_, fun e => ?_, fun e => ?_, fun e => ?_, fun n0 n1 n2 n3 n4 n5 n6 n7 n8 n9 n10 => ?_⟩
  · subst e
    exact ⟨fun _ => ⟨ht.2.1.trans ht.2.2.symm, hU⟩, fun q => absurd q (by decide), fun q => absurd q (by decide), fun q => absurd q (by decide), fun q => absurd q (by decide), fun q => absurd q (by decide), fun q => absurd q (by decide), fun q => absurd q (by decide), fun q => absurd q (by decide), fun q => absurd q (by decide), fun q => absurd q (by decide), fun z _ _ _ _ _ _ _ _ _ _ => absurd rfl z⟩
  · subst e
    exact ⟨fun q => absurd q (by decide), fun _ => ⟨hn.2.1.trans hn.2.2.1.symm, hU⟩, fun q => absurd q (by decide), fun q => absurd q (by decide), fun q => absurd q (by decide), fun q => absurd q (by decide), fun q => absurd q (by decide), fun q => absurd q (by decide), fun q => absurd q (by decide), fun q => absurd q (by decide), fun q => absurd q (by decide), fun _ z _ _ _ _ _ _ _ _ _ => absurd rfl z⟩
  · subst e
    exact ⟨fun q => absurd q (by decide), fun q => absurd q (by decide), fun _ => ⟨hm.2.1.trans hm.2.2.1.symm, hU⟩, fun q => absurd q (by decide), fun q => absurd q (by decide), fun q => absurd q (by decide), fun q => absurd q (by decide), fun q => absurd q (by decide), fun q => absurd q (by decide), fun q => absurd q (by decide), fun q => absurd q (by decide), fun _ _ z _ _ _ _ _ _ _ _ => absurd rfl z⟩
  · subst e
    exact ⟨fun q => absurd q (by decide), fun q => absurd q (by decide), fun q => absurd q (by decide), fun _ => ⟨hv.2.1.trans hv.2.2.1.symm, hU⟩, fun q => absurd q (by decide), fun q => absurd q (by decide), fun q => absurd q (by decide), fun q => absurd q (by decide), fun q => absurd q (by decide), fun q => absurd q (by decide), fun q => absurd q (by decide), fun _ _ _ z _ _ _ _ _ _ _ => absurd rfl z⟩
  · subst e
    exact ⟨fun q => absurd q (by decide), fun q => absurd q (by decide), fun q => absurd q (by decide), fun q => absurd q (by decide), fun _ => ⟨hs.2.1.trans hs.2.2.1.symm, hU⟩, fun q => absurd q (by decide), fun q => absurd q (by decide), fun q => absurd q (by decide), fun q => absurd q (by decide), fun q => absurd q (by decide), fun q => absurd q (by decide), fun _ _ _ _ z _ _ _ _ _ _ => absurd rfl z⟩
  · subst e
    exact ⟨fun q => absurd q (by decide), fun q => absurd q (by decide), fun q => absurd q (by decide), fun q => absurd q (by decide), fun q => absurd q (by decide), fun _ => ⟨ho.2.1.trans ho.2.2.1.symm, hU⟩, fun q => absurd q (by decide), fun q => absurd q (by decide), fun q => absurd q (by decide), fun q => absurd q (by decide), fun q => absurd q (by decide), fun _ _ _ _ _ z _ _ _ _ _ => absurd rfl z⟩
  · subst e
    exact ⟨fun q => absurd q (by decide), fun q => absurd q (by decide), fun q => absurd q (by decide), fun q => absurd q (by decide), fun q => absurd q (by decide), fun q => absurd q (by decide), fun _ => ⟨hc.1, hU⟩, fun q => absurd q (by decide), fun q => absurd q (by decide), fun q => absurd q (by decide), fun q => absurd q (by decide), fun _ _ _ _ _ _ z _ _ _ _ => absurd rfl z⟩
  · subst e
    exact ⟨fun q => absurd q (by decide), fun q => absurd q (by decide), fun q => absurd q (by decide), fun q => absurd q (by decide), fun q => absurd q (by decide), fun q => absurd q (by decide), fun q => absurd q (by decide), fun _ => ⟨hc.2.1, hU⟩, fun q => absurd q (by decide), fun q => absurd q (by decide), fun q => absurd q (by decide), fun _ _ _ _ _ _ _ z _ _ _ => absurd rfl z⟩
  · subst e
    exact ⟨fun q => absurd q (by decide), fun q => absurd q (by decide), fun q => absurd q (by decide), fun q => absurd q (by decide), fun q => absurd q (by decide), fun q => absurd q (by decide), fun q => absurd q (by decide), fun q => absurd q (by decide), fun _ => ⟨hc.2.2, hU⟩, fun q => absurd q (by decide), fun q => absurd q (by decide), fun _ _ _ _ _ _ _ _ z _ _ => absurd rfl z⟩
  · subst e
    exact ⟨fun q => absurd q (by decide), fun q => absurd q (by decide), fun q => absurd q (by decide), fun q => absurd q (by decide), fun q => absurd q (by decide), fun q => absurd q (by decide), fun q => absurd q (by decide), fun q => absurd q (by decide), fun q => absurd q (by decide), fun _ => ⟨hnr.2.2.2, hU⟩, fun q => absurd q (by decide), fun _ _ _ _ _ _ _ _ _ z _ => absurd rfl z⟩
  · subst e
    exact ⟨fun q => absurd q (by decide), fun q => absurd q (by decide), fun q => absurd q (by decide), fun q => absurd q (by decide), fun q => absurd q (by decide), fun q => absurd q (by decide), fun q => absurd q (by decide), fun q => absurd q (by decide), fun q => absurd q (by decide), fun q => absurd q (by decide), fun _ => ⟨hp.2.1.trans hp.2.2.1.symm, hU⟩, fun _ _ _ _ _ _ _ _ _ _ z => absurd rfl z⟩
  · exact ⟨fun q => absurd q n0, fun q => absurd q n1, fun q => absurd q n2, fun q => absurd q n3, fun q => absurd q n4, fun q => absurd q n5, fun q => absurd q n6, fun q => absurd q n7, fun q => absurd q n8, fun q => absurd q n9, fun q => absurd q n10, fun _ _ _ _ _ _ _ _ _ _ _ => ⟨rfl, hU⟩⟩
theorem op_term (hR : Rel k I A T L K F J B) : g_Pw_term A a1 a2 (fun r u => g_Mo_term B a1 a2 (fun r2 v => r = r2 ∧ Rel (k + 1) I u T L K F J v)) := by
  have hU := hR.up
  obtain ⟨tk, n, m, v, sh, nr, sg, od, bk, ht, hc, hn, hm, hv, hnr, hmm, hs, ho, hp, hrw, htm, hmt, hkn, hth⟩ := hR
  refine g_wi (fun h1 => n2f nz1 (g_wi (fun h2 => n2f nz1 ?_) (fun h2 => n2t rfl (g_mt h1 (n2f nz1 (g_mf h2 (n2t rfl ⟨rfl, hU⟩))))))) (fun h1 => n2t rfl (g_mf h1 (n2t rfl ⟨rfl, hU⟩)))
  have h1' := h1
  obtain ⟨x, -, hx, rfl⟩ := rg_nI (lo := 0) (hi := 3) h1 (by omega) (by omega)
  have hin : vp_in (nI x) 4 := vin (by omega) (by omega)
  have hcl : (nI x).toNatClampNeg = x := nI_clamp (by omega)
  refine ⟨hin, y1 ⟨hin, g_mt h1' (n2f nz1 (g_mt h2 (n2f nz1 ⟨hin, y1 ⟨hin, ?_, ?_⟩⟩)))⟩⟩
  · rw [hcl]; exact htm x (by omega)
  · have hnew : Rterm (upd (A 2) (nI x).toNatClampNeg a2) (upd (B 30) (nI x).toNatClampNeg a2) := by
      rw [hcl]
      intro d hd
      by_cases e : d = x
      · subst e; rw [up_at, up_at]
      · rw [up_ne e, up_ne e]; exact htm d hd
    exact ⟨tk, n, m, v, sh, nr, sg, od, bk, ht.up, hc, hn, hm, hv, hnr, hmm, hs, ho, hp, hrw, hnew, hmt, hkn, hth⟩
theorem op_meter (hB : isB a2) (hR : Rel k I A T L K F J B) : g_Pw_meter I A a1 a2 (fun r u => g_Mo_meter J B a1 a2 (fun r2 v => r = r2 ∧ Rel (k + 1) I u T L K F J v)) := by
  have hU := hR.up
  obtain ⟨tk, n, m, v, sh, nr, sg, od, bk, ht, hc, hn, hm, hv, hnr, hmm, hs, ho, hp, hrw, htm, hmt, hkn, hth⟩ := hR
  obtain ⟨n12, hi4, hj0, hh, hd, hhd⟩ := id hn
  refine g_has n12 hi4 (fun i hi e => ?_) (fun h => ?_)
  · subst e
    have hin : vp_in (nI i) 12 := vin (by omega) (by omega)
    have hcl : (nI i).toNatClampNeg = i := nI_clamp (by omega)
    obtain ⟨w0, w1, w2⟩ := hmt i (by omega)
    have hnew : Rmet (A 0) (upd (A 1) (nI i).toNatClampNeg (vp_nar .boolean a2)) (B 10) (upd (B 11) (nI i).toNatClampNeg (vp_nar .boolean a2)) := by
      rw [hcl, nar_B hB]
      intro j hj
      obtain ⟨q0, q1, q2⟩ := hmt j hj
      by_cases e : j = i
      · subst e; rw [up_at, up_at]; exact ⟨q0, rfl, hB⟩
      · rw [up_ne e, up_ne e]; exact ⟨q0, q1, q2⟩
    have fin : Rel (k + 1) I (sA A 1 (nI i) (vp_nar .boolean a2)) T L K F J (sA B 11 (nI i) (vp_nar .boolean a2)) := ⟨tk, n, m, v, sh, nr, sg, od, bk, ht.up, hc, hn, hm, hv, hnr, hmm, hs, ho, hp, hrw, htm, hnew, hkn, hth⟩
    refine n2f nz1 ⟨hin, ?_⟩
    rw [hcl, w1]
    refine ⟨fun z => ⟨hin, m_nodeT n12 hj0 hi (n2f nz1 ⟨hin, ?_⟩)⟩, fun z => ⟨hin, m_nodeT n12 hj0 hi (n2f nz1 ⟨hin, ?_⟩)⟩⟩
    · rw [hcl]; exact c2t z ⟨hin, rfl, fin⟩
    · rw [hcl]; exact c2f z ⟨hin, rfl, fin⟩
  · exact n2t rfl (m_nodeF n12 hj0 h (n2t rfl ⟨rfl, hU⟩))
theorem op_pay (hR : Rel k I A T L K F J B) : g_Pw_pay I A a1 (fun r => g_Mo_pay J B a1 (fun r2 => r = r2 ∧ Rel (k + 1) I A T L K F J B)) := by
  have hU := hR.up
  obtain ⟨tk, n, m, v, sh, nr, sg, od, bk, ht, hc, hn, hm, hv, hnr, hmm, hs, ho, hp, hrw, htm, hmt, hkn, hth⟩ := hR
  obtain ⟨n12, hi4, hj0, hh, hd, hhd⟩ := id hn
  refine g_has n12 hi4 (fun i hi e => ?_) (fun h => ?_)
  · subst e
    have hin : vp_in (nI i) 12 := vin (by omega) (by omega)
    have hcl : (nI i).toNatClampNeg = i := nI_clamp (by omega)
    obtain ⟨w0, w1, w2⟩ := hmt i (by omega)
    obtain ⟨w8, d, hd4, ed⟩ := hd i (by omega)
    refine c2f nz1 ⟨hin, hin, ?_, m_nodeT n12 hj0 hi (c2f nz1 ⟨hin, hin, ?_, ?_⟩)⟩
    · rw [hcl, w8, ed]; exact vin (by omega) (by omega)
    · rw [hcl, ed]; exact vin (by omega) (by omega)
    · rw [hcl, w8, ed, w0, nI_clamp (by omega), htm d hd4]; exact ⟨rfl, hU⟩
  · exact c2t rfl (m_nodeF n12 hj0 h (c2t rfl ⟨rfl, hU⟩))
theorem op_say (hR : Rel k I A T L K F J B) : g_Pw_say I A a1 (fun r u => g_Mo_say J B a1 (fun r2 v => r = r2 ∧ Rel (k + 1) u.1 u.2 T L K F v.1 v.2)) := by
  have hU := hR.up
  obtain ⟨tk, n, m, v, sh, nr, sg, od, bk, ht, hc, hn, hm, hv, hnr, hmm, hs, ho, hp, hrw, htm, hmt, hkn, hth⟩ := hR
  obtain ⟨s40, hi12, hj9, hsg⟩ := id hs
  refine g_wi (fun h => c2f nz1 ?_) (fun h => c2t rfl (g_mf h (n2t rfl ⟨rfl, hU⟩)))
  by_cases hf : sg = 40
  · exact c2f (cnt_nlt (N := 40) hi12 (by omega) (by omega)) (g_mt h (n2f nz1 (n2t (by rw [hj9, hf]; rfl) ⟨rfl, hU⟩)))
  · have hlt : sg < 40 := by omega
    have hin : vp_in (I 12) 40 := by rw [hi12]; exact vin hlt (by omega)
    have hin2 : vp_in (J 9) 40 := by rw [hj9]; exact vin hlt (by omega)
    refine c2t (cnt_lt (N := 40) hi12 (by omega) hlt) ⟨hin, g_mt h (n2f nz1 (n2f (cnt_ne (N := 40) hj9 (by omega) hlt) ⟨hin2, ?_, ?_⟩))⟩
    · show I 12 + 1 = J 9 + 1
      rw [hi12, hj9]
    · have hnew : Rsign (sg + 1) (I 12 + 1) (J 9 + 1) (upd (A 22) (I 12).toNatClampNeg a1) (upd (B 23) (J 9).toNatClampNeg a1) := by
        rw [hi12, hj9, nI_clamp (by omega)]
        refine ⟨by omega, nI_1 sg, nI_1 sg, fun i hi => ?_⟩
        by_cases e : i = sg
        · subst e; rw [up_at, up_at]
        · rw [up_ne e, up_ne e]; exact hsg i (by omega)
      exact ⟨tk, n, m, v, sh, nr, sg + 1, od, bk, ht.up, hc, hn, hm, hv, hnr, hmm, hnew, ho, hp, hrw, htm, hmt, hkn, hth⟩
theorem op_wipe (hR : Rel k I A T L K F J B) : g_Pw_wipe I (fun r u => g_Mo_wipe J (fun r2 v => r = r2 ∧ Rel (k + 1) u A T L K F v B)) := by
  have hU := hR.up
  obtain ⟨tk, n, m, v, sh, nr, sg, od, bk, ht, hc, hn, hm, hv, hnr, hmm, hs, ho, hp, hrw, htm, hmt, hkn, hth⟩ := hR
  obtain ⟨s40, hi12, hj9, hsg⟩ := id hs
  exact y1 (y1 ⟨hi12.trans hj9.symm, tk, n, m, v, sh, nr, 0, od, bk, ht.up, hc, hn, hm, hv, hnr, hmm, ⟨by omega, rfl, rfl, fun i hi => absurd hi (by omega)⟩, ho, hp, hrw, htm, hmt, hkn, hth⟩)
theorem op_block (hR : Rel k I A T L K F J B) : g_Pw_block I A a1 (fun r u => g_Mo_block J B a1 (fun r2 v => r = r2 ∧ Rel (k + 1) u.1 u.2 T L K F v.1 v.2)) := by
  have hU := hR.up
  obtain ⟨tk, n, m, v, sh, nr, sg, od, bk, ht, hc, hn, hm, hv, hnr, hmm, hs, ho, hp, hrw, htm, hmt, hkn, hth⟩ := hR
  obtain ⟨b8, hi14, hj11, hbs, hgs, hpr⟩ := id hp
  refine g_wi (fun h => c2f nz1 ?_) (fun h => c2t rfl (g_mf h (n2t rfl ⟨rfl, hU⟩)))
  by_cases hf : bk = 8
  · exact c2f (cnt_nlt (N := 8) hi14 (by omega) (by omega)) (g_mt h (n2f nz1 (n2t (by rw [hj11, hf]; rfl) ⟨rfl, hU⟩)))
  · have hlt : bk < 8 := by omega
    have hin : vp_in (I 14) 8 := by rw [hi14]; exact vin hlt (by omega)
    have hin2 : vp_in (J 11) 8 := by rw [hj11]; exact vin hlt (by omega)
    refine c2t (cnt_lt (N := 8) hi14 (by omega) hlt) ⟨hin, g_mt h (n2f nz1 (n2f (cnt_ne (N := 8) hj11 (by omega) hlt) ⟨hin2, ?_, ?_⟩))⟩
    · show I 14 + 1 = J 11 + 1
      rw [hi14, hj11]
    · have hnew : Rplan (bk + 1) (I 14 + 1) 0 (J 11 + 1) (upd (A 25) (I 14).toNatClampNeg a1) (A 26) (A 27) (A 28) (A 29) (A 30) (upd (B 27) (J 11).toNatClampNeg a1) (B 28) (B 29) := by
        obtain ⟨x, -, hx, rfl⟩ := rg_nI (lo := 0) (hi := 100) h (by omega) (by omega)
        rw [hi14, hj11, nI_clamp (by omega)]
        refine ⟨by omega, nI_1 bk, nI_1 bk, fun i hi => ?_, hgs, fun z => absurd rfl z⟩
        by_cases e : i = bk
        · subst e; rw [up_at, up_at]; exact ⟨rfl, x, hx, rfl⟩
        · rw [up_ne e, up_ne e]; exact hbs i (by omega)
      exact ⟨tk, n, m, v, sh, nr, sg, od, bk + 1, ht.up, hc, hn, hm, hv, hnr, hmm, hs, ho, hnew, hrw, htm, hmt, hkn, hth⟩
theorem op_rest (hR : Rel k I A T L K F J B) : g_Pw_rest I (fun r u => g_Mo_rest J (fun r2 v => r = r2 ∧ Rel (k + 1) u A T L K F v B)) := by
  have hU := hR.up
  obtain ⟨tk, n, m, v, sh, nr, sg, od, bk, ht, hc, hn, hm, hv, hnr, hmm, hs, ho, hp, hrw, htm, hmt, hkn, hth⟩ := hR
  obtain ⟨b8, hi14, hj11, hbs, hgs, hpr⟩ := id hp
  exact y1 (y1 ⟨hi14.trans hj11.symm, tk, n, m, v, sh, nr, sg, od, 0, ht.up, hc, hn, hm, hv, hnr, hmm, hs, ho, ⟨by omega, rfl, rfl, fun i hi => absurd hi (by omega), hgs, fun z => absurd rfl z⟩, hrw, htm, hmt, hkn, hth⟩)
theorem op_plan (hR : Rel k I A T L K F J B) : g_Pw_plan I A a1 a2 a3 (fun r u => g_Mo_plan B a1 a2 a3 (fun r2 v => r = r2 ∧ Rel (k + 1) u.1 u.2 T L K F J v)) := by
  have hU := hR.up
  obtain ⟨tk, n, m, v, sh, nr, sg, od, bk, ht, hc, hn, hm, hv, hnr, hmm, hs, ho, hp, hrw, htm, hmt, hkn, hth⟩ := hR
  obtain ⟨b8, hi14, hj11, hbs, hgs, hpr⟩ := id hp
  refine g_wi (fun h1 => n2f nz1 (g_wi (fun h2 => c2f nz1 (g_wi (fun h3 => n2f nz1 ?_) (fun h3 => n2t rfl (g_mt h1 (n2f nz1 (g_mt h2 (c2f nz1 (g_mf h3 (n2t rfl ⟨rfl, hU⟩))))))))) (fun h2 => c2t rfl (g_mt h1 (n2f nz1 (g_mf h2 (c2t rfl ⟨rfl, hU⟩))))))) (fun h1 => n2t rfl (g_mf h1 (n2t rfl ⟨rfl, hU⟩)))
  have h1' := h1
  obtain ⟨x, -, hx, rfl⟩ := rg_nI (lo := 0) (hi := 2) h1 (by omega) (by omega)
  have hin : vp_in (nI x) 3 := vin (by omega) (by omega)
  have hcl : (nI x).toNatClampNeg = x := nI_clamp (by omega)
  refine ⟨hin, hin, g_mt h1' (n2f nz1 (g_mt h2 (c2f nz1 (g_mt h3 (n2f nz1 ⟨hin, hin, rfl, ?_⟩)))))⟩
  have hnew : Rplan bk (I 14) 0 (J 11) (A 25) (upd (A 26) (nI x).toNatClampNeg a2) (upd (A 27) (nI x).toNatClampNeg a3) (A 28) (A 29) (A 30) (B 27) (upd (B 28) (nI x).toNatClampNeg a2) (upd (B 29) (nI x).toNatClampNeg a3) := by
    obtain ⟨y, -, hy, rfl⟩ := rg_nI (lo := 0) (hi := 100) h2 (by omega) (by omega)
    obtain ⟨z, -, hz, rfl⟩ := rg_nI (lo := 0) (hi := 100) h3 (by omega) (by omega)
    rw [hcl]
    refine ⟨b8, hi14, hj11, hbs, fun i hi => ?_, fun z => absurd rfl z⟩
    by_cases e : i = x
    · subst e; rw [up_at, up_at, up_at, up_at]; exact ⟨rfl, rfl, ⟨y, hy, rfl⟩, z, hz, rfl⟩
    · rw [up_ne e, up_ne e, up_ne e, up_ne e]; exact hgs i hi
  exact ⟨tk, n, m, v, sh, nr, sg, od, bk, ht.up, hc, hn, hm, hv, hnr, hmm, hs, ho, hnew, hrw, htm, hmt, hkn, hth⟩
end OPS6
