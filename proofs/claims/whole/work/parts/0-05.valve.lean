/-! ===== layer 2: mains and valves ===== -/
theorem C_valveIn_l {I : Nat → Int32} {A : Nat → Nat → Int32} {k1 v : Nat} {a : Int32} {P : Int32 → Prop} {X : Prop} (hv : I 10 = nI v) (hv12 : v ≤ 12) (hk : lenC k1 = 12) : ∀ (d j : Nat), j + d = v → (fd (fun i => A k1 i = a) d j = none → X) → (∀ i, fd (fun i => A k1 i = a) d j = some i → P (nI i)) → g_Pi_valveIn_2 I A k1 a P X (d + 1) (nI j)
  | 0, j, hj, h1, _ => c2t (lit_le hv (by omega) (by omega)) (h1 rfl)
  | d + 1, j, hj, h1, h2 => by
    refine c2f (lit_lt hv (by omega) (by omega)) ⟨by rw [hk]; exact vin (by omega) (by omega), ?_⟩
    rw [nI_clamp (by omega)]
    by_cases e : A k1 j = a
    · exact n2t e (h2 j (by unfold fd; simp [e]))
    · refine n2f e ?_
      rw [nI_1]
      exact C_valveIn_l hv hv12 hk d (j + 1) (by omega) (fun q => h1 (by unfold fd; simpa [e] using q)) (fun i q => h2 i (by unfold fd; simpa [e] using q))
theorem C_valveIn {I : Nat → Int32} {A : Nat → Nat → Int32} {k1 v : Nat} {a : Int32} {P : Int32 → Prop} (hv : I 10 = nI v) (hv12 : v ≤ 12) (hk : lenC k1 = 12) (h : P (oN (fd (fun i => A k1 i = a) v 0))) : g_Pi_valveIn I A k1 a P :=
  ⟨v + 1, C_valveIn_l hv hv12 hk v 0 (by omega) (fun q => by rw [q] at h; exact h) (fun i q => by rw [q] at h; exact h)⟩
theorem M_valveOn_l {I : Nat → Int32} {A : Nat → Nat → Int32} {v : Nat} {a : Int32} {P : Int32 → Prop} {X : Prop} (hv : I 2 = nI v) (hv12 : v ≤ 12) : ∀ (d j : Nat), j + d = v → (fd (fun i => A 17 i = a) d j = none → X) → (∀ i, fd (fun i => A 17 i = a) d j = some i → P (nI i)) → g_Mo_valveOn_2 I A a P X (d + 1) (nI j)
  | 0, j, hj, h1, _ => c2t (lit_le hv (by omega) (by omega)) (h1 rfl)
  | d + 1, j, hj, h1, h2 => by
    refine c2f (lit_lt hv (by omega) (by omega)) ⟨vin (by omega) (by omega), ?_⟩
    rw [nI_clamp (by omega)]
    by_cases e : A 17 j = a
    · exact n2t e (h2 j (by unfold fd; simp [e]))
    · refine n2f e ?_
      rw [nI_1]
      exact M_valveOn_l hv hv12 d (j + 1) (by omega) (fun q => h1 (by unfold fd; simpa [e] using q)) (fun i q => h2 i (by unfold fd; simpa [e] using q))
theorem M_valveOn {I : Nat → Int32} {A : Nat → Nat → Int32} {v : Nat} {a : Int32} {P : Int32 → Prop} (hv : I 2 = nI v) (hv12 : v ≤ 12) (h : P (oN (fd (fun i => A 17 i = a) v 0))) : g_Mo_valveOn I A a P :=
  ⟨v + 1, M_valveOn_l hv hv12 v 0 (by omega) (fun q => by rw [q] at h; exact h) (fun i q => by rw [q] at h; exact h)⟩
theorem M_valveByMap_l {I : Nat → Int32} {A : Nat → Nat → Int32} {v : Nat} {a : Int32} {P : Int32 → Prop} {X : Prop} (hv : I 2 = nI v) (hv12 : v ≤ 12) : ∀ (d j : Nat), j + d = v → (fd (fun i => A 18 i = a) d j = none → X) → (∀ i, fd (fun i => A 18 i = a) d j = some i → P (nI i)) → g_Mo_valveByMap_2 I A a P X (d + 1) (nI j)
  | 0, j, hj, h1, _ => c2t (lit_le hv (by omega) (by omega)) (h1 rfl)
  | d + 1, j, hj, h1, h2 => by
    refine c2f (lit_lt hv (by omega) (by omega)) ⟨vin (by omega) (by omega), ?_⟩
    rw [nI_clamp (by omega)]
    by_cases e : A 18 j = a
    · exact n2t e (h2 j (by unfold fd; simp [e]))
    · refine n2f e ?_
      rw [nI_1]
      exact M_valveByMap_l hv hv12 d (j + 1) (by omega) (fun q => h1 (by unfold fd; simpa [e] using q)) (fun i q => h2 i (by unfold fd; simpa [e] using q))
theorem M_valveByMap {I : Nat → Int32} {A : Nat → Nat → Int32} {v : Nat} {a : Int32} {P : Int32 → Prop} (hv : I 2 = nI v) (hv12 : v ≤ 12) (h : P (oN (fd (fun i => A 18 i = a) v 0))) : g_Mo_valveByMap I A a P :=
  ⟨v + 1, M_valveByMap_l hv hv12 v 0 (by omega) (fun q => by rw [q] at h; exact h) (fun i q => by rw [q] at h; exact h)⟩
/-- bits of a number below 2 ^ 31 -/
theorem bt_nI {n j : Nat} (hj : j < 31) : bt (nI n) j = n.testBit j := by
  show (BitVec.ofNat 32 n).getLsbD j = _
  rw [BitVec.getLsbD_ofNat]
  simp [show j < 32 by omega]
theorem bit_and1 (x : Int32) : x &&& 1 = bI (bt x 0) := by
  apply b_ext
  intro i hi
  rw [b_and]
  have h1 : ∀ i, i < 32 → bt 1 i = decide (i = 0) := by decide +kernel
  have h2 : ∀ b : Bool, ∀ i, i < 32 → bt (bI b) i = (b && decide (i = 0)) := by decide +kernel
  rw [h1 i hi, h2 _ i hi]
  by_cases e : i = 0
  · subst e; simp
  · simp [e]
theorem shr_bit (x : Int32) {j : Nat} (hj : j < 32) : (x >>> (nI j &&& 31)) &&& 1 = bI (bt x j) := by
  rw [bit_and1, b_sshr j hj x (by omega), if_pos (by omega)]
  rfl
theorem g_bit {a b : Int32} {x j : Nat} {P : Int32 → Prop} (ha : a = nI x) (hb : b = nI j) (hj : j < 31) (h : P (bI (x.testBit j))) : g_Pw_hasBit a b P := by
  subst ha; subst hb
  unfold g_Pw_hasBit
  rw [shr_bit _ (by omega), bt_nI hj]
  cases e : x.testBit j
  · rw [e] at h; exact c2t rfl h
  · rw [e] at h; exact c2f nz1 h
theorem g_bitB {b : Bool} {P : Int32 → Prop} (h : P (bI b)) : g_Pw_bit (bI b) P := by
  cases b
  · exact c2t rfl h
  · exact c2f nz1 h
theorem g_isShut {I : Nat → Int32} {a : Int32} {x j : Nat} {P : Int32 → Prop} (ha : I 11 = nI x) (hb : a = nI j) (hj : j < 31) (h : P (bI (x.testBit j))) : g_Pi_isShut I a P := g_bit ha hb hj ⟨bI_B _, h⟩
/-- whether the valve found stands open -/
def opn (sh : Nat) (o : Option Nat) : Bool := match o with
  | none => true
  | some i => !sh.testBit i
theorem fd_lt {p : Nat → Bool} {d i : Nat} (h : fd p d 0 = some i) : i < d := by have := (fd_some h).2.1; omega
theorem m6_nI {i : Nat} (hi : i < 2 ^ 31) : ¬ nI i = -6 := by intro e; rw [fa_eq, nI_toInt hi, show (-6 : Int32).toInt = -6 from by decide] at e; omega
theorem oN_m6 {o : Option Nat} {d : Nat} (hd : d < 2 ^ 31) (h : ∀ i, o = some i → i < d) : oN o = -6 ↔ o = none := by
  cases o
  · exact ⟨fun _ => rfl, fun _ => rfl⟩
  · exact ⟨fun e => absurd e (m6_nI (by have := h _ rfl; omega)), fun e => by cases e⟩
theorem oN_neg {o : Option Nat} {d : Nat} (hd : d < 2 ^ 31) (h : ∀ i, o = some i → i < d) : oN o < 0 ↔ o = none := by
  cases o
  · exact ⟨fun _ => rfl, fun _ => by decide⟩
  · exact ⟨fun e => absurd e (nI_pos (by have := h _ rfl; omega)), fun e => by cases e⟩
theorem C_isOpen {I : Nat → Int32} {A : Nat → Nat → Int32} {v sh : Nat} {a : Int32} {P : Int32 → Prop} (hv : I 10 = nI v) (hv12 : v ≤ 12) (hs : I 11 = nI sh) (h : P (bI (opn sh (fd (fun i => A 20 i = a) v 0)))) : g_Pi_isOpen I A a P := by
  refine C_valveIn hv hv12 rfl ?_
  cases e : fd (fun i => A 20 i = a) v 0 with
  | none => rw [e] at h; exact c2t rfl h
  | some i =>
    rw [e] at h
    have hi := fd_lt e
    refine c2f (m6_nI (by omega)) (g_isShut hs rfl (by omega) ?_)
    cases e2 : sh.testBit i
    · simp only [opn, e2] at h; exact n2t rfl h
    · simp only [opn, e2] at h; exact n2f nz1 h
theorem C_isOpenByMap {I : Nat → Int32} {A : Nat → Nat → Int32} {v sh : Nat} {a : Int32} {P : Int32 → Prop} (hv : I 10 = nI v) (hv12 : v ≤ 12) (hs : I 11 = nI sh) (h : P (bI (opn sh (fd (fun i => A 21 i = a) v 0)))) : g_Pi_isOpenByMap I A a P := by
  refine C_valveIn hv hv12 rfl ?_
  cases e : fd (fun i => A 21 i = a) v 0 with
  | none => rw [e] at h; exact c2t rfl h
  | some i =>
    rw [e] at h
    have hi := fd_lt e
    refine c2f (m6_nI (by omega)) (g_isShut hs rfl (by omega) ?_)
    cases e2 : sh.testBit i
    · simp only [opn, e2] at h; exact n2t rfl h
    · simp only [opn, e2] at h; exact n2f nz1 h
/-- the model's side of the same, by its own bits -/
def opnM (b19 : Nat → Int32) (o : Option Nat) : Bool := match o with
  | none => true
  | some i => decide (b19 i = 0)
theorem M_isOpen {I : Nat → Int32} {A : Nat → Nat → Int32} {v : Nat} {a : Int32} {P : Int32 → Prop} (hv : I 2 = nI v) (hv12 : v ≤ 12) (h : P (bI (opnM (A 19) (fd (fun i => A 17 i = a) v 0)))) : g_Mo_isOpen I A a P := by
  refine M_valveOn hv hv12 ?_
  cases e : fd (fun i => A 17 i = a) v 0 with
  | none => rw [e] at h; exact c2t (by decide) h
  | some i =>
    rw [e] at h
    have hi := fd_lt e
    refine c2f (nI_pos (by omega)) ⟨vin (by omega) (by omega), ?_⟩
    rw [show (oN (some i)).toNatClampNeg = i from nI_clamp (by omega)]
    by_cases e2 : A 19 i = 0
    · simp only [opnM, e2, decide_true] at h; exact n2t e2 h
    · simp only [opnM, e2, decide_false] at h; exact n2f e2 h
theorem opn_eq {m v sh : Nat} {i10 i11 j2 : Int32} {a20 a21 b17 b18 b19 : Nat → Int32} (h : Rvalve m v sh i10 i11 j2 a20 a21 b17 b18 b19) {o : Option Nat} (ho : ∀ i, o = some i → i < v) : opnM b19 o = opn sh o := by
  cases o with
  | none => rfl
  | some i =>
    have := (h.2.2.2.2.2.1 i (ho i rfl)).2.2.1
    simp only [opnM, opn, this]
    cases sh.testBit i <;> decide
theorem fdOn_eq {m v sh : Nat} {i10 i11 j2 a : Int32} {a20 a21 b17 b18 b19 : Nat → Int32} (h : Rvalve m v sh i10 i11 j2 a20 a21 b17 b18 b19) : fd (fun i => a20 i = a) v 0 = fd (fun i => b17 i = a) v 0 :=
  fd_cong _ _ (fun i _ hi => by rw [(h.2.2.2.2.2.1 i (by omega)).1])
theorem fdMap_eq {m v sh : Nat} {i10 i11 j2 a : Int32} {a20 a21 b17 b18 b19 : Nat → Int32} (h : Rvalve m v sh i10 i11 j2 a20 a21 b17 b18 b19) : fd (fun i => a21 i = a) v 0 = fd (fun i => b18 i = a) v 0 :=
  fd_cong _ _ (fun i _ hi => by rw [(h.2.2.2.2.2.1 i (by omega)).2.1])
