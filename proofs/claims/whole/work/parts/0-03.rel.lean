/-! ===== layer 2: what the class's state and the model's have to do with each other ===== -/
def rg (x : Int32) (lo hi : Int) : Prop := lo ≤ x.toInt ∧ x.toInt ≤ hi
def pk4 (a b c d : Nat → Int32) (r : Nat) : Nat → Int32 := match r with
  | 0 => a
  | 1 => b
  | 2 => c
  | _ => d
def pk6 (a b c d e f : Nat → Int32) (r : Nat) : Nat → Int32 := match r with
  | 0 => a
  | 1 => b
  | 2 => c
  | 3 => d
  | 4 => e
  | _ => f
/-! the net's work -/
def hsum (M : List (Nat × Nat × Int32)) (h : Nat → Int32) (i : Nat) (sa : Int32 × Int32) : Int32 × Int32 :=
  M.foldl (fun s e => if e.1 = i then (s.1 + e.2.2 * h e.2.1, s.2 + e.2.2) else if e.2.1 = i then (s.1 + e.2.2 * h e.1, s.2 + e.2.2) else s) sa
def nxt (H : Nat → Int32) (tk : Nat → Int32 → Int32) (M : List (Nat × Nat × Int32)) (h : Nat → Int32) (i : Nat) : Int32 :=
  if (hsum M h i (0, 0)).2 = 0 then 10 * H i else if ((hsum M h i (0, 0)).1 - 1000 * tk i (h i - 10 * H i)) / (hsum M h i (0, 0)).2 < 10 * H i then 10 * H i else ((hsum M h i (0, 0)).1 - 1000 * tk i (h i - 10 * H i)) / (hsum M h i (0, 0)).2
def absI (x : Int32) : Int32 := if 0 ≤ x then x else 0 - x
def sw1 (H : Nat → Int32) (S : Nat → Option Int32) (tk : Nat → Int32 → Int32) (M : List (Nat × Nat × Int32)) (i : Nat) (q : (Nat → Int32) × Int32) : (Nat → Int32) × Int32 :=
  if (S i).isSome then q else (upd q.1 i (nxt H tk M q.1 i), if q.2 < absI (nxt H tk M q.1 i - q.1 i) then absI (nxt H tk M q.1 i - q.1 i) else q.2)
def sweepP (n : Nat) (H : Nat → Int32) (S : Nat → Option Int32) (tk : Nat → Int32 → Int32) (M : List (Nat × Nat × Int32)) (h : Nat → Int32) : (Nat → Int32) × Int32 := lp (sw1 H S tk M) n 0 (h, 0)
def wk (sw : (Nat → Int32) → (Nat → Int32) × Int32) (nr : Int32) : Nat → Nat → (Nat → Int32) → (Nat → Int32) × Nat × Bool
  | 0, c, h => (h, c, false)
  | d + 1, c, h => if (sw h).2 ≤ nr then ((sw h).1, c + 1, true) else wk sw nr d (c + 1) (sw h).1
def beginP (H : Nat → Int32) (S : Nat → Option Int32) (i : Nat) : Int32 := 10 * H i + (S i).getD 0
def workP (n : Nat) (H : Nat → Int32) (S : Nat → Option Int32) (tk : Nat → Int32 → Int32) (M : List (Nat × Nat × Int32)) (nr : Int32) : (Nat → Int32) × Nat × Bool :=
  wk (sweepP n H S tk M) nr 500 0 (beginP H S)
def mls (bits : Nat) (e1 e2 w : Nat → Int32) : Nat → Nat → List (Nat × Nat × Int32)
  | 0, _ => []
  | d + 1, j => if bits.testBit j then ((e1 j).toNatClampNeg, (e2 j).toNatClampNeg, w j) :: mls bits e1 e2 w d (j + 1) else mls bits e1 e2 w d (j + 1)
def mlist (m bits : Nat) (e1 e2 w : Nat → Int32) : List (Nat × Nat × Int32) := mls bits e1 e2 w m 0
def max0 (x : Int32) : Int32 := if x < 0 then 0 else x
/-- what a number that stands for a node's thing means to the sweeps -/
def decS (x : Int32) : Option Int32 := if x < 0 then some (-1 - x) else none
def decT (x : Int32) (p : Int32) : Int32 :=
  if x - x / 8 * 8 = 6 then x / 8 * max0 p / 1000 else if x - x / 8 * 8 = 7 then 2 * (x / 16 * max0 p / 1000) else x / 8
/-! orders: the signs' states, as the reference numbers them -/
def dfa1 (st : Nat) (s : Int32) : Option Nat :=
  if st = 0 then (if s = 103 ∨ s = 116 then some 1 else if s = 109 then some 2 else none)
  else if st = 1 then (if 97 ≤ s ∧ s ≤ 108 then some 2 else none)
  else if st = 2 then (if s = 60 ∨ s = 62 then some 3 else none)
  else if st ≤ 8 ∧ 48 ≤ s ∧ s ≤ 57 then (if st < 8 then some (st + 1) else none)
  else if 4 ≤ st ∧ st ≤ 8 then (if s = 38 then some 0 else if s = 58 then some 9 else none)
  else if st = 9 then (if s = 76 ∨ s = 68 then some 10 else if s = 83 ∨ s = 79 then some 11 else none)
  else if st = 10 then (if 97 ≤ s ∧ s ≤ 108 then some 12 else none)
  else if st = 11 then (if 97 ≤ s ∧ s ≤ 114 then some 12 else none)
  else if st = 12 then (if s = 59 then some 0 else none) else none
/-- the run of the signs: where it falls, or its last state -/
def dfa (f : Nat → Int32) : Nat → Nat → Nat → Bool × Nat
  | 0, _, st => (true, st)
  | d + 1, j, st => match dfa1 st (f j) with
    | none => (false, j)
    | some st' => dfa f d (j + 1) st'
def okT (f : Nat → Int32) (z : Nat) : Prop := dfa f z 0 0 = (true, 12)
/-! plans -/
def sm3 (g : Nat → Nat) (s : Nat) : Nat := (if s.testBit 0 then g 0 else 0) + (if s.testBit 1 then g 1 else 0) + (if s.testBit 2 then g 2 else 0)
def lc (nd gv cl : Nat → Nat) : Nat → Nat → Nat → Nat → Nat
  | 0, _, _, _ => 0
  | d + 1, b, a, w => lp (fun lit best => min best (if min 200 (w + sm3 gv (a &&& lit)) < nd b then 1000000 else sm3 cl lit + lc nd gv cl d (b + 1) lit (min 200 (w + sm3 gv (a &&& lit)) - nd b))) 8 0 1000000
/-! things -/
def thq (kq : Nat) (f : Nat → Int32) (kd on tw th fo lv li la : Int32) : Prop :=
  (kq = 1 ∧ kd = 1 ∧ f 0 = on ∧ f 1 = th ∧ f 2 = fo ∧ lv = 0 ∧ li = 0 ∧ rg on 0 1000) ∨
  (kq = 4 ∧ kd = 2 ∧ f 0 = on ∧ f 3 = tw ∧ f 1 = th ∧ f 2 = fo ∧ lv = 0 ∧ li = 0 ∧ rg on 0 1000 ∧ rg tw 0 6) ∨
  (kq = 0 ∧ kd = 3 ∧ f 0 = on ∧ f 1 = 0 ∧ f 2 = 1440 ∧ f 3 = tw ∧ f 4 = th ∧ f 5 = fo ∧ lv = 0 ∧ li = 0 ∧ rg on 0 1000 ∧ rg tw 1 720) ∨
  (kq = 9 ∧ kd = 4 ∧ f 0 = on ∧ f 1 = tw ∧ f 2 = lv ∧ li = 0 ∧ rg on 0 5000 ∧ rg tw 1 100000 ∧ 0 ≤ lv.toInt ∧ lv.toInt ≤ tw.toInt) ∨
  (kq = 2 ∧ kd = 5 ∧ f 0 = on ∧ f 2 = 0 ∧ lv = 0 ∧ f 3 = tw ∧ f 4 = th ∧ f 5 = li ∧ isB li ∧ (¬ li = 0 → f 6 = la) ∧ rg on 0 5000 ∧ rg tw 0 120) ∨
  (kq = 3 ∧ f 0 = on ∧ f 2 = li ∧ isB li ∧ lv = 0 ∧ ((f 1 = 0 ∧ kd = 6) ∨ (f 1 = 1 ∧ kd = 7)) ∧ rg on 1 1000)
def thI (t : Option Nat) (L : List Nat) (K : Nat → Nat) (F : Nat → Nat → Int32) (kd on tw th fo lv li la : Int32) : Prop :=
  (t = none ∧ kd = 0 ∧ lv = 0 ∧ li = 0) ∨ ∃ q, t = some q ∧ q ∈ L ∧ thq (K q) (F q) kd on tw th fo lv li la
/-! the parts of the relation, each over its own components -/
def Rtime (k tk : Nat) (i0 j3 : Int32) : Prop := tk ≤ 400 * k ∧ i0 = nI tk ∧ j3 = nI tk
def Rcnt (i1 i2 i3 j6 j7 j8 : Int32) : Prop := i1 = j6 ∧ i2 = j7 ∧ i3 = j8
def Rnode (n : Nat) (i4 j0 : Int32) (a7 a8 a9 b0 b1 b13 : Nat → Int32) : Prop :=
  n ≤ 12 ∧ i4 = nI n ∧ j0 = nI n ∧ (∀ i, i < 12 → a7 i = b0 i ∧ ∃ h, h ≤ 200 ∧ b0 i = nI h) ∧ (∀ i, i < 12 → a8 i = b1 i ∧ ∃ d, d < 4 ∧ b1 i = nI d) ∧ (∀ i, i < n → a9 i = b13 i ∧ ∃ h, h ≤ 7000 ∧ b13 i = nI h)
def Rmain (n m : Nat) (i9 j1 : Int32) (a17 a18 a19 b14 b15 b16 : Nat → Int32) : Prop :=
  m ≤ 18 ∧ i9 = nI m ∧ j1 = nI m ∧ ∀ i, i < m → a17 i = b14 i ∧ a18 i = b15 i ∧ a19 i = b16 i ∧ ∃ x y w, x < n ∧ y < n ∧ x ≠ y ∧ 1 ≤ w ∧ w ≤ 1000 ∧ b14 i = nI x ∧ b15 i = nI y ∧ b16 i = nI w
def Rvalve (m v sh : Nat) (i10 i11 j2 : Int32) (a20 a21 b17 b18 b19 : Nat → Int32) : Prop :=
  v ≤ 12 ∧ i10 = nI v ∧ j2 = nI v ∧ i11 = nI sh ∧ sh < 2 ^ v ∧ (∀ i, i < v → a20 i = b17 i ∧ a21 i = b18 i ∧ b19 i = bI (sh.testBit i) ∧ inN (b17 i) m ∧ inN (b18 i) m) ∧ (∀ i j, i < v → j < v → b17 i = b17 j → i = j)
def Rnear (nr : Nat) (i5 j4 i6 j5 : Int32) : Prop := nr ≤ 100 ∧ i5 = nI nr ∧ j4 = nI nr ∧ i6 = j5
def Rmemo (n m : Nat) (i6 i7 i8 : Int32) (a7 a9 a13 a17 a18 a19 : Nat → Int32) : Prop :=
  ¬ i8 = 0 → ∃ (n0 bits nr0 : Nat) (h0 e1 e2 w0 : Nat → Int32), n0 ≤ n ∧ bits < 2 ^ m ∧ a13 12 = nI n0 ∧ a13 13 = nI bits ∧ a13 14 = nI nr0 ∧ nr0 ≤ 100 ∧
    (∀ i, i < n0 → a7 i = h0 i) ∧ (∀ i, i < m → bits.testBit i = true → a17 i = e1 i ∧ a18 i = e2 i ∧ a19 i = w0 i) ∧
    (∀ i, i < n0 → a9 i = (workP n0 h0 (fun i => decS (a13 i)) (fun i => decT (a13 i)) (mlist 18 bits e1 e2 w0) (nI nr0)).1 i) ∧
    i6 = nI (workP n0 h0 (fun i => decS (a13 i)) (fun i => decT (a13 i)) (mlist 18 bits e1 e2 w0) (nI nr0)).2.1 ∧
    i7 = bI (workP n0 h0 (fun i => decS (a13 i)) (fun i => decT (a13 i)) (mlist 18 bits e1 e2 w0) (nI nr0)).2.2
def Rsign (sg : Nat) (i12 j9 : Int32) (a22 b23 : Nat → Int32) : Prop := sg ≤ 40 ∧ i12 = nI sg ∧ j9 = nI sg ∧ ∀ i, i < sg → a22 i = b23 i
def Rord (od : Nat) (i13 j10 : Int32) (a23 a24 : Nat → Int32) (tx : Nat → Nat → Int32) (b24 b25 b26 : Nat → Int32) : Prop :=
  od ≤ 6 ∧ i13 = nI od ∧ j10 = nI od ∧ ∀ o, o < od → a24 o = b24 o ∧ ∃ z, z ≤ 40 ∧ a23 o = nI z ∧ b25 o = nI z ∧ (∀ i, i < z → tx o i = b26 (40 * o + i)) ∧ okT (fun i => b26 (40 * o + i)) z
def Rprep (bk : Nat) (a25 a26 a27 a28 a29 a30 : Nat → Int32) : Prop :=
  (∀ s, s < 8 → a28 s = nI (sm3 (fun h => (a26 h).toNatClampNeg) s) ∧ a29 s = nI (sm3 (fun h => (a27 h).toNatClampNeg) s)) ∧
  ∀ b s w, b < bk → s < 8 → w ≤ 200 → a30 ((b * 8 + s) * 201 + w) = -1 ∨ a30 ((b * 8 + s) * 201 + w) = nI (lc (fun i => (a25 i).toNatClampNeg) (fun h => (a26 h).toNatClampNeg) (fun h => (a27 h).toNatClampNeg) (bk - b) b s w)
def Rplan (bk : Nat) (i14 i15 j11 : Int32) (a25 a26 a27 a28 a29 a30 b27 b28 b29 : Nat → Int32) : Prop :=
  bk ≤ 8 ∧ i14 = nI bk ∧ j11 = nI bk ∧ (∀ i, i < bk → a25 i = b27 i ∧ ∃ x, x ≤ 100 ∧ b27 i = nI x) ∧ (∀ h, h < 3 → a26 h = b28 h ∧ a27 h = b29 h ∧ (∃ x, x ≤ 100 ∧ b28 h = nI x) ∧ ∃ x, x ≤ 100 ∧ b29 h = nI x) ∧ (¬ i15 = 0 → Rprep bk a25 a26 a27 a28 a29 a30)
def Rrow (a3 b20 : Nat → Int32) (nu : Nat → Nat → Int32) (b21 b22 : Nat → Int32) : Prop :=
  ∀ r, r < 4 → ((a3 r = -6 ∧ b20 r = -1) ∨ ∃ z, z ≤ 20 ∧ a3 r = nI z ∧ b20 r = nI z) ∧ ∀ i, i < 20 → isB (b22 (20 * r + i)) ∧ (b22 (20 * r + i) = 0 → nu r i = b21 (20 * r + i) ∧ rg (b21 (20 * r + i)) (-1000000) 1000000) ∧ (¬ b22 (20 * r + i) = 0 → nu r i = -1000001)
def Rterm (a2 b30 : Nat → Int32) : Prop := ∀ d, d < 4 → a2 d = b30 d
def Rmet (a0 a1 b10 b11 : Nat → Int32) : Prop := ∀ i, i < 12 → a0 i = b10 i ∧ a1 i = b11 i ∧ isB (b11 i)
def Rkn (a4 b12 : Nat → Int32) : Prop := ∀ i, i < 12 → a4 i = b12 i ∧ rg (b12 i) (-10000) 10000
def Rth (n : Nat) (T : Nat → Option Nat) (L : List Nat) (K : Nat → Nat) (F : Nat → Nat → Int32) (b2 b3 b4 b5 b6 b7 b8 b9 : Nat → Int32) : Prop :=
  (∀ i, i < 12 → thI (T i) L K F (b2 i) (b3 i) (b4 i) (b5 i) (b6 i) (b7 i) (b8 i) (b9 i)) ∧ (∀ i, n ≤ i → i < 12 → T i = none) ∧ (∀ i j q, i < 12 → j < 12 → T i = some q → T j = some q → i = j)
def RelP (k tk n m v sh nr sg od bk : Nat) (I : Nat → Int32) (A : Nat → Nat → Int32) (T : Nat → Option Nat) (L : List Nat) (K : Nat → Nat) (F : Nat → Nat → Int32) (J : Nat → Int32) (B : Nat → Nat → Int32) : Prop :=
  Rtime k tk (I 0) (J 3) ∧ Rcnt (I 1) (I 2) (I 3) (J 6) (J 7) (J 8) ∧ Rnode n (I 4) (J 0) (A 7) (A 8) (A 9) (B 0) (B 1) (B 13) ∧ Rmain n m (I 9) (J 1) (A 17) (A 18) (A 19) (B 14) (B 15) (B 16) ∧
  Rvalve m v sh (I 10) (I 11) (J 2) (A 20) (A 21) (B 17) (B 18) (B 19) ∧ Rnear nr (I 5) (J 4) (I 6) (J 5) ∧ Rmemo n m (I 6) (I 7) (I 8) (A 7) (A 9) (A 13) (A 17) (A 18) (A 19) ∧
  Rsign sg (I 12) (J 9) (A 22) (B 23) ∧ Rord od (I 13) (J 10) (A 23) (A 24) (pk6 (A 35) (A 36) (A 37) (A 38) (A 39) (A 40)) (B 24) (B 25) (B 26) ∧
  Rplan bk (I 14) (I 15) (J 11) (A 25) (A 26) (A 27) (A 28) (A 29) (A 30) (B 27) (B 28) (B 29) ∧ Rrow (A 3) (B 20) (pk4 (A 31) (A 32) (A 33) (A 34)) (B 21) (B 22) ∧
  Rterm (A 2) (B 30) ∧ Rmet (A 0) (A 1) (B 10) (B 11) ∧ Rkn (A 4) (B 12) ∧ Rth n T L K F (B 2) (B 3) (B 4) (B 5) (B 6) (B 7) (B 8) (B 9)
def Rel (k : Nat) (I : Nat → Int32) (A : Nat → Nat → Int32) (T : Nat → Option Nat) (L : List Nat) (K : Nat → Nat) (F : Nat → Nat → Int32) (J : Nat → Int32) (B : Nat → Nat → Int32) : Prop :=
  ∃ tk n m v sh nr sg od bk, RelP k tk n m v sh nr sg od bk I A T L K F J B
theorem Rtime.up {k tk : Nat} {i0 j3 : Int32} (h : Rtime k tk i0 j3) : Rtime (k + 1) tk i0 j3 := ⟨by have := h.1; omega, h.2⟩
theorem Rel.up {k : Nat} {I : Nat → Int32} {A : Nat → Nat → Int32} {T : Nat → Option Nat} {L : List Nat} {K : Nat → Nat} {F : Nat → Nat → Int32} {J : Nat → Int32} {B : Nat → Nat → Int32} (h : Rel k I A T L K F J B) : Rel (k + 1) I A T L K F J B := by
  obtain ⟨tk, n, m, v, sh, nr, sg, od, bk, h1, h2⟩ := h
  exact ⟨tk, n, m, v, sh, nr, sg, od, bk, h1.up, h2⟩
