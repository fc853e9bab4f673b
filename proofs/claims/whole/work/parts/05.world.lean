def nfl : Nat → Nat := fun k => match k with
  | 0 => 6
  | 1 => 3
  | 2 => 7
  | 3 => 3
  | 4 => 4
  | 9 => 3
  | _ => 0
def tcell (K : Nat → Nat) (F : Nat → Nat → Int32) : Nat → va_E := fun a => .inr (K a, (List.range (nfl (K a))).map (fun j => Value.int (F a j)))
theorem isB.nar {v : Int32} (h : isB v) : narrow .boolean (.int v) = .int v := by rcases h with rfl | rfl <;> rfl
theorem isB.fit {v : Int32} (h : isB v) : fits .boolean (.int v) = true := by rcases h with rfl | rfl <;> rfl
theorem wd_get {n : Nat} {ad : Nat → Nat} {E : Nat → va_E} {P : va_W} {h : Nat} (hh : h < n) : (((List.range n).map (fun h => (ad h, E h))) ++ P)[h]? = some (ad h, E h) := by
  rw [List.getElem?_append_left (by simp; exact hh), List.getElem?_map, List.getElem?_range hh]; rfl
theorem wd_set {n : Nat} {ad : Nat → Nat} {E : Nat → va_E} {P : va_W} {h : Nat} (hh : h < n) (x : va_E) : (((List.range n).map (fun h => (ad h, E h))) ++ P).set h (ad h, x) = ((List.range n).map (fun j => (ad j, va_up E h x j))) ++ P := by
  rw [List.set_append_left _ _ (by simp; exact hh)]
  congr 1
  apply List.ext_getElem?
  intro i
  rw [List.getElem?_set]
  by_cases e : h = i
  · subst e
    simp [hh, va_up]
  · rw [if_neg e]
    by_cases hi : i < n
    · rw [List.getElem?_map, List.getElem?_map, List.getElem?_range hi]
      simp [va_up, Ne.symm e]
    · rw [List.getElem?_eq_none (by simp; omega), List.getElem?_eq_none (by simp; omega)]
def tyC (k : Nat) : Nat := match k with
  | 1 => 1
  | 10 => 1
  | _ => 0
def EC (cy : Nat → ClassId) (ad : Nat → Nat) (I : Nat → Int32) (A : Nat → Nat → Int32) (T : Nat → Option Nat) : Nat → va_E := fun h => match h with
  | 0 => .inr (10, [.ref (ad 1), .ref (ad 2), .ref (ad 3), .ref (ad 4), .ref (ad 8), .ref (ad 9), .ref (ad 10), .ref (ad 6), .ref (ad 11), .ref (ad 12), .ref (ad 13), .ref (ad 14), .int (I 0), .int (I 1), .int (I 2), .int (I 3)])
  | 1 => .inr (5, [.ref (ad 2), .int (I 4), .int (I 5), .int (I 6), .int (I 7), .ref (ad 15), .ref (ad 16), .ref (ad 17), .ref (ad 5), .ref (ad 18), .ref (ad 19), .ref (ad 20), .ref (ad 21), .ref (ad 22), .ref (ad 23), .ref (ad 24), .int (I 8)])
  | 2 => .inr (7, [.int (I 9), .int (I 10), .int (I 11), .ref (ad 25), .ref (ad 26), .ref (ad 27), .ref (ad 28), .ref (ad 29)])
  | 3 => .inr (6, [.int (I 12), .int (I 13), .ref (ad 30), .ref (ad 7), .ref (ad 31), .ref (ad 32)])
  | 4 => .inr (8, [.int (I 14), .ref (ad 33), .ref (ad 34), .ref (ad 35), .ref (ad 36), .ref (ad 37), .ref (ad 38), .int (I 15)])
  | 5 => .inl (cy 2, 12, .inr (.inr (.inr (.inr T))))
  | 6 => .inl (cy 3, 4, .inr (.inr (.inr (.inr (fun i => if i < 4 then some (ad (39 + i)) else none)))))
  | 7 => .inl (cy 3, 6, .inr (.inr (.inr (.inr (fun i => if i < 6 then some (ad (43 + i)) else none)))))
  | k + 8 => .inl (cy (tyC k), lenC k, .inl (A k))
def wC (cy : Nat → ClassId) (ad : Nat → Nat) (I : Nat → Int32) (A : Nat → Nat → Int32) (T : Nat → Option Nat) (L : List Nat) (K : Nat → Nat) (F : Nat → Nat → Int32) : va_W := (List.range 49).map (fun h => (ad h, EC cy ad I A T h)) ++ va_pl L (tcell K F)
section WC
variable {cy : Nat → ClassId} {ad : Nat → Nat} {I : Nat → Int32} {A : Nat → Nat → Int32} {T : Nat → Option Nat} {L : List Nat} {K : Nat → Nat} {F : Nat → Nat → Int32}
theorem wC_get {h : Nat} (hh : h < 49) : (wC cy ad I A T L K F)[h]? = some (ad h, EC cy ad I A T h) := wd_get hh
theorem wC_arr (k : Nat) (hk : k < 41) {h : Nat} (hh : k + 8 = h) : (wC cy ad I A T L K F)[h]? = some (ad h, .inl (cy (tyC k), lenC k, .inl (A k))) := by
  subst hh
  exact wd_get (by omega)
theorem wC_setA (k : Nat) (hk : k < 41) {h : Nat} (hh : k + 8 = h) (f : Nat → Int32) : (wC cy ad I A T L K F).set h (ad h, .inl (cy (tyC k), lenC k, .inl f)) = wC cy ad I (va_up A k f) T L K F := by
  subst hh
  unfold wC
  rw [wd_set (by omega)]
  congr 2
  funext h
  congr 1
  by_cases e : h = k + 8
  · subst e
    simp [va_up, EC]
  · rw [va_up, if_neg e]
    match h, e with
    | 0, _ => rfl
    | 1, _ => rfl
    | 2, _ => rfl
    | 3, _ => rfl
    | 4, _ => rfl
    | 5, _ => rfl
    | 6, _ => rfl
    | 7, _ => rfl
    | j + 8, e => simp [EC, va_up, show ¬ j = k from fun q => e (by rw [q])]
theorem wC_setI0 (v : Int32) : (wC cy ad I A T L K F).set 0 (ad 0, .inr (10, [.ref (ad 1), .ref (ad 2), .ref (ad 3), .ref (ad 4), .ref (ad 8), .ref (ad 9), .ref (ad 10), .ref (ad 6), .ref (ad 11), .ref (ad 12), .ref (ad 13), .ref (ad 14), .int v, .int (I 1), .int (I 2), .int (I 3)])) = wC cy ad (va_up I 0 v) A T L K F := by
  unfold wC
  rw [wd_set (by omega)]
  congr 2
  funext h
  congr 1
  match h with
  | 0 => rfl
  | 1 => rfl
  | 2 => rfl
  | 3 => rfl
  | 4 => rfl
  | 5 => rfl
  | 6 => rfl
  | 7 => rfl
  | j + 8 => simp [EC, va_up]
theorem wC_setI1 (v : Int32) : (wC cy ad I A T L K F).set 0 (ad 0, .inr (10, [.ref (ad 1), .ref (ad 2), .ref (ad 3), .ref (ad 4), .ref (ad 8), .ref (ad 9), .ref (ad 10), .ref (ad 6), .ref (ad 11), .ref (ad 12), .ref (ad 13), .ref (ad 14), .int (I 0), .int v, .int (I 2), .int (I 3)])) = wC cy ad (va_up I 1 v) A T L K F := by
  unfold wC
  rw [wd_set (by omega)]
  congr 2
  funext h
  congr 1
  match h with
  | 0 => rfl
  | 1 => rfl
  | 2 => rfl
  | 3 => rfl
  | 4 => rfl
  | 5 => rfl
  | 6 => rfl
  | 7 => rfl
  | j + 8 => simp [EC, va_up]
theorem wC_setI2 (v : Int32) : (wC cy ad I A T L K F).set 0 (ad 0, .inr (10, [.ref (ad 1), .ref (ad 2), .ref (ad 3), .ref (ad 4), .ref (ad 8), .ref (ad 9), .ref (ad 10), .ref (ad 6), .ref (ad 11), .ref (ad 12), .ref (ad 13), .ref (ad 14), .int (I 0), .int (I 1), .int v, .int (I 3)])) = wC cy ad (va_up I 2 v) A T L K F := by
  unfold wC
  rw [wd_set (by omega)]
  congr 2
  funext h
  congr 1
  match h with
  | 0 => rfl
  | 1 => rfl
  | 2 => rfl
  | 3 => rfl
  | 4 => rfl
  | 5 => rfl
  | 6 => rfl
  | 7 => rfl
  | j + 8 => simp [EC, va_up]
theorem wC_setI3 (v : Int32) : (wC cy ad I A T L K F).set 0 (ad 0, .inr (10, [.ref (ad 1), .ref (ad 2), .ref (ad 3), .ref (ad 4), .ref (ad 8), .ref (ad 9), .ref (ad 10), .ref (ad 6), .ref (ad 11), .ref (ad 12), .ref (ad 13), .ref (ad 14), .int (I 0), .int (I 1), .int (I 2), .int v])) = wC cy ad (va_up I 3 v) A T L K F := by
  unfold wC
  rw [wd_set (by omega)]
  congr 2
  funext h
  congr 1
  match h with
  | 0 => rfl
  | 1 => rfl
  | 2 => rfl
  | 3 => rfl
  | 4 => rfl
  | 5 => rfl
  | 6 => rfl
  | 7 => rfl
  | j + 8 => simp [EC, va_up]
theorem wC_setI4 (v : Int32) : (wC cy ad I A T L K F).set 1 (ad 1, .inr (5, [.ref (ad 2), .int v, .int (I 5), .int (I 6), .int (I 7), .ref (ad 15), .ref (ad 16), .ref (ad 17), .ref (ad 5), .ref (ad 18), .ref (ad 19), .ref (ad 20), .ref (ad 21), .ref (ad 22), .ref (ad 23), .ref (ad 24), .int (I 8)])) = wC cy ad (va_up I 4 v) A T L K F := by
  unfold wC
  rw [wd_set (by omega)]
  congr 2
  funext h
  congr 1
  match h with
  | 0 => rfl
  | 1 => rfl
  | 2 => rfl
  | 3 => rfl
  | 4 => rfl
  | 5 => rfl
  | 6 => rfl
  | 7 => rfl
  | j + 8 => simp [EC, va_up]
theorem wC_setI5 (v : Int32) : (wC cy ad I A T L K F).set 1 (ad 1, .inr (5, [.ref (ad 2), .int (I 4), .int v, .int (I 6), .int (I 7), .ref (ad 15), .ref (ad 16), .ref (ad 17), .ref (ad 5), .ref (ad 18), .ref (ad 19), .ref (ad 20), .ref (ad 21), .ref (ad 22), .ref (ad 23), .ref (ad 24), .int (I 8)])) = wC cy ad (va_up I 5 v) A T L K F := by
  unfold wC
  rw [wd_set (by omega)]
  congr 2
  funext h
  congr 1
  match h with
  | 0 => rfl
  | 1 => rfl
  | 2 => rfl
  | 3 => rfl
  | 4 => rfl
  | 5 => rfl
  | 6 => rfl
  | 7 => rfl
  | j + 8 => simp [EC, va_up]
theorem wC_setI6 (v : Int32) : (wC cy ad I A T L K F).set 1 (ad 1, .inr (5, [.ref (ad 2), .int (I 4), .int (I 5), .int v, .int (I 7), .ref (ad 15), .ref (ad 16), .ref (ad 17), .ref (ad 5), .ref (ad 18), .ref (ad 19), .ref (ad 20), .ref (ad 21), .ref (ad 22), .ref (ad 23), .ref (ad 24), .int (I 8)])) = wC cy ad (va_up I 6 v) A T L K F := by
  unfold wC
  rw [wd_set (by omega)]
  congr 2
  funext h
  congr 1
  match h with
  | 0 => rfl
  | 1 => rfl
  | 2 => rfl
  | 3 => rfl
  | 4 => rfl
  | 5 => rfl
  | 6 => rfl
  | 7 => rfl
  | j + 8 => simp [EC, va_up]
theorem wC_setI7 (v : Int32) : (wC cy ad I A T L K F).set 1 (ad 1, .inr (5, [.ref (ad 2), .int (I 4), .int (I 5), .int (I 6), .int v, .ref (ad 15), .ref (ad 16), .ref (ad 17), .ref (ad 5), .ref (ad 18), .ref (ad 19), .ref (ad 20), .ref (ad 21), .ref (ad 22), .ref (ad 23), .ref (ad 24), .int (I 8)])) = wC cy ad (va_up I 7 v) A T L K F := by
  unfold wC
  rw [wd_set (by omega)]
  congr 2
  funext h
  congr 1
  match h with
  | 0 => rfl
  | 1 => rfl
  | 2 => rfl
  | 3 => rfl
  | 4 => rfl
  | 5 => rfl
  | 6 => rfl
  | 7 => rfl
  | j + 8 => simp [EC, va_up]
theorem wC_setI8 (v : Int32) : (wC cy ad I A T L K F).set 1 (ad 1, .inr (5, [.ref (ad 2), .int (I 4), .int (I 5), .int (I 6), .int (I 7), .ref (ad 15), .ref (ad 16), .ref (ad 17), .ref (ad 5), .ref (ad 18), .ref (ad 19), .ref (ad 20), .ref (ad 21), .ref (ad 22), .ref (ad 23), .ref (ad 24), .int v])) = wC cy ad (va_up I 8 v) A T L K F := by
  unfold wC
  rw [wd_set (by omega)]
  congr 2
  funext h
  congr 1
  match h with
  | 0 => rfl
  | 1 => rfl
  | 2 => rfl
  | 3 => rfl
  | 4 => rfl
  | 5 => rfl
  | 6 => rfl
  | 7 => rfl
  | j + 8 => simp [EC, va_up]
theorem wC_setI9 (v : Int32) : (wC cy ad I A T L K F).set 2 (ad 2, .inr (7, [.int v, .int (I 10), .int (I 11), .ref (ad 25), .ref (ad 26), .ref (ad 27), .ref (ad 28), .ref (ad 29)])) = wC cy ad (va_up I 9 v) A T L K F := by
  unfold wC
  rw [wd_set (by omega)]
  congr 2
  funext h
  congr 1
  match h with
  | 0 => rfl
  | 1 => rfl
  | 2 => rfl
  | 3 => rfl
  | 4 => rfl
  | 5 => rfl
  | 6 => rfl
  | 7 => rfl
  | j + 8 => simp [EC, va_up]
theorem wC_setI10 (v : Int32) : (wC cy ad I A T L K F).set 2 (ad 2, .inr (7, [.int (I 9), .int v, .int (I 11), .ref (ad 25), .ref (ad 26), .ref (ad 27), .ref (ad 28), .ref (ad 29)])) = wC cy ad (va_up I 10 v) A T L K F := by
  unfold wC
  rw [wd_set (by omega)]
  congr 2
  funext h
  congr 1
  match h with
  | 0 => rfl
  | 1 => rfl
  | 2 => rfl
  | 3 => rfl
  | 4 => rfl
  | 5 => rfl
  | 6 => rfl
  | 7 => rfl
  | j + 8 => simp [EC, va_up]
theorem wC_setI11 (v : Int32) : (wC cy ad I A T L K F).set 2 (ad 2, .inr (7, [.int (I 9), .int (I 10), .int v, .ref (ad 25), .ref (ad 26), .ref (ad 27), .ref (ad 28), .ref (ad 29)])) = wC cy ad (va_up I 11 v) A T L K F := by
  unfold wC
  rw [wd_set (by omega)]
  congr 2
  funext h
  congr 1
  match h with
  | 0 => rfl
  | 1 => rfl
  | 2 => rfl
  | 3 => rfl
  | 4 => rfl
  | 5 => rfl
  | 6 => rfl
  | 7 => rfl
  | j + 8 => simp [EC, va_up]
theorem wC_setI12 (v : Int32) : (wC cy ad I A T L K F).set 3 (ad 3, .inr (6, [.int v, .int (I 13), .ref (ad 30), .ref (ad 7), .ref (ad 31), .ref (ad 32)])) = wC cy ad (va_up I 12 v) A T L K F := by
  unfold wC
  rw [wd_set (by omega)]
  congr 2
  funext h
  congr 1
  match h with
  | 0 => rfl
  | 1 => rfl
  | 2 => rfl
  | 3 => rfl
  | 4 => rfl
  | 5 => rfl
  | 6 => rfl
  | 7 => rfl
  | j + 8 => simp [EC, va_up]
theorem wC_setI13 (v : Int32) : (wC cy ad I A T L K F).set 3 (ad 3, .inr (6, [.int (I 12), .int v, .ref (ad 30), .ref (ad 7), .ref (ad 31), .ref (ad 32)])) = wC cy ad (va_up I 13 v) A T L K F := by
  unfold wC
  rw [wd_set (by omega)]
  congr 2
  funext h
  congr 1
  match h with
  | 0 => rfl
  | 1 => rfl
  | 2 => rfl
  | 3 => rfl
  | 4 => rfl
  | 5 => rfl
  | 6 => rfl
  | 7 => rfl
  | j + 8 => simp [EC, va_up]
theorem wC_setI14 (v : Int32) : (wC cy ad I A T L K F).set 4 (ad 4, .inr (8, [.int v, .ref (ad 33), .ref (ad 34), .ref (ad 35), .ref (ad 36), .ref (ad 37), .ref (ad 38), .int (I 15)])) = wC cy ad (va_up I 14 v) A T L K F := by
  unfold wC
  rw [wd_set (by omega)]
  congr 2
  funext h
  congr 1
  match h with
  | 0 => rfl
  | 1 => rfl
  | 2 => rfl
  | 3 => rfl
  | 4 => rfl
  | 5 => rfl
  | 6 => rfl
  | 7 => rfl
  | j + 8 => simp [EC, va_up]
theorem wC_setI15 (v : Int32) : (wC cy ad I A T L K F).set 4 (ad 4, .inr (8, [.int (I 14), .ref (ad 33), .ref (ad 34), .ref (ad 35), .ref (ad 36), .ref (ad 37), .ref (ad 38), .int v])) = wC cy ad (va_up I 15 v) A T L K F := by
  unfold wC
  rw [wd_set (by omega)]
  congr 2
  funext h
  congr 1
  match h with
  | 0 => rfl
  | 1 => rfl
  | 2 => rfl
  | 3 => rfl
  | 4 => rfl
  | 5 => rfl
  | 6 => rfl
  | 7 => rfl
  | j + 8 => simp [EC, va_up]
theorem wC_setT (f : Nat → Option Nat) : (wC cy ad I A T L K F).set 5 (ad 5, .inl (cy 2, 12, .inr (.inr (.inr (.inr f))))) = wC cy ad I A f L K F := by
  unfold wC
  rw [wd_set (by omega)]
  congr 2
  funext h
  congr 1
  match h with
  | 0 => rfl
  | 1 => rfl
  | 2 => rfl
  | 3 => rfl
  | 4 => rfl
  | 5 => rfl
  | 6 => rfl
  | 7 => rfl
  | j + 8 => simp [EC, va_up]
theorem wC_th {q ci : Nat} (hq : q ∈ L) (hk : K q = ci) : ∃ k : Nat, (wC cy ad I A T L K F)[k]? = some (q, .inr (ci, (List.range (nfl ci)).map (fun j => Value.int (F q j)))) ∧ (wC cy ad I A T L K F)[k]? = some (q, tcell K F q) := by
  obtain ⟨k, hk2⟩ := va_pl_get (X := (List.range 49).map (fun h => (ad h, EC cy ad I A T h))) (f := tcell K F) hq
  refine ⟨k, ?_, hk2⟩
  subst hk
  exact hk2
theorem wC_setF {Z : Nat → Prop} {q k fj : Nat} {v : Int32} (hD : va_D Z (wC cy ad I A T L K F)) (hq : q ∈ L) (hk : (wC cy ad I A T L K F)[k]? = some (q, tcell K F q)) {ci : Nat} (hc : K q = ci) (hj : fj < nfl ci) : (wC cy ad I A T L K F).set k (q, .inr (ci, ((List.range (nfl ci)).map (fun j => Value.int (F q j))).set fj (.int v))) = wC cy ad I A T L K (sF F q fj v) := by
  subst hc
  unfold sF
  unfold wC at hD hk ⊢
  rw [va_pl_set hD hq hk]
  congr 2
  funext a
  by_cases e : a = q
  · subst e
    simp only [va_up, tcell, if_pos]
    congr 2
    apply List.ext_getElem?
    intro i
    rw [List.getElem?_set]
    by_cases e2 : fj = i
    · subst e2
      simp [hj]
    · rw [if_neg e2]
      by_cases hi : i < nfl (K a)
      · rw [List.getElem?_map, List.getElem?_map, List.getElem?_range hi]
        simp [va_up, Ne.symm e2]
      · rw [List.getElem?_eq_none (by simp; omega), List.getElem?_eq_none (by simp; omega)]
  · simp [va_up, e, tcell]
theorem wC_fresh {Z : Nat → Prop} {q : Nat} {E : va_E} (hD : va_D Z (wC cy ad I A T L K F ++ [(q, E)])) : q ∉ L := by
  intro hq
  obtain ⟨k, hk⟩ := va_pl_get (X := (List.range 49).map (fun h => (ad h, EC cy ad I A T h))) (f := tcell K F) hq
  have hkl := (List.getElem?_eq_some_iff.mp hk).1
  have e := hD.1 k (wC cy ad I A T L K F).length (q, tcell K F q) (q, E) (by rw [List.getElem?_append_left (show k < (wC cy ad I A T L K F).length from hkl)]; exact hk) (by simp) rfl
  have : k < (wC cy ad I A T L K F).length := hkl
  omega
theorem wC_new {Z : Nat → Prop} {q ci : Nat} {fs : List Value} (hD : va_D Z (wC cy ad I A T L K F ++ [(q, .inr (ci, fs))])) (hf : fs = (List.range (nfl ci)).map (fun _ => Value.int 0)) : wC cy ad I A T L K F ++ [(q, .inr (ci, fs))] = wC cy ad I A T (L ++ [q]) (va_up K q ci) (va_up F q (fun _ => 0)) := by
  subst hf
  have hn : q ∉ L := wC_fresh hD
  unfold wC
  rw [List.append_assoc, va_pl_push hn]
  congr 2
  funext a
  by_cases e : a = q
  · subst e
    simp [va_up, tcell]
  · simp [va_up, e, tcell]
end WC
def tyM (k : Nat) : Nat := match k with
  | 8 => 1
  | 11 => 1
  | 19 => 1
  | 22 => 1
  | 32 => 1
  | _ => 0
def lenM (k : Nat) : Nat := match k with
  | 0 => 12
  | 1 => 12
  | 2 => 12
  | 3 => 12
  | 4 => 12
  | 5 => 12
  | 6 => 12
  | 7 => 12
  | 8 => 12
  | 9 => 12
  | 10 => 12
  | 11 => 12
  | 12 => 12
  | 13 => 12
  | 14 => 18
  | 15 => 18
  | 16 => 18
  | 17 => 12
  | 18 => 12
  | 19 => 12
  | 20 => 4
  | 21 => 80
  | 22 => 80
  | 23 => 40
  | 24 => 6
  | 25 => 6
  | 26 => 240
  | 27 => 8
  | 28 => 3
  | 29 => 3
  | 30 => 4
  | 31 => 12
  | 32 => 12
  | 33 => 12
  | 34 => 12
  | 35 => 12
  | 36 => 14472
  | _ => 0
def EM (cy : Nat → ClassId) (ad : Nat → Nat) (I : Nat → Int32) (A : Nat → Nat → Int32) : Nat → va_E := fun h => match h with
  | 0 => .inr (11, [.int (I 0), .ref (ad 1), .ref (ad 2), .ref (ad 3), .ref (ad 4), .ref (ad 5), .ref (ad 6), .ref (ad 7), .ref (ad 8), .ref (ad 9), .ref (ad 10), .ref (ad 11), .ref (ad 12), .ref (ad 13), .ref (ad 14), .int (I 1), .ref (ad 15), .ref (ad 16), .ref (ad 17), .int (I 2), .ref (ad 18), .ref (ad 19), .ref (ad 20), .int (I 3), .int (I 4), .int (I 5), .int (I 6), .int (I 7), .int (I 8), .ref (ad 21), .ref (ad 22), .ref (ad 23), .int (I 9), .ref (ad 24), .int (I 10), .ref (ad 25), .ref (ad 26), .ref (ad 27), .int (I 11), .ref (ad 28), .ref (ad 29), .ref (ad 30), .ref (ad 31), .ref (ad 32), .ref (ad 33), .int (I 12), .ref (ad 34), .ref (ad 35), .ref (ad 36), .ref (ad 37)])
  | k + 1 => .inl (cy (tyM k), lenM k, .inl (A k))
def wM (cy : Nat → ClassId) (ad : Nat → Nat) (I : Nat → Int32) (A : Nat → Nat → Int32) : va_W := (List.range 38).map (fun h => (ad h, EM cy ad I A h)) ++ []
section WM
variable {cy : Nat → ClassId} {ad : Nat → Nat} {I : Nat → Int32} {A : Nat → Nat → Int32} {T : Nat → Option Nat} {L : List Nat} {K : Nat → Nat} {F : Nat → Nat → Int32}
theorem wM_get {h : Nat} (hh : h < 38) : (wM cy ad I A)[h]? = some (ad h, EM cy ad I A h) := wd_get hh
theorem wM_arr (k : Nat) (hk : k < 37) {h : Nat} (hh : k + 1 = h) : (wM cy ad I A)[h]? = some (ad h, .inl (cy (tyM k), lenM k, .inl (A k))) := by
  subst hh
  exact wd_get (by omega)
theorem wM_setA (k : Nat) (hk : k < 37) {h : Nat} (hh : k + 1 = h) (f : Nat → Int32) : (wM cy ad I A).set h (ad h, .inl (cy (tyM k), lenM k, .inl f)) = wM cy ad I (va_up A k f) := by
  subst hh
  unfold wM
  rw [wd_set (by omega)]
  congr 2
  funext h
  congr 1
  by_cases e : h = k + 1
  · subst e
    simp [va_up, EM]
  · rw [va_up, if_neg e]
    match h, e with
    | 0, _ => rfl
    | j + 1, e => simp [EM, va_up, show ¬ j = k from fun q => e (by rw [q])]
theorem wM_setI0 (v : Int32) : (wM cy ad I A).set 0 (ad 0, .inr (11, [.int v, .ref (ad 1), .ref (ad 2), .ref (ad 3), .ref (ad 4), .ref (ad 5), .ref (ad 6), .ref (ad 7), .ref (ad 8), .ref (ad 9), .ref (ad 10), .ref (ad 11), .ref (ad 12), .ref (ad 13), .ref (ad 14), .int (I 1), .ref (ad 15), .ref (ad 16), .ref (ad 17), .int (I 2), .ref (ad 18), .ref (ad 19), .ref (ad 20), .int (I 3), .int (I 4), .int (I 5), .int (I 6), .int (I 7), .int (I 8), .ref (ad 21), .ref (ad 22), .ref (ad 23), .int (I 9), .ref (ad 24), .int (I 10), .ref (ad 25), .ref (ad 26), .ref (ad 27), .int (I 11), .ref (ad 28), .ref (ad 29), .ref (ad 30), .ref (ad 31), .ref (ad 32), .ref (ad 33), .int (I 12), .ref (ad 34), .ref (ad 35), .ref (ad 36), .ref (ad 37)])) = wM cy ad (va_up I 0 v) A := by
  unfold wM
  rw [wd_set (by omega)]
  congr 2
  funext h
  congr 1
  match h with
  | 0 => rfl
  | j + 1 => simp [EM, va_up]
theorem wM_setI1 (v : Int32) : (wM cy ad I A).set 0 (ad 0, .inr (11, [.int (I 0), .ref (ad 1), .ref (ad 2), .ref (ad 3), .ref (ad 4), .ref (ad 5), .ref (ad 6), .ref (ad 7), .ref (ad 8), .ref (ad 9), .ref (ad 10), .ref (ad 11), .ref (ad 12), .ref (ad 13), .ref (ad 14), .int v, .ref (ad 15), .ref (ad 16), .ref (ad 17), .int (I 2), .ref (ad 18), .ref (ad 19), .ref (ad 20), .int (I 3), .int (I 4), .int (I 5), .int (I 6), .int (I 7), .int (I 8), .ref (ad 21), .ref (ad 22), .ref (ad 23), .int (I 9), .ref (ad 24), .int (I 10), .ref (ad 25), .ref (ad 26), .ref (ad 27), .int (I 11), .ref (ad 28), .ref (ad 29), .ref (ad 30), .ref (ad 31), .ref (ad 32), .ref (ad 33), .int (I 12), .ref (ad 34), .ref (ad 35), .ref (ad 36), .ref (ad 37)])) = wM cy ad (va_up I 1 v) A := by
  unfold wM
  rw [wd_set (by omega)]
  congr 2
  funext h
  congr 1
  match h with
  | 0 => rfl
  | j + 1 => simp [EM, va_up]
theorem wM_setI2 (v : Int32) : (wM cy ad I A).set 0 (ad 0, .inr (11, [.int (I 0), .ref (ad 1), .ref (ad 2), .ref (ad 3), .ref (ad 4), .ref (ad 5), .ref (ad 6), .ref (ad 7), .ref (ad 8), .ref (ad 9), .ref (ad 10), .ref (ad 11), .ref (ad 12), .ref (ad 13), .ref (ad 14), .int (I 1), .ref (ad 15), .ref (ad 16), .ref (ad 17), .int v, .ref (ad 18), .ref (ad 19), .ref (ad 20), .int (I 3), .int (I 4), .int (I 5), .int (I 6), .int (I 7), .int (I 8), .ref (ad 21), .ref (ad 22), .ref (ad 23), .int (I 9), .ref (ad 24), .int (I 10), .ref (ad 25), .ref (ad 26), .ref (ad 27), .int (I 11), .ref (ad 28), .ref (ad 29), .ref (ad 30), .ref (ad 31), .ref (ad 32), .ref (ad 33), .int (I 12), .ref (ad 34), .ref (ad 35), .ref (ad 36), .ref (ad 37)])) = wM cy ad (va_up I 2 v) A := by
  unfold wM
  rw [wd_set (by omega)]
  congr 2
  funext h
  congr 1
  match h with
  | 0 => rfl
  | j + 1 => simp [EM, va_up]
theorem wM_setI3 (v : Int32) : (wM cy ad I A).set 0 (ad 0, .inr (11, [.int (I 0), .ref (ad 1), .ref (ad 2), .ref (ad 3), .ref (ad 4), .ref (ad 5), .ref (ad 6), .ref (ad 7), .ref (ad 8), .ref (ad 9), .ref (ad 10), .ref (ad 11), .ref (ad 12), .ref (ad 13), .ref (ad 14), .int (I 1), .ref (ad 15), .ref (ad 16), .ref (ad 17), .int (I 2), .ref (ad 18), .ref (ad 19), .ref (ad 20), .int v, .int (I 4), .int (I 5), .int (I 6), .int (I 7), .int (I 8), .ref (ad 21), .ref (ad 22), .ref (ad 23), .int (I 9), .ref (ad 24), .int (I 10), .ref (ad 25), .ref (ad 26), .ref (ad 27), .int (I 11), .ref (ad 28), .ref (ad 29), .ref (ad 30), .ref (ad 31), .ref (ad 32), .ref (ad 33), .int (I 12), .ref (ad 34), .ref (ad 35), .ref (ad 36), .ref (ad 37)])) = wM cy ad (va_up I 3 v) A := by
  unfold wM
  rw [wd_set (by omega)]
  congr 2
  funext h
  congr 1
  match h with
  | 0 => rfl
  | j + 1 => simp [EM, va_up]
theorem wM_setI4 (v : Int32) : (wM cy ad I A).set 0 (ad 0, .inr (11, [.int (I 0), .ref (ad 1), .ref (ad 2), .ref (ad 3), .ref (ad 4), .ref (ad 5), .ref (ad 6), .ref (ad 7), .ref (ad 8), .ref (ad 9), .ref (ad 10), .ref (ad 11), .ref (ad 12), .ref (ad 13), .ref (ad 14), .int (I 1), .ref (ad 15), .ref (ad 16), .ref (ad 17), .int (I 2), .ref (ad 18), .ref (ad 19), .ref (ad 20), .int (I 3), .int v, .int (I 5), .int (I 6), .int (I 7), .int (I 8), .ref (ad 21), .ref (ad 22), .ref (ad 23), .int (I 9), .ref (ad 24), .int (I 10), .ref (ad 25), .ref (ad 26), .ref (ad 27), .int (I 11), .ref (ad 28), .ref (ad 29), .ref (ad 30), .ref (ad 31), .ref (ad 32), .ref (ad 33), .int (I 12), .ref (ad 34), .ref (ad 35), .ref (ad 36), .ref (ad 37)])) = wM cy ad (va_up I 4 v) A := by
  unfold wM
  rw [wd_set (by omega)]
  congr 2
  funext h
  congr 1
  match h with
  | 0 => rfl
  | j + 1 => simp [EM, va_up]
theorem wM_setI5 (v : Int32) : (wM cy ad I A).set 0 (ad 0, .inr (11, [.int (I 0), .ref (ad 1), .ref (ad 2), .ref (ad 3), .ref (ad 4), .ref (ad 5), .ref (ad 6), .ref (ad 7), .ref (ad 8), .ref (ad 9), .ref (ad 10), .ref (ad 11), .ref (ad 12), .ref (ad 13), .ref (ad 14), .int (I 1), .ref (ad 15), .ref (ad 16), .ref (ad 17), .int (I 2), .ref (ad 18), .ref (ad 19), .ref (ad 20), .int (I 3), .int (I 4), .int v, .int (I 6), .int (I 7), .int (I 8), .ref (ad 21), .ref (ad 22), .ref (ad 23), .int (I 9), .ref (ad 24), .int (I 10), .ref (ad 25), .ref (ad 26), .ref (ad 27), .int (I 11), .ref (ad 28), .ref (ad 29), .ref (ad 30), .ref (ad 31), .ref (ad 32), .ref (ad 33), .int (I 12), .ref (ad 34), .ref (ad 35), .ref (ad 36), .ref (ad 37)])) = wM cy ad (va_up I 5 v) A := by
  unfold wM
  rw [wd_set (by omega)]
  congr 2
  funext h
  congr 1
  match h with
  | 0 => rfl
  | j + 1 => simp [EM, va_up]
theorem wM_setI6 (v : Int32) : (wM cy ad I A).set 0 (ad 0, .inr (11, [.int (I 0), .ref (ad 1), .ref (ad 2), .ref (ad 3), .ref (ad 4), .ref (ad 5), .ref (ad 6), .ref (ad 7), .ref (ad 8), .ref (ad 9), .ref (ad 10), .ref (ad 11), .ref (ad 12), .ref (ad 13), .ref (ad 14), .int (I 1), .ref (ad 15), .ref (ad 16), .ref (ad 17), .int (I 2), .ref (ad 18), .ref (ad 19), .ref (ad 20), .int (I 3), .int (I 4), .int (I 5), .int v, .int (I 7), .int (I 8), .ref (ad 21), .ref (ad 22), .ref (ad 23), .int (I 9), .ref (ad 24), .int (I 10), .ref (ad 25), .ref (ad 26), .ref (ad 27), .int (I 11), .ref (ad 28), .ref (ad 29), .ref (ad 30), .ref (ad 31), .ref (ad 32), .ref (ad 33), .int (I 12), .ref (ad 34), .ref (ad 35), .ref (ad 36), .ref (ad 37)])) = wM cy ad (va_up I 6 v) A := by
  unfold wM
  rw [wd_set (by omega)]
  congr 2
  funext h
  congr 1
  match h with
  | 0 => rfl
  | j + 1 => simp [EM, va_up]
theorem wM_setI7 (v : Int32) : (wM cy ad I A).set 0 (ad 0, .inr (11, [.int (I 0), .ref (ad 1), .ref (ad 2), .ref (ad 3), .ref (ad 4), .ref (ad 5), .ref (ad 6), .ref (ad 7), .ref (ad 8), .ref (ad 9), .ref (ad 10), .ref (ad 11), .ref (ad 12), .ref (ad 13), .ref (ad 14), .int (I 1), .ref (ad 15), .ref (ad 16), .ref (ad 17), .int (I 2), .ref (ad 18), .ref (ad 19), .ref (ad 20), .int (I 3), .int (I 4), .int (I 5), .int (I 6), .int v, .int (I 8), .ref (ad 21), .ref (ad 22), .ref (ad 23), .int (I 9), .ref (ad 24), .int (I 10), .ref (ad 25), .ref (ad 26), .ref (ad 27), .int (I 11), .ref (ad 28), .ref (ad 29), .ref (ad 30), .ref (ad 31), .ref (ad 32), .ref (ad 33), .int (I 12), .ref (ad 34), .ref (ad 35), .ref (ad 36), .ref (ad 37)])) = wM cy ad (va_up I 7 v) A := by
  unfold wM
  rw [wd_set (by omega)]
  congr 2
  funext h
  congr 1
  match h with
  | 0 => rfl
  | j + 1 => simp [EM, va_up]
theorem wM_setI8 (v : Int32) : (wM cy ad I A).set 0 (ad 0, .inr (11, [.int (I 0), .ref (ad 1), .ref (ad 2), .ref (ad 3), .ref (ad 4), .ref (ad 5), .ref (ad 6), .ref (ad 7), .ref (ad 8), .ref (ad 9), .ref (ad 10), .ref (ad 11), .ref (ad 12), .ref (ad 13), .ref (ad 14), .int (I 1), .ref (ad 15), .ref (ad 16), .ref (ad 17), .int (I 2), .ref (ad 18), .ref (ad 19), .ref (ad 20), .int (I 3), .int (I 4), .int (I 5), .int (I 6), .int (I 7), .int v, .ref (ad 21), .ref (ad 22), .ref (ad 23), .int (I 9), .ref (ad 24), .int (I 10), .ref (ad 25), .ref (ad 26), .ref (ad 27), .int (I 11), .ref (ad 28), .ref (ad 29), .ref (ad 30), .ref (ad 31), .ref (ad 32), .ref (ad 33), .int (I 12), .ref (ad 34), .ref (ad 35), .ref (ad 36), .ref (ad 37)])) = wM cy ad (va_up I 8 v) A := by
  unfold wM
  rw [wd_set (by omega)]
  congr 2
  funext h
  congr 1
  match h with
  | 0 => rfl
  | j + 1 => simp [EM, va_up]
theorem wM_setI9 (v : Int32) : (wM cy ad I A).set 0 (ad 0, .inr (11, [.int (I 0), .ref (ad 1), .ref (ad 2), .ref (ad 3), .ref (ad 4), .ref (ad 5), .ref (ad 6), .ref (ad 7), .ref (ad 8), .ref (ad 9), .ref (ad 10), .ref (ad 11), .ref (ad 12), .ref (ad 13), .ref (ad 14), .int (I 1), .ref (ad 15), .ref (ad 16), .ref (ad 17), .int (I 2), .ref (ad 18), .ref (ad 19), .ref (ad 20), .int (I 3), .int (I 4), .int (I 5), .int (I 6), .int (I 7), .int (I 8), .ref (ad 21), .ref (ad 22), .ref (ad 23), .int v, .ref (ad 24), .int (I 10), .ref (ad 25), .ref (ad 26), .ref (ad 27), .int (I 11), .ref (ad 28), .ref (ad 29), .ref (ad 30), .ref (ad 31), .ref (ad 32), .ref (ad 33), .int (I 12), .ref (ad 34), .ref (ad 35), .ref (ad 36), .ref (ad 37)])) = wM cy ad (va_up I 9 v) A := by
  unfold wM
  rw [wd_set (by omega)]
  congr 2
  funext h
  congr 1
  match h with
  | 0 => rfl
  | j + 1 => simp [EM, va_up]
theorem wM_setI10 (v : Int32) : (wM cy ad I A).set 0 (ad 0, .inr (11, [.int (I 0), .ref (ad 1), .ref (ad 2), .ref (ad 3), .ref (ad 4), .ref (ad 5), .ref (ad 6), .ref (ad 7), .ref (ad 8), .ref (ad 9), .ref (ad 10), .ref (ad 11), .ref (ad 12), .ref (ad 13), .ref (ad 14), .int (I 1), .ref (ad 15), .ref (ad 16), .ref (ad 17), .int (I 2), .ref (ad 18), .ref (ad 19), .ref (ad 20), .int (I 3), .int (I 4), .int (I 5), .int (I 6), .int (I 7), .int (I 8), .ref (ad 21), .ref (ad 22), .ref (ad 23), .int (I 9), .ref (ad 24), .int v, .ref (ad 25), .ref (ad 26), .ref (ad 27), .int (I 11), .ref (ad 28), .ref (ad 29), .ref (ad 30), .ref (ad 31), .ref (ad 32), .ref (ad 33), .int (I 12), .ref (ad 34), .ref (ad 35), .ref (ad 36), .ref (ad 37)])) = wM cy ad (va_up I 10 v) A := by
  unfold wM
  rw [wd_set (by omega)]
  congr 2
  funext h
  congr 1
  match h with
  | 0 => rfl
  | j + 1 => simp [EM, va_up]
theorem wM_setI11 (v : Int32) : (wM cy ad I A).set 0 (ad 0, .inr (11, [.int (I 0), .ref (ad 1), .ref (ad 2), .ref (ad 3), .ref (ad 4), .ref (ad 5), .ref (ad 6), .ref (ad 7), .ref (ad 8), .ref (ad 9), .ref (ad 10), .ref (ad 11), .ref (ad 12), .ref (ad 13), .ref (ad 14), .int (I 1), .ref (ad 15), .ref (ad 16), .ref (ad 17), .int (I 2), .ref (ad 18), .ref (ad 19), .ref (ad 20), .int (I 3), .int (I 4), .int (I 5), .int (I 6), .int (I 7), .int (I 8), .ref (ad 21), .ref (ad 22), .ref (ad 23), .int (I 9), .ref (ad 24), .int (I 10), .ref (ad 25), .ref (ad 26), .ref (ad 27), .int v, .ref (ad 28), .ref (ad 29), .ref (ad 30), .ref (ad 31), .ref (ad 32), .ref (ad 33), .int (I 12), .ref (ad 34), .ref (ad 35), .ref (ad 36), .ref (ad 37)])) = wM cy ad (va_up I 11 v) A := by
  unfold wM
  rw [wd_set (by omega)]
  congr 2
  funext h
  congr 1
  match h with
  | 0 => rfl
  | j + 1 => simp [EM, va_up]
theorem wM_setI12 (v : Int32) : (wM cy ad I A).set 0 (ad 0, .inr (11, [.int (I 0), .ref (ad 1), .ref (ad 2), .ref (ad 3), .ref (ad 4), .ref (ad 5), .ref (ad 6), .ref (ad 7), .ref (ad 8), .ref (ad 9), .ref (ad 10), .ref (ad 11), .ref (ad 12), .ref (ad 13), .ref (ad 14), .int (I 1), .ref (ad 15), .ref (ad 16), .ref (ad 17), .int (I 2), .ref (ad 18), .ref (ad 19), .ref (ad 20), .int (I 3), .int (I 4), .int (I 5), .int (I 6), .int (I 7), .int (I 8), .ref (ad 21), .ref (ad 22), .ref (ad 23), .int (I 9), .ref (ad 24), .int (I 10), .ref (ad 25), .ref (ad 26), .ref (ad 27), .int (I 11), .ref (ad 28), .ref (ad 29), .ref (ad 30), .ref (ad 31), .ref (ad 32), .ref (ad 33), .int v, .ref (ad 34), .ref (ad 35), .ref (ad 36), .ref (ad 37)])) = wM cy ad (va_up I 12 v) A := by
  unfold wM
  rw [wd_set (by omega)]
  congr 2
  funext h
  congr 1
  match h with
  | 0 => rfl
  | j + 1 => simp [EM, va_up]
end WM
