/-! ===== FRAME: a contract beside other cells ===== -/
theorem Met.conseq {l : Launch} {y : MethodName} {ws : List Cond} {rm : Room} {Pc Pc' : Array Value → State → Prop} {Qc Qc' : Array Value → State → Outcome → State → Prop} {mc ms : Nat} {free free' : Addr → Prop} (hM : Met l y ws rm Pc Qc mc ms free) (hP : ∀ a s, Pc' a s → Pc a s) (hQ : ∀ a s o t, Pc' a s → Qc a s o t → Qc' a s o t) (hf : ∀ q, free q → free' q) : Met l y ws rm Pc' Qc' mc ms free' := by
  intro p e h1 h2 h3 s m args below hfr hap hPc hK
  obtain ⟨n, o, a1, a2, a3, hq, L, hF, hL⟩ := hM p e h1 h2 h3 s m args below hfr hap (hP _ _ hPc) hK
  exact ⟨n, o, a1, a2, a3, hQ _ _ _ _ hPc hq, L, hF, fun q hq => hf _ (hL q hq)⟩
theorem va_P.left {D : va_G} {cl : List vw_C} {w1 w2 : va_W} {H : Heap} (h : va_P D cl (w1 ++ w2) H) : va_P D cl w1 H := fun k q hk => h k q (by rw [List.getElem?_append_left (List.getElem?_eq_some_iff.mp hk).1]; exact hk)
theorem va_P.right {D : va_G} {cl : List vw_C} {w1 w2 : va_W} {H : Heap} (h : va_P D cl (w1 ++ w2) H) : va_P D cl w2 H := fun k q hk => h (w1.length + k) q (by rw [List.getElem?_append_right (by omega), Nat.add_sub_cancel_left]; exact hk)
theorem va_D.left {A : Nat → Prop} {w1 w2 : va_W} (h : va_D A (w1 ++ w2)) : va_D A w1 := by
  have g : ∀ (k : Nat) (q : Nat × va_E), w1[k]? = some q → (w1 ++ w2)[k]? = some q := fun k q hk => by rw [List.getElem?_append_left (List.getElem?_eq_some_iff.mp hk).1]; exact hk
  exact ⟨fun i j p q hi hj e => h.1 i j p q (g _ _ hi) (g _ _ hj) e, fun k q hk => h.2 k q (g _ _ hk)⟩
theorem va_D.right {A : Nat → Prop} {w1 w2 : va_W} (h : va_D A (w1 ++ w2)) : va_D A w2 := by
  have g : ∀ (k : Nat) (q : Nat × va_E), w2[k]? = some q → (w1 ++ w2)[w1.length + k]? = some q := fun k q hk => by rw [List.getElem?_append_right (by omega), Nat.add_sub_cancel_left]; exact hk
  exact ⟨fun i j p q hi hj e => by have := h.1 _ _ p q (g _ _ hi) (g _ _ hj) e; omega, fun k q hk => h.2 _ q (g _ _ hk)⟩
theorem va_D.apart {A : Nat → Prop} {w1 w2 : va_W} (h : va_D A (w1 ++ w2)) {i j : Nat} {p q : Nat × va_E} (hi : w1[i]? = some p) (hj : w2[j]? = some q) : p.1 ≠ q.1 := fun e => by
  have l1 := (List.getElem?_eq_some_iff.mp hi).1
  have := h.1 i (w1.length + j) p q (by rw [List.getElem?_append_left l1]; exact hi) (by rw [List.getElem?_append_right (by omega), Nat.add_sub_cancel_left]; exact hj) e
  omega
theorem va_A.subL {w0 w : va_W} {sz q : Nat} (h : va_A w sz q) : va_A (w0 ++ w) sz q := by
  rcases h with ⟨k, e, hk⟩ | h
  · exact Or.inl ⟨w0.length + k, e, by rw [List.getElem?_append_right (by omega), Nat.add_sub_cancel_left]; exact hk⟩
  · exact Or.inr h
theorem va_A.subR {w0 w : va_W} {sz q : Nat} (h : va_A w sz q) : va_A (w ++ w0) sz q := by
  rcases h with ⟨k, e, hk⟩ | h
  · exact Or.inl ⟨k, e, by rw [List.getElem?_append_left (List.getElem?_eq_some_iff.mp hk).1]; exact hk⟩
  · exact Or.inr h
/-- the heart of it: w0's cells are kept, and the callee's new world lies apart from them -/
theorem fr_core {D : va_G} {w0 w w1 : va_W} {s t : State} (hP : va_P D vwCl w0 s.heap) (hap : ∀ (i j : Nat) (p q : Nat × va_E), w0[i]? = some p → w[j]? = some q → p.1 ≠ q.1) (hP1 : va_P D vwCl w1 t.heap) (hD1 : va_D (va_A w s.heap.size) w1) (hF : va_F (va_A w s.heap.size) s t) :
    va_P D vwCl w0 t.heap ∧ ∀ (i j : Nat) (p q : Nat × va_E), w0[i]? = some p → w1[j]? = some q → p.1 ≠ q.1 := by
  have hn : ∀ (k : Nat) (p : Nat × va_E), w0[k]? = some p → p.1 < s.heap.size ∧ ¬ va_A w s.heap.size p.1 := fun k p hk => by
    have hl := (hP k p hk).lt
    refine ⟨hl, fun hA => ?_⟩
    rcases hA with ⟨j, e, hj⟩ | hA
    · exact hap k j p (p.1, e) hk hj rfl
    · omega
  refine ⟨hP.kept (fun k q hk => hF.2 q.1 (hn k q hk).1 (hn k q hk).2), fun i j p q hi hj e => ?_⟩
  have := hD1.2 j q hj
  rw [← e] at this
  exact (hn i p hi).2 this
theorem fr_iL {l : Launch} {D : va_G} {cy : Nat → ClassId} {y : MethodName} {ws : List Cond} {rm : Room} {av : List Value} {w : va_W} {S : Type} {wf : S → va_W} {post : Int32 → S → Prop} {mc ms : Nat} (w0 : va_W) (hM : ∀ sz, Met l y ws rm (va_Pc av (PreW D cy w sz)) (va_Qi post (fun u t => PostW D (va_A w sz) (wf u) t) (va_A w sz)) mc ms (va_A w sz)) :
    ∀ sz, Met l y ws rm (va_Pc av (PreW D cy (w0 ++ w) sz)) (va_Qi post (fun u t => PostW D (va_A (w0 ++ w) sz) (w0 ++ wf u) t) (va_A (w0 ++ w) sz)) mc ms (va_A (w0 ++ w) sz) := fun sz => by
  refine (hM sz).conseq (fun a s h => ?_) (fun a s o t h hq => ?_) (fun q h => h.subL)
  · obtain ⟨rfl, h1, h2, h3, h4, h5⟩ := h
    exact ⟨rfl, h1, h2.right, h3, h4.right, h5⟩
  · obtain ⟨rfl, rfl, h2, h3, h4, h5⟩ := h
    obtain ⟨⟨r, u, ho, hp, hP1, hD1⟩, hF⟩ := hq
    obtain ⟨hk, hx⟩ := fr_core h2.left (fun i j p q hi hj => h4.apart hi hj) hP1 hD1 hF
    exact ⟨⟨r, u, ho, hp, hk.app hP1, va_D.app (h4.left.weaken (fun k q hk _ => Or.inl ⟨k, q.2, by rw [List.getElem?_append_left (List.getElem?_eq_some_iff.mp hk).1]; exact hk⟩)) (hD1.weaken (fun _ _ _ h => h.subL)) hx⟩, hF.1, fun q h1 h2 => hF.2 q h1 (fun h => h2 h.subL)⟩
theorem fr_iR {l : Launch} {D : va_G} {cy : Nat → ClassId} {y : MethodName} {ws : List Cond} {rm : Room} {av : List Value} {w : va_W} {S : Type} {wf : S → va_W} {post : Int32 → S → Prop} {mc ms : Nat} (w0 : va_W) (hM : ∀ sz, Met l y ws rm (va_Pc av (PreW D cy w sz)) (va_Qi post (fun u t => PostW D (va_A w sz) (wf u) t) (va_A w sz)) mc ms (va_A w sz)) :
    ∀ sz, Met l y ws rm (va_Pc av (PreW D cy (w ++ w0) sz)) (va_Qi post (fun u t => PostW D (va_A (w ++ w0) sz) (wf u ++ w0) t) (va_A (w ++ w0) sz)) mc ms (va_A (w ++ w0) sz) := fun sz => by
  refine (hM sz).conseq (fun a s h => ?_) (fun a s o t h hq => ?_) (fun q h => h.subR)
  · obtain ⟨rfl, h1, h2, h3, h4, h5⟩ := h
    exact ⟨rfl, h1, h2.left, h3, h4.left, h5⟩
  · obtain ⟨rfl, rfl, h2, h3, h4, h5⟩ := h
    obtain ⟨⟨r, u, ho, hp, hP1, hD1⟩, hF⟩ := hq
    obtain ⟨hk, hx⟩ := fr_core h2.right (fun i j p q hi hj => (h4.apart hj hi).symm) hP1 hD1 hF
    exact ⟨⟨r, u, ho, hp, hP1.app hk, va_D.app (hD1.weaken (fun _ _ _ h => h.subR)) (h4.right.weaken (fun k q hk _ => Or.inl ⟨w.length + k, q.2, by rw [List.getElem?_append_right (by omega), Nat.add_sub_cancel_left]; exact hk⟩)) (fun i j p q hi hj => (hx j i q p hj hi).symm)⟩, hF.1, fun q h1 h2 => hF.2 q h1 (fun h => h2 h.subR)⟩
theorem fr_vL {l : Launch} {D : va_G} {cy : Nat → ClassId} {y : MethodName} {ws : List Cond} {rm : Room} {av : List Value} {w : va_W} {S : Type} {wf : S → va_W} {post : S → Prop} {mc ms : Nat} (w0 : va_W) (hM : ∀ sz, Met l y ws rm (va_Pc av (PreW D cy w sz)) (va_Qv post (fun u t => PostW D (va_A w sz) (wf u) t) (va_A w sz)) mc ms (va_A w sz)) :
    ∀ sz, Met l y ws rm (va_Pc av (PreW D cy (w0 ++ w) sz)) (va_Qv post (fun u t => PostW D (va_A (w0 ++ w) sz) (w0 ++ wf u) t) (va_A (w0 ++ w) sz)) mc ms (va_A (w0 ++ w) sz) := fun sz => by
  refine (hM sz).conseq (fun a s h => ?_) (fun a s o t h hq => ?_) (fun q h => h.subL)
  · obtain ⟨rfl, h1, h2, h3, h4, h5⟩ := h
    exact ⟨rfl, h1, h2.right, h3, h4.right, h5⟩
  · obtain ⟨rfl, rfl, h2, h3, h4, h5⟩ := h
    obtain ⟨⟨u, ho, hp, hP1, hD1⟩, hF⟩ := hq
    obtain ⟨hk, hx⟩ := fr_core h2.left (fun i j p q hi hj => h4.apart hi hj) hP1 hD1 hF
    exact ⟨⟨u, ho, hp, hk.app hP1, va_D.app (h4.left.weaken (fun k q hk _ => Or.inl ⟨k, q.2, by rw [List.getElem?_append_left (List.getElem?_eq_some_iff.mp hk).1]; exact hk⟩)) (hD1.weaken (fun _ _ _ h => h.subL)) hx⟩, hF.1, fun q h1 h2 => hF.2 q h1 (fun h => h2 h.subL)⟩
theorem fr_pL {l : Launch} {D : va_G} {cy : Nat → ClassId} {y : MethodName} {ws : List Cond} {rm : Room} {av : List Value} {w : va_W} {post : Int32 → Prop} (w0 : va_W) (hM : ∀ sz, Met l y ws rm (va_Pc av (PreW D cy w sz)) (vp_Si post) 0 0 (fun _ => False)) :
    ∀ sz, Met l y ws rm (va_Pc av (PreW D cy (w0 ++ w) sz)) (vp_Si post) 0 0 (fun _ => False) := fun sz =>
  (hM sz).conseq (fun a s h => by obtain ⟨rfl, h1, h2, h3, h4, h5⟩ := h; exact ⟨rfl, h1, h2.right, h3, h4.right, h5⟩) (fun _ _ _ _ _ h => h) (fun _ h => h)
theorem fr_pR {l : Launch} {D : va_G} {cy : Nat → ClassId} {y : MethodName} {ws : List Cond} {rm : Room} {av : List Value} {w : va_W} {post : Int32 → Prop} (w0 : va_W) (hM : ∀ sz, Met l y ws rm (va_Pc av (PreW D cy w sz)) (vp_Si post) 0 0 (fun _ => False)) :
    ∀ sz, Met l y ws rm (va_Pc av (PreW D cy (w ++ w0) sz)) (vp_Si post) 0 0 (fun _ => False) := fun sz =>
  (hM sz).conseq (fun a s h => by obtain ⟨rfl, h1, h2, h3, h4, h5⟩ := h; exact ⟨rfl, h1, h2.left, h3, h4.left, h5⟩) (fun _ _ _ _ _ h => h) (fun _ h => h)
theorem zz_mna : True := by
  have := @Stand.multianewarray2F
  trivial
