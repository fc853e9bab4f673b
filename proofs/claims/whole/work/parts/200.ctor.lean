/-! ===== FRAME: a contract beside other cells ===== -/
theorem Met.conseq {l : Launch} {y : MethodName} {ws : List Cond} {rm : Room} {Pc Pc' : Array Value → State → Prop} {Qc Qc' : Array Value → State → Outcome → State → Prop} {mc ms : Nat} {free free' : Addr → Prop} (hM : Met l y ws rm Pc Qc mc ms free) (hP : ∀ a s, Pc' a s → Pc a s) (hQ : ∀ a s o t, Pc' a s → Qc a s o t → Qc' a s o t) (hf : ∀ q, free q → free' q) : Met l y ws rm Pc' Qc' mc ms free' := by
  intro p e h1 h2 h3 s m args below hfr hap hPc hK
  obtain ⟨n, o, a1, a2, a3, hq, L, hF, hL⟩ := hM p e h1 h2 h3 s m args below hfr hap (hP _ _ hPc) hK
  exact ⟨n, o, a1, a2, a3, hQ _ _ _ _ hPc hq, L, hF, fun q hq => hf _ (hL q hq)⟩
theorem va_P.left {D : va_G} {cl : List vw_C} {w1 w2 : va_W} {H : Heap} (h : va_P D cl (w1 ++ w2) H) : va_P D cl w1 H := fun k q hk => h k q (by rw [List.getElem?_append_left (List.getElem?_eq_some_iff.mp hk).1]; exact hk)
theorem va_P.right {D : va_G} {cl : List vw_C} {w1 w2 : va_W} {H : Heap} (h : va_P D cl (w1 ++ w2) H) : va_P D cl w2 H := fun k q hk => h (w1.length + k) q (by rw [List.getElem?_append_right (by omega), Nat.add_sub_cancel_left]; exact hk)
theorem va_D.left {A : Nat → Prop} {w1 w2 : va_W} (h : va_D A (w1 ++ w2)) : va_D A w1 := by
  have g : ∀ (k : Nat) (q : Nat × va_E), w1[k]? = some q → (w1 ++ w2)[k]? = some q := fun k q hk => by rw [List.getElem?_append_left (List.getElem?_eq_some_iff.mp hk).1]; exact hk
  exact ⟨fun i j p q hi hj e => h.1 i j p q (g _ _ hi) (g _ _ hj) e, fun k q hk => h.2 k q (g _ _ hk)⟩
theorem va_D.right {A : Nat → Prop} {w1 w2 : va_W} (h : va_D A (w1 ++ w2)) : va_D A w2 := by
  have g : ∀ (k : Nat) (q : Nat × va_E), w2[k]? = some q → (w1 ++ w2)[w1.length + k]? = some q := fun k q hk => by rw [List.getElem?_append_right (by omega), Nat.add_sub_cancel_left]; exact hk
  exact ⟨fun i j p q hi hj e => by have := h.1 _ _ p q (g _ _ hi) (g _ _ hj) e; omega, fun k q hk => h.2 _ q (g _ _ hk)⟩
theorem va_D.apart {A : Nat → Prop} {w1 w2 : va_W} (h : va_D A (w1 ++ w2)) {i j : Nat} {p q : Nat × va_E} (hi : w1[i]? = some p) (hj : w2[j]? = some q) : p.1 ≠ q.1 := fun e => by
  have l1 := (List.getElem?_eq_some_iff.mp hi).1
  have := h.1 i (w1.length + j) p q (by rw [List.getElem?_append_left l1]; exact hi) (by rw [List.getElem?_append_right (by omega), Nat.add_sub_cancel_left]; exact hj) e
  omega
theorem va_A.subL {w0 w : va_W} {sz q : Nat} (h : va_A w sz q) : va_A (w0 ++ w) sz q := by
  rcases h with ⟨k, e, hk⟩ | h
  · exact Or.inl ⟨w0.length + k, e, by rw [List.getElem?_append_right (by omega), Nat.add_sub_cancel_left]; exact hk⟩
  · exact Or.inr h
theorem va_A.subR {w0 w : va_W} {sz q : Nat} (h : va_A w sz q) : va_A (w ++ w0) sz q := by
  rcases h with ⟨k, e, hk⟩ | h
  · exact Or.inl ⟨k, e, by rw [List.getElem?_append_left (List.getElem?_eq_some_iff.mp hk).1]; exact hk⟩
  · exact Or.inr h
/-- the heart of it: w0's cells are kept, and the callee's new world lies apart from them -/
theorem fr_core {D : va_G} {w0 w w1 : va_W} {s t : State} (hP : va_P D vwCl w0 s.heap) (hap : ∀ (i j : Nat) (p q : Nat × va_E), w0[i]? = some p → w[j]? = some q → p.1 ≠ q.1) (hP1 : va_P D vwCl w1 t.heap) (hD1 : va_D (va_A w s.heap.size) w1) (hF : va_F (va_A w s.heap.size) s t) :
    va_P D vwCl w0 t.heap ∧ ∀ (i j : Nat) (p q : Nat × va_E), w0[i]? = some p → w1[j]? = some q → p.1 ≠ q.1 := by
  have hn : ∀ (k : Nat) (p : Nat × va_E), w0[k]? = some p → p.1 < s.heap.size ∧ ¬ va_A w s.heap.size p.1 := fun k p hk => by
    have hl := (hP k p hk).lt
    refine ⟨hl, fun hA => ?_⟩
    rcases hA with ⟨j, e, hj⟩ | hA
    · exact hap k j p (p.1, e) hk hj rfl
    · omega
  refine ⟨hP.kept (fun k q hk => hF.2 q.1 (hn k q hk).1 (hn k q hk).2), fun i j p q hi hj e => ?_⟩
  have := hD1.2 j q hj
  rw [← e] at this
  exact (hn i p hi).2 this
theorem fr_iL {l : Launch} {D : va_G} {cy : Nat → ClassId} {y : MethodName} {ws : List Cond} {rm : Room} {av : List Value} {w : va_W} {S : Type} {wf : S → va_W} {post : Int32 → S → Prop} {mc ms : Nat} (w0 : va_W) (hM : ∀ sz, Met l y ws rm (va_Pc av (PreW D cy w sz)) (va_Qi post (fun u t => PostW D (va_A w sz) (wf u) t) (va_A w sz)) mc ms (va_A w sz)) :
    ∀ sz, Met l y ws rm (va_Pc av (PreW D cy (w0 ++ w) sz)) (va_Qi post (fun u t => PostW D (va_A (w0 ++ w) sz) (w0 ++ wf u) t) (va_A (w0 ++ w) sz)) mc ms (va_A (w0 ++ w) sz) := fun sz => by
  refine (hM sz).conseq (fun a s h => ?_) (fun a s o t h hq => ?_) (fun q h => h.subL)
  · obtain ⟨rfl, h1, h2, h3, h4, h5⟩ := h
    exact ⟨rfl, h1, h2.right, h3, h4.right, h5⟩
  · obtain ⟨rfl, rfl, h2, h3, h4, h5⟩ := h
    obtain ⟨⟨r, u, ho, hp, hP1, hD1⟩, hF⟩ := hq
    obtain ⟨hk, hx⟩ := fr_core h2.left (fun i j p q hi hj => h4.apart hi hj) hP1 hD1 hF
    exact ⟨⟨r, u, ho, hp, hk.app hP1, va_D.app (h4.left.weaken (fun k q hk _ => Or.inl ⟨k, q.2, by rw [List.getElem?_append_left (List.getElem?_eq_some_iff.mp hk).1]; exact hk⟩)) (hD1.weaken (fun _ _ _ h => h.subL)) hx⟩, hF.1, fun q h1 h2 => hF.2 q h1 (fun h => h2 h.subL)⟩
theorem fr_iR {l : Launch} {D : va_G} {cy : Nat → ClassId} {y : MethodName} {ws : List Cond} {rm : Room} {av : List Value} {w : va_W} {S : Type} {wf : S → va_W} {post : Int32 → S → Prop} {mc ms : Nat} (w0 : va_W) (hM : ∀ sz, Met l y ws rm (va_Pc av (PreW D cy w sz)) (va_Qi post (fun u t => PostW D (va_A w sz) (wf u) t) (va_A w sz)) mc ms (va_A w sz)) :
    ∀ sz, Met l y ws rm (va_Pc av (PreW D cy (w ++ w0) sz)) (va_Qi post (fun u t => PostW D (va_A (w ++ w0) sz) (wf u ++ w0) t) (va_A (w ++ w0) sz)) mc ms (va_A (w ++ w0) sz) := fun sz => by
  refine (hM sz).conseq (fun a s h => ?_) (fun a s o t h hq => ?_) (fun q h => h.subR)
  · obtain ⟨rfl, h1, h2, h3, h4, h5⟩ := h
    exact ⟨rfl, h1, h2.left, h3, h4.left, h5⟩
  · obtain ⟨rfl, rfl, h2, h3, h4, h5⟩ := h
    obtain ⟨⟨r, u, ho, hp, hP1, hD1⟩, hF⟩ := hq
    obtain ⟨hk, hx⟩ := fr_core h2.right (fun i j p q hi hj => (h4.apart hj hi).symm) hP1 hD1 hF
    exact ⟨⟨r, u, ho, hp, hP1.app hk, va_D.app (hD1.weaken (fun _ _ _ h => h.subR)) (h4.right.weaken (fun k q hk _ => Or.inl ⟨w.length + k, q.2, by rw [List.getElem?_append_right (by omega), Nat.add_sub_cancel_left]; exact hk⟩)) (fun i j p q hi hj => (hx j i q p hj hi).symm)⟩, hF.1, fun q h1 h2 => hF.2 q h1 (fun h => h2 h.subR)⟩
theorem fr_vL {l : Launch} {D : va_G} {cy : Nat → ClassId} {y : MethodName} {ws : List Cond} {rm : Room} {av : List Value} {w : va_W} {S : Type} {wf : S → va_W} {post : S → Prop} {mc ms : Nat} (w0 : va_W) (hM : ∀ sz, Met l y ws rm (va_Pc av (PreW D cy w sz)) (va_Qv post (fun u t => PostW D (va_A w sz) (wf u) t) (va_A w sz)) mc ms (va_A w sz)) :
    ∀ sz, Met l y ws rm (va_Pc av (PreW D cy (w0 ++ w) sz)) (va_Qv post (fun u t => PostW D (va_A (w0 ++ w) sz) (w0 ++ wf u) t) (va_A (w0 ++ w) sz)) mc ms (va_A (w0 ++ w) sz) := fun sz => by
  refine (hM sz).conseq (fun a s h => ?_) (fun a s o t h hq => ?_) (fun q h => h.subL)
  · obtain ⟨rfl, h1, h2, h3, h4, h5⟩ := h
    exact ⟨rfl, h1, h2.right, h3, h4.right, h5⟩
  · obtain ⟨rfl, rfl, h2, h3, h4, h5⟩ := h
    obtain ⟨⟨u, ho, hp, hP1, hD1⟩, hF⟩ := hq
    obtain ⟨hk, hx⟩ := fr_core h2.left (fun i j p q hi hj => h4.apart hi hj) hP1 hD1 hF
    exact ⟨⟨u, ho, hp, hk.app hP1, va_D.app (h4.left.weaken (fun k q hk _ => Or.inl ⟨k, q.2, by rw [List.getElem?_append_left (List.getElem?_eq_some_iff.mp hk).1]; exact hk⟩)) (hD1.weaken (fun _ _ _ h => h.subL)) hx⟩, hF.1, fun q h1 h2 => hF.2 q h1 (fun h => h2 h.subL)⟩
theorem fr_pL {l : Launch} {D : va_G} {cy : Nat → ClassId} {y : MethodName} {ws : List Cond} {rm : Room} {av : List Value} {w : va_W} {post : Int32 → Prop} (w0 : va_W) (hM : ∀ sz, Met l y ws rm (va_Pc av (PreW D cy w sz)) (vp_Si post) 0 0 (fun _ => False)) :
    ∀ sz, Met l y ws rm (va_Pc av (PreW D cy (w0 ++ w) sz)) (vp_Si post) 0 0 (fun _ => False) := fun sz =>
  (hM sz).conseq (fun a s h => by obtain ⟨rfl, h1, h2, h3, h4, h5⟩ := h; exact ⟨rfl, h1, h2.right, h3, h4.right, h5⟩) (fun _ _ _ _ _ h => h) (fun _ h => h)
theorem fr_pR {l : Launch} {D : va_G} {cy : Nat → ClassId} {y : MethodName} {ws : List Cond} {rm : Room} {av : List Value} {w : va_W} {post : Int32 → Prop} (w0 : va_W) (hM : ∀ sz, Met l y ws rm (va_Pc av (PreW D cy w sz)) (vp_Si post) 0 0 (fun _ => False)) :
    ∀ sz, Met l y ws rm (va_Pc av (PreW D cy (w ++ w0) sz)) (vp_Si post) 0 0 (fun _ => False) := fun sz =>
  (hM sz).conseq (fun a s h => by obtain ⟨rfl, h1, h2, h3, h4, h5⟩ := h; exact ⟨rfl, h1, h2.left, h3, h4.left, h5⟩) (fun _ _ _ _ _ h => h) (fun _ h => h)
theorem ct_outer (c : ClassId) (N h0 : Nat) : ∀ i : Nat, Jvm.Free.Multi.outerC c N h0 i = arrV c N (fun j => va_rf (if j < i then some (h0 + 1 + j) else none))
  | 0 => by
    show ({ cls := c, slots := Array.replicate N .null, vm := .none } : Cell) = _
    rw [arrV_new]
    refine congrArg (arrV c N) (funext fun j => ?_)
    simp [va_rf]
  | i + 1 => by
    show (Jvm.Free.Multi.outerC c N h0 i).setSlot i (.ref (h0 + 1 + i)) = _
    rw [ct_outer c N h0 i, arrV_store]
    refine congrArg (arrV c N) (funext fun j => ?_)
    by_cases e : j = i
    · subst e
      simp [updV, va_rf]
    · by_cases h : j < i
      · simp [updV, e, h, Nat.lt_succ_of_lt h]
      · simp [updV, e, h, show ¬ j < i + 1 by omega]
theorem w_arrI : Cond.arrayClass (newarray.typeOf .int) ∈ GW := GW_1 (List.mem_of_getElem? (i := 72) (by decide +kernel)) (by decide +kernel)
theorem w_arrZ : Cond.arrayClass (newarray.typeOf .boolean) ∈ GW := GW_1 (List.mem_of_getElem? (i := 136) (by decide +kernel)) (by decide +kernel)
/-! ===== CONSTRUCTORS: rows that make arrays ===== -/
section NEWA
variable {p : Program} {l : Launch} {e : Env} {R : Room} {s : State} {m : MethodId} {args : Array Value} {below : List Frame} {meth : Method} {c : Code} {H : Heap} {locs : List Loc} {cells slots : Nat} {Q : State → Prop}
variable {cc : ByteArray} {pc n nL : Nat} {ls : Array Slot} {rest : List Value} {D : va_G} {cy : Nat → ClassId} {Z : Nat → Prop} {own : String} {w : va_W} {tb : List (Nat × Instr × Nat)}
theorem i_newaI {x : Int32} {N : Nat} (C : CX D cy own cc tb nL p s m args c Z) (k : Nat) (hk : tb[k]? = some (pc, .newarray .int, 2)) (hn : pc + 2 = n) (h : HXw D Z s.heap H locs w) (hx0 : ¬ x < 0) (hN : x.toNatClampNeg = N) (hb : N * 4 ≤ 536870912) (hc : cells + 1 ≤ R.cells) (hs : slots + N ≤ R.slots) (kk : ∀ (q : Nat) (H : Heap), HXw D Z s.heap H locs (w ++ [(q, .inl (cy 0, N, .inl (fun _ => 0)))]) → W p l e R s m args below meth c H locs (cells + 1) (slots + N) Q (F0 m n ls (.ref q :: rest))) : W p l e R s m args below meth c H locs cells slots Q (F0 m pc ls (.int x :: rest)) := by
  subst hn
  refine va_newa (atype := .int) (a0 := (N, .inl (fun _ => 0))) C.hx C.hb (C.hts _ w_arrI) rfl C.hK h.1 h.2.1 h.2.2 C.hA (fun cA => rfl) hx0 hN hb hc hs (C.dg hk) (fun q cA H1 hK hP hD hS => ?_)
  have e1 : s.vm.findClass ("[" ++ (FieldType.int).toString) = some cA := (hK.2 4 (cA, .int) rfl).2
  have e2 : s.vm.findClass ("[" ++ (FieldType.int).toString) = some (cy 0) := (C.hK.2 0 (cy 0, .int) rfl).2
  have e3 : cA = cy 0 := Option.some.inj (e1.symm.trans e2)
  subst e3
  exact kk q H1 ⟨hP, hD, hS⟩
theorem i_newaZ {x : Int32} {N : Nat} (C : CX D cy own cc tb nL p s m args c Z) (k : Nat) (hk : tb[k]? = some (pc, .newarray .boolean, 2)) (hn : pc + 2 = n) (h : HXw D Z s.heap H locs w) (hx0 : ¬ x < 0) (hN : x.toNatClampNeg = N) (hb : N * 1 ≤ 536870912) (hc : cells + 1 ≤ R.cells) (hs : slots + N ≤ R.slots) (kk : ∀ (q : Nat) (H : Heap), HXw D Z s.heap H locs (w ++ [(q, .inl (cy 1, N, .inl (fun _ => 0)))]) → W p l e R s m args below meth c H locs (cells + 1) (slots + N) Q (F0 m n ls (.ref q :: rest))) : W p l e R s m args below meth c H locs cells slots Q (F0 m pc ls (.int x :: rest)) := by
  subst hn
  refine va_newa (atype := .boolean) (a0 := (N, .inl (fun _ => 0))) C.hx C.hb (C.hts _ w_arrZ) rfl C.hK h.1 h.2.1 h.2.2 C.hA (fun cA => rfl) hx0 hN hb hc hs (C.dg hk) (fun q cA H1 hK hP hD hS => ?_)
  have e1 : s.vm.findClass ("[" ++ (FieldType.boolean).toString) = some cA := (hK.2 4 (cA, .boolean) rfl).2
  have e2 : s.vm.findClass ("[" ++ (FieldType.boolean).toString) = some (cy 1) := (C.hK.2 1 (cy 1, .boolean) rfl).2
  have e3 : cA = cy 1 := Option.some.inj (e1.symm.trans e2)
  subst e3
  exact kk q H1 ⟨hP, hD, hS⟩
theorem i_newaT {x : Int32} {N ix : Nat} (C : CX D cy own cc tb nL p s m args c Z) (k : Nat) (hk : tb[k]? = some (pc, .anewarray ix, 3)) (hn : pc + 3 = n) (h : HXw D Z s.heap H locs w) (hw : Cond.classLink own ix "PipeWorks$Thing" ∈ GW) (hx0 : ¬ x < 0) (hN : x.toNatClampNeg = N) (hb : N * 4 ≤ 536870912) (hc : cells + 1 ≤ R.cells) (hs : slots + N ≤ R.slots) (kk : ∀ (q : Nat) (H : Heap), HXw D Z s.heap H locs (w ++ [(q, .inl (cy 2, N, .inr (.inr (.inr (.inr (fun _ => none))))))]) → W p l e R s m args below meth c H locs (cells + 1) (slots + N) Q (F0 m n ls (.ref q :: rest))) : W p l e R s m args below meth c H locs cells slots Q (F0 m pc ls (.int x :: rest)) := by
  subst hn
  refine va_newq C.hx C.hb C.hown (C.hts _ hw) C.hN.2.2.1 C.hK h.1 h.2.1 h.2.2 C.hA hx0 hN hb hc hs (C.dg hk) (fun q cA H1 hK hP hD hS => ?_)
  obtain ⟨-, -, -, -, -, e1⟩ := (hK.2 4 (cA, .object "PipeWorks$Thing") rfl).2
  obtain ⟨-, -, -, -, -, e2⟩ := (C.hK.2 2 (cy 2, .object "PipeWorks$Thing") rfl).2
  have e3 : cA = cy 2 := Option.some.inj (e1.symm.trans e2)
  subst e3
  exact kk q H1 ⟨hP, hD, hS⟩
theorem i_mna {x y : Int32} {N M ix : Nat} (C : CX D cy own cc tb nL p s m args c Z) (k : Nat) (hk : tb[k]? = some (pc, .multianewarray ix 2, 4)) (hn : pc + 4 = n) (h : HXw D Z s.heap H locs w) (hw : Cond.classLink own ix "[[I" ∈ GW) (hx0 : ¬ x < 0) (hy0 : ¬ y < 0) (hN : x.toNatClampNeg = N) (hM : y.toNatClampNeg = M) (hb1 : N * 4 ≤ 536870912) (hb2 : M * 4 ≤ 536870912) (hc : cells + (1 + N) ≤ R.cells) (hs : slots + (N + N * M) ≤ R.slots) (kk : ∀ (q : Nat) (H : Heap), HXw D Z s.heap H locs ((w ++ [(q, .inl (cy 3, N, .inr (.inr (.inr (.inr (fun i => if i < N then some (q + 1 + i) else none))))))]) ++ (List.range N).map (fun i => (q + 1 + i, .inl (cy 0, M, .inl (fun _ => 0))))) → W p l e R s m args below meth c H locs (cells + 1 + N) (slots + N + N * M) Q (F0 m n ls (.ref q :: rest))) : W p l e R s m args below meth c H locs cells slots Q (F0 m pc ls (.int y :: .int x :: rest)) := by
  subst hn
  subst hN
  subst hM
  intro T hT Xs
  obtain ⟨vm₁, cA, comp, -, fA, fC, hO, -, X', step⟩ := Xs.multianewarray2F (ty := .int) C.hx C.hown (C.hts _ hw) C.hN.2.2.2 (C.hts _ w_arrI) (g := F0 m pc ls (.int y :: .int x :: rest)) rfl (by rw [C.hb]; exact C.dg hk) rfl hx0 hy0 hb1 hb2 (by omega) rfl rfl hc hs
  have e1 : cA = cy 3 := Option.some.inj (fA.symm.trans (C.hK.2 3 (cy 3, .array .int) rfl).2)
  have e2 : comp = cy 0 := Option.some.inj (fC.symm.trans (C.hK.2 0 (cy 0, .int) rfl).2)
  subst e1
  subst e2
  generalize hF : Jvm.Free.Multi.fill (T.setVm vm₁) (cy 3) (cy 0) x.toNatClampNeg y.toNatClampNeg (defaultValue .int) x.toNatClampNeg = Fl at X' step
  have hTh : (T.setVm vm₁).heap = H := hT
  obtain ⟨f1, f2, -, -⟩ := Jvm.Free.Multi.fill_facts (T.setVm vm₁) (cy 3) (cy 0) x.toNatClampNeg y.toNatClampNeg (defaultValue .int) x.toNatClampNeg
  rw [hF, hTh] at f1 f2
  have hold : ∀ z : Nat, z < H.size → Fl.heap[z]? = H[z]? := fun z hz => by
    have := Jvm.Free.Multi.fill_old (T.setVm vm₁) (cy 3) (cy 0) x.toNatClampNeg y.toNatClampNeg (defaultValue .int) (a := z) (by rw [hTh]; exact hz) x.toNatClampNeg
    rw [hF, hTh] at this
    exact this
  have hrow : ∀ j : Nat, j < x.toNatClampNeg → Fl.heap[H.size + 1 + j]? = some (vp_cell (cy 0) (y.toNatClampNeg, .inl (fun _ => 0))) := fun j hj => by
    have := Jvm.Free.Multi.fill_inner (T.setVm vm₁) (cy 3) (cy 0) x.toNatClampNeg y.toNatClampNeg (defaultValue .int) x.toNatClampNeg j hj
    rw [hF, hTh] at this
    rw [this]
    exact congrArg some (arrV_new (cy 0) y.toNatClampNeg (.int 0))
  have hout : Jvm.Free.Multi.outerC (cy 3) x.toNatClampNeg H.size x.toNatClampNeg = vp_cell (cy 3) (x.toNatClampNeg, .inr (.inr (.inr (.inr (fun i => if i < x.toNatClampNeg then some (H.size + 1 + i) else none))))) := by
    rw [vp_cell_q]
    exact ct_outer (cy 3) x.toNatClampNeg H.size x.toNatClampNeg
  rw [hout] at f2
  have hP0 : va_P D vwCl w Fl.heap := h.1.kept (fun k9 z hz => hold z.1 ((h.1 k9 z hz).lt))
  have hP1 : va_P D vwCl (w ++ [(H.size, .inl (cy 3, x.toNatClampNeg, .inr (.inr (.inr (.inr (fun i => if i < x.toNatClampNeg then some (H.size + 1 + i) else none))))))]) Fl.heap := hP0.app (fun k9 z hz => by
    have h0 : k9 < 1 := (List.getElem?_eq_some_iff.mp hz).1
    rw [show k9 = 0 by omega] at hz
    cases hz
    exact f2)
  have hP2 := hP1.app (w2 := (List.range x.toNatClampNeg).map (fun i => (H.size + 1 + i, .inl (cy 0, y.toNatClampNeg, .inl (fun _ => 0))))) (fun k9 z hz => by
    obtain ⟨i, hi, rfl⟩ := List.mem_map.mp (List.mem_of_getElem? hz)
    exact hrow i (List.mem_range.mp hi))
  have hZ : ∀ q, H.size ≤ q → Z q := fun q hq => C.hA q (Nat.le_trans h.2.2.1 hq)
  have hD1 := h.2.1.push (e := .inl (cy 3, x.toNatClampNeg, .inr (.inr (.inr (.inr (fun i => if i < x.toNatClampNeg then some (H.size + 1 + i) else none)))))) h.1 rfl (hZ _ (Nat.le_refl _))
  have hr : ∀ (k9 : Nat) (z : Nat × va_E), ((List.range x.toNatClampNeg).map (fun i => ((H.size + 1 + i, .inl (cy 0, y.toNatClampNeg, .inl (fun _ => 0))) : Nat × va_E)))[k9]? = some z → z.1 = H.size + 1 + k9 := fun k9 z hz => by
    rw [List.getElem?_map] at hz
    by_cases h9 : k9 < x.toNatClampNeg
    · rw [List.getElem?_range h9] at hz
      cases hz
      rfl
    · rw [List.getElem?_eq_none (by rw [List.length_range]; omega)] at hz
      cases hz
  have hD2 : va_D Z ((w ++ [(H.size, .inl (cy 3, x.toNatClampNeg, .inr (.inr (.inr (.inr (fun i => if i < x.toNatClampNeg then some (H.size + 1 + i) else none))))))]) ++ (List.range x.toNatClampNeg).map (fun i => (H.size + 1 + i, .inl (cy 0, y.toNatClampNeg, .inl (fun _ => 0))))) := by
    refine va_D.app hD1 ⟨fun i j a b hi hj e => ?_, fun k9 z hz => ?_⟩ (fun i j a b hi hj e => ?_)
    · have := hr _ _ hi
      have := hr _ _ hj
      omega
    · have := hr _ _ hz
      exact hZ _ (by omega)
    · have h2 := hr _ _ hj
      by_cases hl : i < w.length
      · rw [List.getElem?_append_left hl] at hi
        have := (h.1 i a hi).lt
        omega
      · rw [List.getElem?_append_right (by omega)] at hi
        have h0 : i - w.length < 1 := (List.getElem?_eq_some_iff.mp hi).1
        rw [show i - w.length = 0 by omega] at hi
        cases hi
        dsimp only at e
        omega
  have hS2 : va_S Z s.heap Fl.heap locs := ⟨Nat.le_trans h.2.2.1 (by rw [f1]; omega), fun q h1 h2 => by rw [hold q (Nat.lt_of_lt_of_le h1 h.2.2.1)]; exact h.2.2.2.1 q h1 h2, h.2.2.2.2⟩
  obtain ⟨t, a1, b1⟩ := kk H.size Fl.heap ⟨hP2, hD2, hS2⟩ Fl rfl X'
  rw [hT] at step
  exact ⟨t, step t a1, b1⟩
end NEWA
