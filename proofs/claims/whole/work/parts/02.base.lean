/-! ===== BASE: words, contexts, what a contract asks and gives, rules of calls; for any world w ===== -/
def GW : List Cond := lw_tbl.filter goodWord
theorem GW_of {w : Cond} (h : w ∈ lw_tbl) (g : goodWord w = true) : w ∈ GW := List.mem_filter.mpr ⟨h, g⟩
theorem GW_t {w : Cond} (h : w ∈ tables_1) (g : goodWord w = true) : w ∈ GW := GW_of (List.mem_append_right _ h) g
theorem GW_1 {w : Cond} (h : w ∈ tables_1_1) (g : goodWord w = true) : w ∈ GW := GW_t (List.mem_append_left _ h) g
theorem GW_2 {w : Cond} (h : w ∈ tables_1_2) (g : goodWord w = true) : w ∈ GW := GW_t (List.mem_append_right _ (List.mem_append_left _ h)) g
theorem GW_3 {w : Cond} (h : w ∈ tables_1_3) (g : goodWord w = true) : w ∈ GW := GW_t (List.mem_append_right _ (List.mem_append_right _ (List.mem_append_left _ h))) g
theorem GW_4 {w : Cond} (h : w ∈ tables_1_4) (g : goodWord w = true) : w ∈ GW := GW_t (List.mem_append_right _ (List.mem_append_right _ (List.mem_append_right _ (List.mem_append_left _ h)))) g
theorem GW_5 {w : Cond} (h : w ∈ tables_1_5) (g : goodWord w = true) : w ∈ GW := GW_t (List.mem_append_right _ (List.mem_append_right _ (List.mem_append_right _ (List.mem_append_right _ (List.mem_append_left _ h))))) g
theorem GW_6 {w : Cond} (h : w ∈ tables_1_6) (g : goodWord w = true) : w ∈ GW := GW_t (List.mem_append_right _ (List.mem_append_right _ (List.mem_append_right _ (List.mem_append_right _ (List.mem_append_right _ (List.mem_append_left _ h)))))) g
theorem GW_7 {w : Cond} (h : w ∈ tables_1_7) (g : goodWord w = true) : w ∈ GW := GW_t (List.mem_append_right _ (List.mem_append_right _ (List.mem_append_right _ (List.mem_append_right _ (List.mem_append_right _ (List.mem_append_right _ h)))))) g
theorem GW_p {w : Cond} (h : w ∈ k2_sels lw_privs) (g : goodWord w = true) : w ∈ GW := GW_of (List.mem_append_left _ h) g
theorem GW_ok {w : Cond} (h : w ∈ GW) : goodWord w = true := (List.mem_filter.mp h).2
theorem GW_in {ws : List Cond} (h : ∀ w ∈ ws, w ∈ GW) : GoodIn GW ws := fun w hw => ⟨h w hw, good_of_word (GW_ok (h w hw))⟩
abbrev WL (y : MethodName) (cc : ByteArray) (n : Nat) (ret : Option FieldType) : List Cond := Cond.code y cc n ret :: GW
theorem GW_wl {y : MethodName} {cc : ByteArray} {n : Nat} {ret : Option FieldType} (h : Cond.code y cc n ret ∈ GW) : ∀ w ∈ WL y cc n ret, w ∈ GW := fun _ hw => (List.mem_cons.mp hw).elim (fun e => e ▸ h) id
theorem GW_v {own C : String} {i : Nat} {y : MethodName} {ws : List Cond} (h1 : Cond.methodLink own i y ∈ GW) (h2 : Cond.instanceMethod y ∈ GW) (h3 : Cond.selects C y y ∈ GW) (h4 : Cond.initialized C ∈ GW) (h : ∀ w ∈ ws, w ∈ GW) : GoodIn GW (wsV own i C y ws) := GW_in (fun w hw => by
  unfold wsV at hw
  rcases List.mem_append.mp hw with hw | hw
  · rcases List.mem_cons.mp hw with rfl | hw
    · exact h1
    rcases List.mem_cons.mp hw with rfl | hw
    · exact h2
    rcases List.mem_cons.mp hw with rfl | hw
    · exact h3
    rcases List.mem_cons.mp hw with rfl | hw
    · exact h4
    · cases hw
  · exact h w hw)
theorem GW_s {own : String} {i : Nat} {y : MethodName} {ws : List Cond} (h1 : Cond.methodLink own i y ∈ GW) (h2 : Cond.static y ∈ GW) (h4 : Cond.initialized own ∈ GW) (h : ∀ w ∈ ws, w ∈ GW) : GoodIn GW (wsS own i y ws) := GW_in (fun w hw => by
  unfold wsS at hw
  rcases List.mem_append.mp hw with hw | hw
  · rcases List.mem_cons.mp hw with rfl | hw
    · exact h1
    rcases List.mem_cons.mp hw with rfl | hw
    · exact h2
    rcases List.mem_cons.mp hw with rfl | hw
    · exact h4
    · cases hw
  · exact h w hw)
theorem GW_u {own C owner : String} {i : Nat} {x y : MethodName} {ws : List Cond} (h1 : Cond.methodLink own i x ∈ GW) (h2 : Cond.sameMethod x.cls owner x.name x.desc ∈ GW) (h3 : Cond.selects C x y ∈ GW) (h4 : Cond.instanceMethod y ∈ GW) (h5 : Cond.initialized y.cls ∈ GW) (h : ∀ w ∈ ws, w ∈ GW) : GoodIn GW (va_wsU own i C owner x y ws) := GW_in (fun w hw => by
  unfold va_wsU at hw
  rcases List.mem_append.mp hw with hw | hw
  · rcases List.mem_cons.mp hw with rfl | hw
    · exact h1
    rcases List.mem_cons.mp hw with rfl | hw
    · exact h2
    rcases List.mem_cons.mp hw with rfl | hw
    · exact h3
    rcases List.mem_cons.mp hw with rfl | hw
    · exact h4
    rcases List.mem_cons.mp hw with rfl | hw
    · exact h5
    · cases hw
  · exact h w hw)
theorem GW_o {own C owner : String} {i : Nat} {x y : MethodName} {ws : List Cond} (h1 : Cond.methodLink own i x ∈ GW) (h2 : Cond.sameMethod x.cls owner x.name x.desc ∈ GW) (h6 : Cond.instanceMethod ⟨owner, x.name, x.desc⟩ ∈ GW) (h3 : Cond.selects C x y ∈ GW) (h4 : Cond.instanceMethod y ∈ GW) (h5 : Cond.initialized y.cls ∈ GW) (h : ∀ w ∈ ws, w ∈ GW) : GoodIn GW (va_wsO own i C owner x y ws) := GW_in (fun w hw => by
  unfold va_wsO at hw
  rcases List.mem_append.mp hw with hw | hw
  · rcases List.mem_cons.mp hw with rfl | hw
    · exact h1
    rcases List.mem_cons.mp hw with rfl | hw
    · exact h2
    rcases List.mem_cons.mp hw with rfl | hw
    · exact h6
    rcases List.mem_cons.mp hw with rfl | hw
    · exact h3
    rcases List.mem_cons.mp hw with rfl | hw
    · exact h4
    rcases List.mem_cons.mp hw with rfl | hw
    · exact h5
    · cases hw
  · exact h w hw)
/-- decode rows of a method, checked at once -/
theorem dc_at {cc : ByteArray} {tb : List (Nat × Instr × Nat)} (h : tb.all (fun q => decide (decode cc q.1 = .ok q.2)) = true) (k : Nat) {pc : Nat} {i : Instr × Nat} (hk : tb[k]? = some (pc, i)) : decode cc pc = .ok i := by
  have h1 := List.all_eq_true.mp h _ (List.mem_of_getElem? hk)
  dsimp only at h1
  exact of_decide_eq_true h1
/-- the array classes of the worlds -/
def tysF (cy : Nat → ClassId) : List (ClassId × FieldType) := [(cy 0, .int), (cy 1, .boolean), (cy 2, .object "PipeWorks$Thing"), (cy 3, .array .int)]
def PreW (D : va_G) (cy : Nat → ClassId) (w : va_W) (sz : Nat) (U : State) : Prop := U.heap.size = sz ∧ va_P D vwCl w U.heap ∧ va_K D vwCl (tysF cy) U ∧ va_D (fun _ => True) w ∧ NX U
def PostW (D : va_G) (Z : Nat → Prop) (w : va_W) (t : State) : Prop := va_P D vwCl w t.heap ∧ va_D Z w
def HXw (D : va_G) (Z : Nat → Prop) (H0 H : Heap) (locs : List Loc) (w : va_W) : Prop := va_P D vwCl w H ∧ va_D Z w ∧ va_S Z H0 H locs
def CX (D : va_G) (cy : Nat → ClassId) (own : String) (cc : ByteArray) (tb : List (Nat × Instr × Nat)) (nL : Nat) (p : Program) (s : State) (m : MethodId) (args : Array Value) (c : Code) (Z : Nat → Prop) : Prop :=
  CallFix p m c cc nL s args GW own ∧ va_K D vwCl (tysF cy) s ∧ NX s ∧ (∀ q, s.heap.size ≤ q → Z q) ∧ tb.all (fun q => decide (decode cc q.1 = .ok q.2)) = true
theorem PreW.blind {D : va_G} {cy : Nat → ClassId} {w : va_W} {sz : Nat} (av : List Value) : FrameBlind (va_Pc av (PreW D cy w sz)) := fun _ U g mk q => by
  obtain ⟨q0, q1, qP, qK, qD, qN⟩ := q
  exact ⟨q0, q1, qP, va_K.moved (u := U) (U := U.calling g mk _) (Vm.Alike.refl U.vm) qK, qD, NX.same (u := U) (U := U.calling g mk _) rfl qN⟩
section BASE1
variable {p : Program} {l : Launch} {e : Env} {R : Room} {s : State} {m : MethodId} {args : Array Value} {below : List Frame} {meth : Method} {c : Code} {H : Heap} {locs : List Loc} {cells slots : Nat} {Q : State → Prop}
variable {cc : ByteArray} {pc nL : Nat} {ls : Array Slot} {rest st0 : List Value} {D : va_G} {cy : Nat → ClassId} {Z : Nat → Prop} {own : String} {w : va_W} {tb : List (Nat × Instr × Nat)}
theorem CX.hx (C : CX D cy own cc tb nL p s m args c Z) : p.tables.exec = Jvm.exec := C.1.1
theorem CX.hb (C : CX D cy own cc tb nL p s m args c Z) : c.code = cc := C.1.2.1
theorem CX.hml (C : CX D cy own cc tb nL p s m args c Z) : c.maxLocals = nL := C.1.2.2.1
theorem CX.hown (C : CX D cy own cc tb nL p s m args c Z) : s.vm.findClass own = some m.cls := C.1.2.2.2.1
theorem CX.hts (C : CX D cy own cc tb nL p s m args c Z) : ∀ w ∈ GW, w.before args s = true := C.1.2.2.2.2
theorem CX.hK (C : CX D cy own cc tb nL p s m args c Z) : va_K D vwCl (tysF cy) s := C.2.1
theorem CX.hN (C : CX D cy own cc tb nL p s m args c Z) : NX s := C.2.2.1
theorem CX.hA (C : CX D cy own cc tb nL p s m args c Z) : ∀ q, s.heap.size ≤ q → Z q := C.2.2.2.1
theorem CX.dg (C : CX D cy own cc tb nL p s m args c Z) {k pc : Nat} {i : Instr × Nat} (hk : tb[k]? = some (pc, i)) : decode cc pc = .ok i := dc_at C.2.2.2.2 k hk
/-- what a callee may touch lies in the caller's part -/
theorem HXw.free (C : CX D cy own cc tb nL p s m args c Z) (h : HXw D Z s.heap H locs w) : ∀ q, va_A w H.size q → Z q := by
  intro q hq
  rcases hq with ⟨k, e, hk⟩ | hq
  · exact h.2.1.2 k _ hk
  · exact C.hA q (Nat.le_trans h.2.2.1 hq)
theorem HXw.preS (C : CX D cy own cc tb nL p s m args c Z) (h : HXw D Z s.heap H locs w) (As : List Value) : PreS s H (va_Pc As (PreW D cy w H.size)) As :=
  ⟨PreW.blind As, fun U hU hW => ⟨rfl, by rw [hU], by rw [hU]; exact h.1, va_K.moved hW.alike C.hK, h.2.1.weaken (fun _ _ _ _ => trivial), NX.warm hW C.hN⟩⟩
theorem HXw.preV (C : CX D cy own cc tb nL p s m args c Z) (h : HXw D Z s.heap H locs w) {ci q0 : Nat} {q : vw_C} {b : Nat} {fs : List Value} (hc : vwCl[ci]? = some q) (he : w[q0]? = some (b, .inr (ci, fs))) (As : List Value) : PreV s H q.1 b (va_Pc (.ref b :: As) (PreW D cy w H.size)) As :=
  ⟨PreW.blind _, va_recv C.hK h.1 hc he, fun U hU hW => ⟨rfl, by rw [hU], by rw [hU]; exact h.1, va_K.moved hW.alike C.hK, h.2.1.weaken (fun _ _ _ _ => trivial), NX.warm hW C.hN⟩⟩
/-- behind a call that leaves the heap as it was -/
theorem call_p {post : Int32 → Prop} {a : Array Value} (hr : va_Run p l e R s m args below meth c H locs cells slots 0 0 (F0 m pc ls st0) rest (vp_Si post a) (fun _ => False))
    (kk : ∀ r : Int32, post r → W p l e R s m args below meth c H locs cells slots Q (F0 m (pc + 3) ls (.int r :: rest))) : W p l e R s m args below meth c H locs cells slots Q (F0 m pc ls st0) := by
  intro T hT X
  obtain ⟨v, st₀, t, T', L, h0, X', hL, e1, e2, ⟨r, hv, hp, hh⟩, st⟩ := hr T hT X
  cases hv
  obtain ⟨t2, a1, b1⟩ := kk r hp T' (by rw [e1, hh, h0]) (Stand.forget X' (fun q h => (hL q h).elim))
  exact ⟨t2, st t2 a1, b1⟩
/-- behind a call that leaves the world wf u -/
theorem call_i {S : Type} {wf : S → va_W} {post : Int32 → S → Prop} {a : Array Value} {mc ms : Nat} (C : CX D cy own cc tb nL p s m args c Z) (h : HXw D Z s.heap H locs w) (hr : va_Run p l e R s m args below meth c H locs cells slots mc ms (F0 m pc ls st0) rest (va_Qi post (fun u t => PostW D (va_A w H.size) (wf u) t) (va_A w H.size) a) (va_A w H.size))
    (kk : ∀ (r : Int32) (u : S) (H1 : Heap) (locs1 : List Loc), post r u → HXw D Z s.heap H1 locs1 (wf u) → W p l e R s m args below meth c H1 locs1 (cells + mc) (slots + ms) Q (F0 m (pc + 3) ls (.int r :: rest))) : W p l e R s m args below meth c H locs cells slots Q (F0 m pc ls st0) := by
  have hF := h.free C
  refine va_calli hr h.2.2 (fun q _ h => hF q h) hF (fun r u t H1 locs1 ht hvm hw hB _ _ hS => ?_)
  subst ht
  exact kk r u _ _ hw ⟨hB.1, hB.2.weaken (fun _ _ _ hq => hF _ hq), hS⟩
theorem call_v {S : Type} {wf : S → va_W} {post : S → Prop} {a : Array Value} {mc ms : Nat} (C : CX D cy own cc tb nL p s m args c Z) (h : HXw D Z s.heap H locs w) (hr : va_Run p l e R s m args below meth c H locs cells slots mc ms (F0 m pc ls st0) rest (va_Qv post (fun u t => PostW D (va_A w H.size) (wf u) t) (va_A w H.size) a) (va_A w H.size))
    (kk : ∀ (u : S) (H1 : Heap) (locs1 : List Loc), post u → HXw D Z s.heap H1 locs1 (wf u) → W p l e R s m args below meth c H1 locs1 (cells + mc) (slots + ms) Q (F0 m (pc + 3) ls rest)) : W p l e R s m args below meth c H locs cells slots Q (F0 m pc ls st0) := by
  have hF := h.free C
  refine va_callv hr h.2.2 (fun q _ h => hF q h) hF (fun u t H1 locs1 ht hvm hw hB _ _ hS => ?_)
  subst ht
  exact kk u _ _ hw ⟨hB.1, hB.2.weaken (fun _ _ _ hq => hF _ hq), hS⟩
end BASE1
/-- a method's contract out of a walk of its body: heap as it was -/
theorem met_p {l : Launch} {D : va_G} {cy : Nat → ClassId} {y : MethodName} {cc : ByteArray} {maxL : Nat} {ret : Option FieldType} {fr lo : Nat} {av : List Value} {w : va_W} {post : Int32 → Prop} (own : String) (ty : FieldType) {tb : List (Nat × Instr × Nat)} (hdb : tb.all (fun q => decide (decode cc q.1 = .ok q.2)) = true) (hy : plainName y.cls = true) (ho : y.cls = own) (hret : ret = some ty) (hlen : (lg_sl av).length ≤ maxL)
    (body : ∀ (p : Program) (e : Env) (s : State) (m : MethodId) (below : List Frame) (meth : Method) (c : Code) (Z : Nat → Prop) (Q : State → Prop) (ls : Array Slot), CX D cy own cc tb maxL p s m av.toArray c Z → HXw D Z s.heap s.heap [] w → lv_has ls maxL (lv_args 0 av) →
      (∀ (v : Int32) (pc : Nat) (ls : Array Slot), narrow ty (.int v) = .int v → post v → decode cc pc = .ok (.ireturn, 1) → W p l e { frames := fr, cells := 0, slots := 0, locals := lo } s m av.toArray below meth c s.heap [] 0 0 Q (F0 m pc ls [.int v])) →
      W p l e { frames := fr, cells := 0, slots := 0, locals := lo } s m av.toArray below meth c s.heap [] 0 0 Q (F0 m 0 ls [])) :
    ∀ sz, Met l y (WL y cc maxL ret) { frames := fr, cells := 0, slots := 0, locals := lo } (va_Pc av (PreW D cy w sz)) (vp_Si post) 0 0 (fun _ => False) := by
  intro sz
  refine Met.ofW (cc := cc) (maxL := maxL) (ret := ret) hy rfl ?_
  intro p e s m args below meth c s₁ B hml hv
  obtain ⟨rfl, hsz, hP, hK, hD0, hN⟩ := hv
  subst hsz
  have hts := atoms_spec (ws := WL y cc maxL ret) B.pre
  have hown : s.vm.findClass own = some m.cls := ho ▸ findClass_of_methodNamed B.named
  have hl := lv_entry av (n := maxL) hlen
  rw [lg_entry_eq]
  generalize (lg_sl av ++ List.replicate (maxL - (lg_sl av).length) Slot.unset).toArray = ls at hl ⊢
  have hlk := B.notSynchronized
  exact body p e s m below meth c (va_A w s.heap.size) _ ls ⟨⟨B.exec, B.bytes, hml, hown, fun w hw => hts w (List.mem_cons_of_mem _ hw)⟩, hK, hN, fun q h => Or.inr h, hdb⟩ ⟨hP, hD0.self, va_S.rf⟩ hl
    (fun v pc ls hn hp hd => W.zret (ty := ty) B.exec B.bytes (B.returns.trans hret) hn (fun t ht _ => ⟨v, rfl, hp, ht⟩) (fun q hq => by cases hq) hd)
/-- a method's contract out of a walk of its body: an int, and the world wf u -/
theorem met_i {l : Launch} {D : va_G} {cy : Nat → ClassId} {y : MethodName} {cc : ByteArray} {maxL : Nat} {ret : Option FieldType} {fr lo mc ms : Nat} {av : List Value} {w : va_W} {S : Type} {wf : S → va_W} {post : Int32 → S → Prop} (own : String) (ty : FieldType) {tb : List (Nat × Instr × Nat)} (hdb : tb.all (fun q => decide (decode cc q.1 = .ok q.2)) = true) (hy : plainName y.cls = true) (ho : y.cls = own) (hret : ret = some ty) (hlen : (lg_sl av).length ≤ maxL)
    (body : ∀ (p : Program) (e : Env) (s : State) (m : MethodId) (below : List Frame) (meth : Method) (c : Code) (Z : Nat → Prop) (Q : State → Prop) (ls : Array Slot), CX D cy own cc tb maxL p s m av.toArray c Z → HXw D Z s.heap s.heap [] w → lv_has ls maxL (lv_args 0 av) →
      (∀ (v : Int32) (u : S) (H : Heap) (locs : List Loc) (pc : Nat) (ls : Array Slot), narrow ty (.int v) = .int v → post v u → HXw D Z s.heap H locs (wf u) → decode cc pc = .ok (.ireturn, 1) → W p l e { frames := fr, cells := mc, slots := ms, locals := lo } s m av.toArray below meth c H locs mc ms Q (F0 m pc ls [.int v])) →
      W p l e { frames := fr, cells := mc, slots := ms, locals := lo } s m av.toArray below meth c s.heap [] 0 0 Q (F0 m 0 ls [])) :
    ∀ sz, Met l y (WL y cc maxL ret) { frames := fr, cells := mc, slots := ms, locals := lo } (va_Pc av (PreW D cy w sz)) (va_Qi post (fun u t => PostW D (va_A w sz) (wf u) t) (va_A w sz)) mc ms (va_A w sz) := by
  intro sz
  refine Met.ofW (cc := cc) (maxL := maxL) (ret := ret) hy rfl ?_
  intro p e s m args below meth c s₁ B hml hv
  obtain ⟨rfl, hsz, hP, hK, hD0, hN⟩ := hv
  subst hsz
  have hts := atoms_spec (ws := WL y cc maxL ret) B.pre
  have hown : s.vm.findClass own = some m.cls := ho ▸ findClass_of_methodNamed B.named
  have hl := lv_entry av (n := maxL) hlen
  rw [lg_entry_eq]
  generalize (lg_sl av ++ List.replicate (maxL - (lg_sl av).length) Slot.unset).toArray = ls at hl ⊢
  have hlk := B.notSynchronized
  exact body p e s m below meth c (va_A w s.heap.size) _ ls ⟨⟨B.exec, B.bytes, hml, hown, fun w hw => hts w (List.mem_cons_of_mem _ hw)⟩, hK, hN, fun q h => Or.inr h, hdb⟩ ⟨hP, hD0.self, va_S.rf⟩ hl
    (fun v u H locs pc ls hn hp h hd => W.zret (ty := ty) B.exec B.bytes (B.returns.trans hret) hn (fun t ht _ => ⟨⟨v, u, rfl, hp, by rw [ht]; exact h.1, h.2.1⟩, h.2.2.F ht⟩) h.2.2.2.2 hd)
theorem met_v {l : Launch} {D : va_G} {cy : Nat → ClassId} {y : MethodName} {cc : ByteArray} {maxL : Nat} {fr lo mc ms : Nat} {av : List Value} {w : va_W} {S : Type} {wf : S → va_W} {post : S → Prop} (own : String) {tb : List (Nat × Instr × Nat)} (hdb : tb.all (fun q => decide (decode cc q.1 = .ok q.2)) = true) (hy : plainName y.cls = true) (ho : y.cls = own) (hlen : (lg_sl av).length ≤ maxL)
    (body : ∀ (p : Program) (e : Env) (s : State) (m : MethodId) (below : List Frame) (meth : Method) (c : Code) (Z : Nat → Prop) (Q : State → Prop) (ls : Array Slot), meth.name = y.name → CX D cy own cc tb maxL p s m av.toArray c Z → HXw D Z s.heap s.heap [] w → lv_has ls maxL (lv_args 0 av) →
      (∀ (u : S) (H : Heap) (locs : List Loc) (pc : Nat) (ls : Array Slot), post u → HXw D Z s.heap H locs (wf u) → decode cc pc = .ok (.return_, 1) → W p l e { frames := fr, cells := mc, slots := ms, locals := lo } s m av.toArray below meth c H locs mc ms Q (F0 m pc ls [])) →
      W p l e { frames := fr, cells := mc, slots := ms, locals := lo } s m av.toArray below meth c s.heap [] 0 0 Q (F0 m 0 ls [])) :
    ∀ sz, Met l y (WL y cc maxL none) { frames := fr, cells := mc, slots := ms, locals := lo } (va_Pc av (PreW D cy w sz)) (va_Qv post (fun u t => PostW D (va_A w sz) (wf u) t) (va_A w sz)) mc ms (va_A w sz) := by
  intro sz
  refine Met.ofW (cc := cc) (maxL := maxL) (ret := none) hy rfl ?_
  intro p e s m args below meth c s₁ B hml hv
  obtain ⟨rfl, hsz, hP, hK, hD0, hN⟩ := hv
  subst hsz
  have hts := atoms_spec (ws := WL y cc maxL none) B.pre
  have hown : s.vm.findClass own = some m.cls := ho ▸ findClass_of_methodNamed B.named
  have hin : meth.name = y.name := (name_of_methodNamed B.named B.method).1
  have hl := lv_entry av (n := maxL) hlen
  rw [lg_entry_eq]
  generalize (lg_sl av ++ List.replicate (maxL - (lg_sl av).length) Slot.unset).toArray = ls at hl ⊢
  have hlk := B.notSynchronized
  exact body p e s m below meth c (va_A w s.heap.size) _ ls hin ⟨⟨B.exec, B.bytes, hml, hown, fun w hw => hts w (List.mem_cons_of_mem _ hw)⟩, hK, hN, fun q h => Or.inr h, hdb⟩ ⟨hP, hD0.self, va_S.rf⟩ hl
    (fun u H locs pc ls hp h hd => W.vret B.exec B.bytes B.returns (fun t ht _ => ⟨⟨u, rfl, hp, by rw [ht]; exact h.1, h.2.1⟩, h.2.2.F ht⟩) h.2.2.2.2 hd)
