section STEPS
variable {p : Program} {l : Launch} {e : Env} {R : Room} {s : State} {m : MethodId} {args : Array Value} {below : List Frame} {meth : Method} {c : Code} {H : Heap} {locs : List Loc} {cells slots : Nat} {Q : State → Prop}
variable {cc : ByteArray} {pc n nL : Nat} {ls : Array Slot} {rest : List Value} {D : va_G} {cy : Nat → ClassId} {Z : Nat → Prop} {own : String} {w : va_W} {tb : List (Nat × Instr × Nat)} {lv lv' : List (Nat × Value)}

theorem i_iconst {z : Int} {v : Int32} (C : CX D cy own cc tb nL p s m args c Z) (k : Nat) (hk : tb[k]? = some (pc, .iconst z, 1)) (hn : pc + 1 = n) (hv : Int32.ofInt z = v) (kk : W p l e R s m args below meth c H locs cells slots Q (F0 m n ls (.int v :: rest))) : W p l e R s m args below meth c H locs cells slots Q (F0 m pc ls rest) := by
  subst hn
  exact lv_iconst C.hx C.hb (C.dg hk) hv kk
theorem i_bipush {z : Int} {v : Int32} (C : CX D cy own cc tb nL p s m args c Z) (k : Nat) (hk : tb[k]? = some (pc, .bipush z, 2)) (hn : pc + 2 = n) (hv : (Int8.ofInt z).toInt32 = v) (kk : W p l e R s m args below meth c H locs cells slots Q (F0 m n ls (.int v :: rest))) : W p l e R s m args below meth c H locs cells slots Q (F0 m pc ls rest) := by
  subst hn
  exact lv_bipush C.hx C.hb (C.dg hk) hv kk
theorem i_sipush {z : Int} {v : Int32} (C : CX D cy own cc tb nL p s m args c Z) (k : Nat) (hk : tb[k]? = some (pc, .sipush z, 3)) (hn : pc + 3 = n) (hv : (Int16.ofInt z).toInt32 = v) (kk : W p l e R s m args below meth c H locs cells slots Q (F0 m n ls (.int v :: rest))) : W p l e R s m args below meth c H locs cells slots Q (F0 m pc ls rest) := by
  subst hn
  exact lv_sipush C.hx C.hb (C.dg hk) hv kk
theorem i_ldc {x : Nat} {v : Int32} (C : CX D cy own cc tb nL p s m args c Z) (k : Nat) (hk : tb[k]? = some (pc, .ldc x, 2)) (hn : pc + 2 = n) (hw : Cond.constant own x v ∈ GW) (kk : W p l e R s m args below meth c H locs cells slots Q (F0 m n ls (.int v :: rest))) : W p l e R s m args below meth c H locs cells slots Q (F0 m pc ls rest) := by
  subst hn
  exact lv_ldc C.hx C.hb C.hown (C.hts _ hw) (C.dg hk) kk
theorem i_ldcw {x : Nat} {v : Int32} (C : CX D cy own cc tb nL p s m args c Z) (k : Nat) (hk : tb[k]? = some (pc, .ldc_w x, 3)) (hn : pc + 3 = n) (hw : Cond.constant own x v ∈ GW) (kk : W p l e R s m args below meth c H locs cells slots Q (F0 m n ls (.int v :: rest))) : W p l e R s m args below meth c H locs cells slots Q (F0 m pc ls rest) := by
  subst hn
  exact lv_ldcw C.hx C.hb C.hown (C.hts _ hw) (C.dg hk) kk
theorem i_iload_n {f : Fin 4} {i : Nat} {x : Int32} (C : CX D cy own cc tb nL p s m args c Z) (k : Nat) (hk : tb[k]? = some (pc, .iload_n f, 1)) (hn : pc + 1 = n) (hi : (f : Nat) = i) (hl : lv_has ls nL lv) (j : Nat) (hj : lv[j]? = some (i, .int x)) (kk : W p l e R s m args below meth c H locs cells slots Q (F0 m n ls (.int x :: rest))) : W p l e R s m args below meth c H locs cells slots Q (F0 m pc ls rest) := by
  subst hn
  exact lv_iload_n C.hx C.hb (C.dg hk) hi (lv_at hl j hj) kk
theorem i_iload {i : Nat} {x : Int32} (C : CX D cy own cc tb nL p s m args c Z) (k : Nat) (hk : tb[k]? = some (pc, .iload i, 2)) (hn : pc + 2 = n) (hl : lv_has ls nL lv) (j : Nat) (hj : lv[j]? = some (i, .int x)) (kk : W p l e R s m args below meth c H locs cells slots Q (F0 m n ls (.int x :: rest))) : W p l e R s m args below meth c H locs cells slots Q (F0 m pc ls rest) := by
  subst hn
  exact lv_iload C.hx C.hb (C.dg hk) (lv_at hl j hj) kk
theorem i_aload_n {f : Fin 4} {i : Nat} {x : Nat} (C : CX D cy own cc tb nL p s m args c Z) (k : Nat) (hk : tb[k]? = some (pc, .aload_n f, 1)) (hn : pc + 1 = n) (hi : (f : Nat) = i) (hl : lv_has ls nL lv) (j : Nat) (hj : lv[j]? = some (i, .ref x)) (kk : W p l e R s m args below meth c H locs cells slots Q (F0 m n ls (.ref x :: rest))) : W p l e R s m args below meth c H locs cells slots Q (F0 m pc ls rest) := by
  subst hn
  exact lv_aload_n C.hx C.hb (C.dg hk) hi (lv_at hl j hj) kk
theorem i_aload {i : Nat} {x : Nat} (C : CX D cy own cc tb nL p s m args c Z) (k : Nat) (hk : tb[k]? = some (pc, .aload i, 2)) (hn : pc + 2 = n) (hl : lv_has ls nL lv) (j : Nat) (hj : lv[j]? = some (i, .ref x)) (kk : W p l e R s m args below meth c H locs cells slots Q (F0 m n ls (.ref x :: rest))) : W p l e R s m args below meth c H locs cells slots Q (F0 m pc ls rest) := by
  subst hn
  exact lv_aload C.hx C.hb (C.dg hk) (lv_at hl j hj) kk
theorem i_aload_nN {f : Fin 4} {i : Nat} (C : CX D cy own cc tb nL p s m args c Z) (k : Nat) (hk : tb[k]? = some (pc, .aload_n f, 1)) (hn : pc + 1 = n) (hi : (f : Nat) = i) (hl : lv_has ls nL lv) (j : Nat) (hj : lv[j]? = some (i, .null)) (kk : W p l e R s m args below meth c H locs cells slots Q (F0 m n ls (.null :: rest))) : W p l e R s m args below meth c H locs cells slots Q (F0 m pc ls rest) := by
  subst hn
  exact lv_aload_nN C.hx C.hb (C.dg hk) hi (lv_at hl j hj) kk
theorem i_aloadN {i : Nat} (C : CX D cy own cc tb nL p s m args c Z) (k : Nat) (hk : tb[k]? = some (pc, .aload i, 2)) (hn : pc + 2 = n) (hl : lv_has ls nL lv) (j : Nat) (hj : lv[j]? = some (i, .null)) (kk : W p l e R s m args below meth c H locs cells slots Q (F0 m n ls (.null :: rest))) : W p l e R s m args below meth c H locs cells slots Q (F0 m pc ls rest) := by
  subst hn
  exact lv_aloadN C.hx C.hb (C.dg hk) (lv_at hl j hj) kk
theorem i_iadd {x y : Int32} (C : CX D cy own cc tb nL p s m args c Z) (k : Nat) (hk : tb[k]? = some (pc, .iadd, 1)) (hn : pc + 1 = n)  (kk : W p l e R s m args below meth c H locs cells slots Q (F0 m n ls (.int (x + y) :: rest))) : W p l e R s m args below meth c H locs cells slots Q (F0 m pc ls (.int y :: .int x :: rest)) := by
  subst hn
  exact lv_iadd C.hx C.hb (C.dg hk) kk
theorem i_isub {x y : Int32} (C : CX D cy own cc tb nL p s m args c Z) (k : Nat) (hk : tb[k]? = some (pc, .isub, 1)) (hn : pc + 1 = n)  (kk : W p l e R s m args below meth c H locs cells slots Q (F0 m n ls (.int (x - y) :: rest))) : W p l e R s m args below meth c H locs cells slots Q (F0 m pc ls (.int y :: .int x :: rest)) := by
  subst hn
  exact lv_isub C.hx C.hb (C.dg hk) kk
theorem i_imul {x y : Int32} (C : CX D cy own cc tb nL p s m args c Z) (k : Nat) (hk : tb[k]? = some (pc, .imul, 1)) (hn : pc + 1 = n)  (kk : W p l e R s m args below meth c H locs cells slots Q (F0 m n ls (.int (x * y) :: rest))) : W p l e R s m args below meth c H locs cells slots Q (F0 m pc ls (.int y :: .int x :: rest)) := by
  subst hn
  exact lv_imul C.hx C.hb (C.dg hk) kk
theorem i_iand {x y : Int32} (C : CX D cy own cc tb nL p s m args c Z) (k : Nat) (hk : tb[k]? = some (pc, .iand, 1)) (hn : pc + 1 = n)  (kk : W p l e R s m args below meth c H locs cells slots Q (F0 m n ls (.int (x &&& y) :: rest))) : W p l e R s m args below meth c H locs cells slots Q (F0 m pc ls (.int y :: .int x :: rest)) := by
  subst hn
  exact lv_iand C.hx C.hb (C.dg hk) kk
theorem i_ior {x y : Int32} (C : CX D cy own cc tb nL p s m args c Z) (k : Nat) (hk : tb[k]? = some (pc, .ior, 1)) (hn : pc + 1 = n)  (kk : W p l e R s m args below meth c H locs cells slots Q (F0 m n ls (.int (x ||| y) :: rest))) : W p l e R s m args below meth c H locs cells slots Q (F0 m pc ls (.int y :: .int x :: rest)) := by
  subst hn
  exact lv_ior C.hx C.hb (C.dg hk) kk
theorem i_ixor {x y : Int32} (C : CX D cy own cc tb nL p s m args c Z) (k : Nat) (hk : tb[k]? = some (pc, .ixor, 1)) (hn : pc + 1 = n)  (kk : W p l e R s m args below meth c H locs cells slots Q (F0 m n ls (.int (x ^^^ y) :: rest))) : W p l e R s m args below meth c H locs cells slots Q (F0 m pc ls (.int y :: .int x :: rest)) := by
  subst hn
  exact lv_ixor C.hx C.hb (C.dg hk) kk
theorem i_ishl {x y : Int32} (C : CX D cy own cc tb nL p s m args c Z) (k : Nat) (hk : tb[k]? = some (pc, .ishl, 1)) (hn : pc + 1 = n)  (kk : W p l e R s m args below meth c H locs cells slots Q (F0 m n ls (.int (x <<< (y &&& 31)) :: rest))) : W p l e R s m args below meth c H locs cells slots Q (F0 m pc ls (.int y :: .int x :: rest)) := by
  subst hn
  exact lv_ishl C.hx C.hb (C.dg hk) kk
theorem i_ishr {x y : Int32} (C : CX D cy own cc tb nL p s m args c Z) (k : Nat) (hk : tb[k]? = some (pc, .ishr, 1)) (hn : pc + 1 = n)  (kk : W p l e R s m args below meth c H locs cells slots Q (F0 m n ls (.int (x >>> (y &&& 31)) :: rest))) : W p l e R s m args below meth c H locs cells slots Q (F0 m pc ls (.int y :: .int x :: rest)) := by
  subst hn
  exact lv_ishr C.hx C.hb (C.dg hk) kk
theorem i_iushr {x y : Int32} (C : CX D cy own cc tb nL p s m args c Z) (k : Nat) (hk : tb[k]? = some (pc, .iushr, 1)) (hn : pc + 1 = n)  (kk : W p l e R s m args below meth c H locs cells slots Q (F0 m n ls (.int ((x.toUInt32 >>> (y.toUInt32 &&& Int32.toUInt32 31)).toInt32) :: rest))) : W p l e R s m args below meth c H locs cells slots Q (F0 m pc ls (.int y :: .int x :: rest)) := by
  subst hn
  exact lv_iushr C.hx C.hb (C.dg hk) rfl kk
theorem i_idiv {x y : Int32} (C : CX D cy own cc tb nL p s m args c Z) (k : Nat) (hk : tb[k]? = some (pc, .idiv, 1)) (hn : pc + 1 = n) (hne : ¬ y = 0) (kk : W p l e R s m args below meth c H locs cells slots Q (F0 m n ls (.int (x / y) :: rest))) : W p l e R s m args below meth c H locs cells slots Q (F0 m pc ls (.int y :: .int x :: rest)) := by
  subst hn
  exact lv_idiv C.hx C.hb (C.dg hk) hne kk
theorem i_irem {x y : Int32} (C : CX D cy own cc tb nL p s m args c Z) (k : Nat) (hk : tb[k]? = some (pc, .irem, 1)) (hn : pc + 1 = n) (hne : ¬ y = 0) (kk : W p l e R s m args below meth c H locs cells slots Q (F0 m n ls (.int (x - x / y * y) :: rest))) : W p l e R s m args below meth c H locs cells slots Q (F0 m pc ls (.int y :: .int x :: rest)) := by
  subst hn
  exact lv_irem C.hx C.hb (C.dg hk) hne kk
theorem i_ineg {x : Int32} (C : CX D cy own cc tb nL p s m args c Z) (k : Nat) (hk : tb[k]? = some (pc, .ineg, 1)) (hn : pc + 1 = n)  (kk : W p l e R s m args below meth c H locs cells slots Q (F0 m n ls (.int (-x) :: rest))) : W p l e R s m args below meth c H locs cells slots Q (F0 m pc ls (.int x :: rest)) := by
  subst hn
  exact lv_ineg C.hx C.hb (C.dg hk) kk
theorem i_dup {va : Value} (C : CX D cy own cc tb nL p s m args c Z) (k : Nat) (hk : tb[k]? = some (pc, .dup, 1)) (hn : pc + 1 = n) (h1 : va.category = 1) (kk : W p l e R s m args below meth c H locs cells slots Q (F0 m n ls (va :: va :: rest))) : W p l e R s m args below meth c H locs cells slots Q (F0 m pc ls (va :: rest)) := by
  subst hn
  exact lv_dup C.hx C.hb (C.dg hk) h1 kk
theorem i_pop {va : Value} (C : CX D cy own cc tb nL p s m args c Z) (k : Nat) (hk : tb[k]? = some (pc, .pop, 1)) (hn : pc + 1 = n) (h1 : va.category = 1) (kk : W p l e R s m args below meth c H locs cells slots Q (F0 m n ls rest)) : W p l e R s m args below meth c H locs cells slots Q (F0 m pc ls (va :: rest)) := by
  subst hn
  exact lv_pop C.hx C.hb (C.dg hk) h1 kk
theorem i_dup_x1 {va vb : Value} (C : CX D cy own cc tb nL p s m args c Z) (k : Nat) (hk : tb[k]? = some (pc, .dup_x1, 1)) (hn : pc + 1 = n) (h1 : va.category = 1) (h2 : vb.category = 1) (kk : W p l e R s m args below meth c H locs cells slots Q (F0 m n ls (va :: vb :: va :: rest))) : W p l e R s m args below meth c H locs cells slots Q (F0 m pc ls (va :: vb :: rest)) := by
  subst hn
  exact lv_dup_x1 C.hx C.hb (C.dg hk) h1 h2 kk
theorem i_dup2 {va vb : Value} (C : CX D cy own cc tb nL p s m args c Z) (k : Nat) (hk : tb[k]? = some (pc, .dup2, 1)) (hn : pc + 1 = n) (h1 : va.category = 1) (h2 : vb.category = 1) (kk : W p l e R s m args below meth c H locs cells slots Q (F0 m n ls (va :: vb :: va :: vb :: rest))) : W p l e R s m args below meth c H locs cells slots Q (F0 m pc ls (va :: vb :: rest)) := by
  subst hn
  exact lv_dup2_11 C.hx C.hb (C.dg hk) h1 h2 kk
theorem i_null  (C : CX D cy own cc tb nL p s m args c Z) (k : Nat) (hk : tb[k]? = some (pc, .aconst_null, 1)) (hn : pc + 1 = n)  (kk : W p l e R s m args below meth c H locs cells slots Q (F0 m n ls (.null :: rest))) : W p l e R s m args below meth c H locs cells slots Q (F0 m pc ls rest) := by
  subst hn
  exact lv_null C.hx C.hb (C.dg hk) kk
theorem i_istore_n {f : Fin 4} {i : Nat} {x : Int32} (C : CX D cy own cc tb nL p s m args c Z) (k : Nat) (hk : tb[k]? = some (pc, .istore_n f, 1)) (hn : pc + 1 = n) (hi : (f : Nat) = i) (hl : lv_has ls nL lv) (hi2 : i < nL) (hf : (i, Value.int x) :: lv.filter (fun q => !(q.1 == i) && !(q.1 + 1 == i && q.2.category == 2)) = lv') (kk : ∀ ls : Array Slot, lv_has ls nL lv' → W p l e R s m args below meth c H locs cells slots Q (F0 m n ls rest)) : W p l e R s m args below meth c H locs cells slots Q (F0 m pc ls (Value.int x :: rest)) := by
  subst hn
  exact lv_istore_n C.hx C.hb (C.dg hk) hi hl hi2 hf kk
theorem i_istore {i : Nat} {x : Int32} (C : CX D cy own cc tb nL p s m args c Z) (k : Nat) (hk : tb[k]? = some (pc, .istore i, 2)) (hn : pc + 2 = n)  (hl : lv_has ls nL lv) (hi2 : i < nL) (hf : (i, Value.int x) :: lv.filter (fun q => !(q.1 == i) && !(q.1 + 1 == i && q.2.category == 2)) = lv') (kk : ∀ ls : Array Slot, lv_has ls nL lv' → W p l e R s m args below meth c H locs cells slots Q (F0 m n ls rest)) : W p l e R s m args below meth c H locs cells slots Q (F0 m pc ls (Value.int x :: rest)) := by
  subst hn
  exact lv_istore C.hx C.hb (C.dg hk) hl hi2 hf kk
theorem i_astore_n {f : Fin 4} {i : Nat} {x : Nat} (C : CX D cy own cc tb nL p s m args c Z) (k : Nat) (hk : tb[k]? = some (pc, .astore_n f, 1)) (hn : pc + 1 = n) (hi : (f : Nat) = i) (hl : lv_has ls nL lv) (hi2 : i < nL) (hf : (i, Value.ref x) :: lv.filter (fun q => !(q.1 == i) && !(q.1 + 1 == i && q.2.category == 2)) = lv') (kk : ∀ ls : Array Slot, lv_has ls nL lv' → W p l e R s m args below meth c H locs cells slots Q (F0 m n ls rest)) : W p l e R s m args below meth c H locs cells slots Q (F0 m pc ls (Value.ref x :: rest)) := by
  subst hn
  exact lv_astore_n C.hx C.hb (C.dg hk) hi hl hi2 hf kk
theorem i_astore {i : Nat} {x : Nat} (C : CX D cy own cc tb nL p s m args c Z) (k : Nat) (hk : tb[k]? = some (pc, .astore i, 2)) (hn : pc + 2 = n)  (hl : lv_has ls nL lv) (hi2 : i < nL) (hf : (i, Value.ref x) :: lv.filter (fun q => !(q.1 == i) && !(q.1 + 1 == i && q.2.category == 2)) = lv') (kk : ∀ ls : Array Slot, lv_has ls nL lv' → W p l e R s m args below meth c H locs cells slots Q (F0 m n ls rest)) : W p l e R s m args below meth c H locs cells slots Q (F0 m pc ls (Value.ref x :: rest)) := by
  subst hn
  exact lv_astore C.hx C.hb (C.dg hk) hl hi2 hf kk
theorem i_astore_nN {f : Fin 4} {i : Nat} (C : CX D cy own cc tb nL p s m args c Z) (k : Nat) (hk : tb[k]? = some (pc, .astore_n f, 1)) (hn : pc + 1 = n) (hi : (f : Nat) = i) (hl : lv_has ls nL lv) (hi2 : i < nL) (hf : (i, Value.null) :: lv.filter (fun q => !(q.1 == i) && !(q.1 + 1 == i && q.2.category == 2)) = lv') (kk : ∀ ls : Array Slot, lv_has ls nL lv' → W p l e R s m args below meth c H locs cells slots Q (F0 m n ls rest)) : W p l e R s m args below meth c H locs cells slots Q (F0 m pc ls (Value.null :: rest)) := by
  subst hn
  exact lv_astore_nN C.hx C.hb (C.dg hk) hi hl hi2 hf kk
theorem i_astoreN {i : Nat} (C : CX D cy own cc tb nL p s m args c Z) (k : Nat) (hk : tb[k]? = some (pc, .astore i, 2)) (hn : pc + 2 = n)  (hl : lv_has ls nL lv) (hi2 : i < nL) (hf : (i, Value.null) :: lv.filter (fun q => !(q.1 == i) && !(q.1 + 1 == i && q.2.category == 2)) = lv') (kk : ∀ ls : Array Slot, lv_has ls nL lv' → W p l e R s m args below meth c H locs cells slots Q (F0 m n ls rest)) : W p l e R s m args below meth c H locs cells slots Q (F0 m pc ls (Value.null :: rest)) := by
  subst hn
  exact lv_astoreN C.hx C.hb (C.dg hk) hl hi2 hf kk
theorem i_iinc {i : Nat} {z : Int} {x v : Int32} (C : CX D cy own cc tb nL p s m args c Z) (k : Nat) (hk : tb[k]? = some (pc, .iinc i z, 3)) (hn : pc + 3 = n) (hl : lv_has ls nL lv) (j : Nat) (hj : lv[j]? = some (i, .int x)) (hv : x + Int32.ofInt z = v) (hi2 : i < nL) (hf : (i, Value.int v) :: lv.filter (fun q => !(q.1 == i) && !(q.1 + 1 == i && q.2.category == 2)) = lv') (kk : ∀ ls : Array Slot, lv_has ls nL lv' → W p l e R s m args below meth c H locs cells slots Q (F0 m n ls rest)) : W p l e R s m args below meth c H locs cells slots Q (F0 m pc ls rest) := by
  subst hn
  exact lv_iinc C.hx C.hb (C.dg hk) hl hj hv hi2 hf kk
theorem i_if_eq {x : Int32} {off : Int} {tgt : Nat} (C : CX D cy own cc tb nL p s m args c Z) (k : Nat) (hk : tb[k]? = some (pc, .ifCond .eq off, 3)) (hn : pc + 3 = n) (ht : (pc : Int) + off = (tgt : Int)) (kt : x = 0 → W p l e R s m args below meth c H locs cells slots Q (F0 m tgt ls rest)) (kf : ¬ x = 0 → W p l e R s m args below meth c H locs cells slots Q (F0 m n ls rest)) : W p l e R s m args below meth c H locs cells slots Q (F0 m pc ls (.int x :: rest)) := by
  subst hn
  exact lv_if_eq C.hx C.hb (C.dg hk) ht kt kf
theorem i_icmp_eq {x y : Int32} {off : Int} {tgt : Nat} (C : CX D cy own cc tb nL p s m args c Z) (k : Nat) (hk : tb[k]? = some (pc, .if_icmp .eq off, 3)) (hn : pc + 3 = n) (ht : (pc : Int) + off = (tgt : Int)) (kt : x = y → W p l e R s m args below meth c H locs cells slots Q (F0 m tgt ls rest)) (kf : ¬ x = y → W p l e R s m args below meth c H locs cells slots Q (F0 m n ls rest)) : W p l e R s m args below meth c H locs cells slots Q (F0 m pc ls (.int y :: .int x :: rest)) := by
  subst hn
  exact lv_icmp_eq C.hx C.hb (C.dg hk) ht kt kf
theorem i_if_ne {x : Int32} {off : Int} {tgt : Nat} (C : CX D cy own cc tb nL p s m args c Z) (k : Nat) (hk : tb[k]? = some (pc, .ifCond .ne off, 3)) (hn : pc + 3 = n) (ht : (pc : Int) + off = (tgt : Int)) (kt : ¬ x = 0 → W p l e R s m args below meth c H locs cells slots Q (F0 m tgt ls rest)) (kf : x = 0 → W p l e R s m args below meth c H locs cells slots Q (F0 m n ls rest)) : W p l e R s m args below meth c H locs cells slots Q (F0 m pc ls (.int x :: rest)) := by
  subst hn
  exact lv_if_ne C.hx C.hb (C.dg hk) ht kt kf
theorem i_icmp_ne {x y : Int32} {off : Int} {tgt : Nat} (C : CX D cy own cc tb nL p s m args c Z) (k : Nat) (hk : tb[k]? = some (pc, .if_icmp .ne off, 3)) (hn : pc + 3 = n) (ht : (pc : Int) + off = (tgt : Int)) (kt : ¬ x = y → W p l e R s m args below meth c H locs cells slots Q (F0 m tgt ls rest)) (kf : x = y → W p l e R s m args below meth c H locs cells slots Q (F0 m n ls rest)) : W p l e R s m args below meth c H locs cells slots Q (F0 m pc ls (.int y :: .int x :: rest)) := by
  subst hn
  exact lv_icmp_ne C.hx C.hb (C.dg hk) ht kt kf
theorem i_if_lt {x : Int32} {off : Int} {tgt : Nat} (C : CX D cy own cc tb nL p s m args c Z) (k : Nat) (hk : tb[k]? = some (pc, .ifCond .lt off, 3)) (hn : pc + 3 = n) (ht : (pc : Int) + off = (tgt : Int)) (kt : x < 0 → W p l e R s m args below meth c H locs cells slots Q (F0 m tgt ls rest)) (kf : ¬ x < 0 → W p l e R s m args below meth c H locs cells slots Q (F0 m n ls rest)) : W p l e R s m args below meth c H locs cells slots Q (F0 m pc ls (.int x :: rest)) := by
  subst hn
  exact lv_if_lt C.hx C.hb (C.dg hk) ht kt kf
theorem i_icmp_lt {x y : Int32} {off : Int} {tgt : Nat} (C : CX D cy own cc tb nL p s m args c Z) (k : Nat) (hk : tb[k]? = some (pc, .if_icmp .lt off, 3)) (hn : pc + 3 = n) (ht : (pc : Int) + off = (tgt : Int)) (kt : x < y → W p l e R s m args below meth c H locs cells slots Q (F0 m tgt ls rest)) (kf : ¬ x < y → W p l e R s m args below meth c H locs cells slots Q (F0 m n ls rest)) : W p l e R s m args below meth c H locs cells slots Q (F0 m pc ls (.int y :: .int x :: rest)) := by
  subst hn
  exact lv_icmp_lt C.hx C.hb (C.dg hk) ht kt kf
theorem i_if_ge {x : Int32} {off : Int} {tgt : Nat} (C : CX D cy own cc tb nL p s m args c Z) (k : Nat) (hk : tb[k]? = some (pc, .ifCond .ge off, 3)) (hn : pc + 3 = n) (ht : (pc : Int) + off = (tgt : Int)) (kt : 0 ≤ x → W p l e R s m args below meth c H locs cells slots Q (F0 m tgt ls rest)) (kf : ¬ 0 ≤ x → W p l e R s m args below meth c H locs cells slots Q (F0 m n ls rest)) : W p l e R s m args below meth c H locs cells slots Q (F0 m pc ls (.int x :: rest)) := by
  subst hn
  exact lv_if_ge C.hx C.hb (C.dg hk) ht kt kf
theorem i_icmp_ge {x y : Int32} {off : Int} {tgt : Nat} (C : CX D cy own cc tb nL p s m args c Z) (k : Nat) (hk : tb[k]? = some (pc, .if_icmp .ge off, 3)) (hn : pc + 3 = n) (ht : (pc : Int) + off = (tgt : Int)) (kt : y ≤ x → W p l e R s m args below meth c H locs cells slots Q (F0 m tgt ls rest)) (kf : ¬ y ≤ x → W p l e R s m args below meth c H locs cells slots Q (F0 m n ls rest)) : W p l e R s m args below meth c H locs cells slots Q (F0 m pc ls (.int y :: .int x :: rest)) := by
  subst hn
  exact lv_icmp_ge C.hx C.hb (C.dg hk) ht kt kf
theorem i_if_gt {x : Int32} {off : Int} {tgt : Nat} (C : CX D cy own cc tb nL p s m args c Z) (k : Nat) (hk : tb[k]? = some (pc, .ifCond .gt off, 3)) (hn : pc + 3 = n) (ht : (pc : Int) + off = (tgt : Int)) (kt : 0 < x → W p l e R s m args below meth c H locs cells slots Q (F0 m tgt ls rest)) (kf : ¬ 0 < x → W p l e R s m args below meth c H locs cells slots Q (F0 m n ls rest)) : W p l e R s m args below meth c H locs cells slots Q (F0 m pc ls (.int x :: rest)) := by
  subst hn
  exact lv_if_gt C.hx C.hb (C.dg hk) ht kt kf
theorem i_icmp_gt {x y : Int32} {off : Int} {tgt : Nat} (C : CX D cy own cc tb nL p s m args c Z) (k : Nat) (hk : tb[k]? = some (pc, .if_icmp .gt off, 3)) (hn : pc + 3 = n) (ht : (pc : Int) + off = (tgt : Int)) (kt : y < x → W p l e R s m args below meth c H locs cells slots Q (F0 m tgt ls rest)) (kf : ¬ y < x → W p l e R s m args below meth c H locs cells slots Q (F0 m n ls rest)) : W p l e R s m args below meth c H locs cells slots Q (F0 m pc ls (.int y :: .int x :: rest)) := by
  subst hn
  exact lv_icmp_gt C.hx C.hb (C.dg hk) ht kt kf
theorem i_if_le {x : Int32} {off : Int} {tgt : Nat} (C : CX D cy own cc tb nL p s m args c Z) (k : Nat) (hk : tb[k]? = some (pc, .ifCond .le off, 3)) (hn : pc + 3 = n) (ht : (pc : Int) + off = (tgt : Int)) (kt : x ≤ 0 → W p l e R s m args below meth c H locs cells slots Q (F0 m tgt ls rest)) (kf : ¬ x ≤ 0 → W p l e R s m args below meth c H locs cells slots Q (F0 m n ls rest)) : W p l e R s m args below meth c H locs cells slots Q (F0 m pc ls (.int x :: rest)) := by
  subst hn
  exact lv_if_le C.hx C.hb (C.dg hk) ht kt kf
theorem i_icmp_le {x y : Int32} {off : Int} {tgt : Nat} (C : CX D cy own cc tb nL p s m args c Z) (k : Nat) (hk : tb[k]? = some (pc, .if_icmp .le off, 3)) (hn : pc + 3 = n) (ht : (pc : Int) + off = (tgt : Int)) (kt : x ≤ y → W p l e R s m args below meth c H locs cells slots Q (F0 m tgt ls rest)) (kf : ¬ x ≤ y → W p l e R s m args below meth c H locs cells slots Q (F0 m n ls rest)) : W p l e R s m args below meth c H locs cells slots Q (F0 m pc ls (.int y :: .int x :: rest)) := by
  subst hn
  exact lv_icmp_le C.hx C.hb (C.dg hk) ht kt kf
theorem i_goto {off : Int} {tgt : Nat} (C : CX D cy own cc tb nL p s m args c Z) (k : Nat) (hk : tb[k]? = some (pc, .goto off, 3)) (ht : (pc : Int) + off = (tgt : Int)) (kk : W p l e R s m args below meth c H locs cells slots Q (F0 m tgt ls rest)) : W p l e R s m args below meth c H locs cells slots Q (F0 m pc ls rest) := lv_goto C.hx C.hb (C.dg hk) ht kk
theorem i_ifnull {x : Nat} {off : Int} (C : CX D cy own cc tb nL p s m args c Z) (k : Nat) (hk : tb[k]? = some (pc, .ifnull off, 3)) (hn : pc + 3 = n) (kk : W p l e R s m args below meth c H locs cells slots Q (F0 m n ls rest)) : W p l e R s m args below meth c H locs cells slots Q (F0 m pc ls (.ref x :: rest)) := by
  subst hn
  exact lv_ifnull C.hx C.hb (C.dg hk) kk
theorem i_ifnullN {off : Int} {tgt : Nat} (C : CX D cy own cc tb nL p s m args c Z) (k : Nat) (hk : tb[k]? = some (pc, .ifnull off, 3)) (ht : (pc : Int) + off = (tgt : Int)) (kk : W p l e R s m args below meth c H locs cells slots Q (F0 m tgt ls rest)) : W p l e R s m args below meth c H locs cells slots Q (F0 m pc ls (.null :: rest)) := lv_ifnullN C.hx C.hb (C.dg hk) ht kk
theorem i_ifnonnull {x : Nat} {off : Int} {tgt : Nat} (C : CX D cy own cc tb nL p s m args c Z) (k : Nat) (hk : tb[k]? = some (pc, .ifnonnull off, 3)) (ht : (pc : Int) + off = (tgt : Int)) (kk : W p l e R s m args below meth c H locs cells slots Q (F0 m tgt ls rest)) : W p l e R s m args below meth c H locs cells slots Q (F0 m pc ls (.ref x :: rest)) := lv_ifnonnull C.hx C.hb (C.dg hk) ht kk
theorem i_ifnonnullN {off : Int} (C : CX D cy own cc tb nL p s m args c Z) (k : Nat) (hk : tb[k]? = some (pc, .ifnonnull off, 3)) (hn : pc + 3 = n) (kk : W p l e R s m args below meth c H locs cells slots Q (F0 m n ls rest)) : W p l e R s m args below meth c H locs cells slots Q (F0 m pc ls (.null :: rest)) := by
  subst hn
  exact lv_ifnonnullN C.hx C.hb (C.dg hk) kk
theorem i_mmax {x y : Int32} {ix : Nat} (C : CX D cy own cc tb nL p s m args c Z) (k : Nat) (hk : tb[k]? = some (pc, .invokestatic ix, 3)) (hn : pc + 3 = n) (hl : lv_has ls nL lv) (hw : Cond.methodLink own ix Lib.Math.max.name ∈ GW) (hf : 1 ≤ R.frames) (ho : (rest.map fun v => v.category).sum + 13 ≤ R.locals) (hc : cells ≤ R.cells) (hs : slots ≤ R.slots) (kk : W p l e R s m args below meth c H locs cells slots Q (F0 m n ls (.int (if x < y then y else x) :: rest))) : W p l e R s m args below meth c H locs cells slots Q (F0 m pc ls (.int y :: .int x :: rest)) := by
  subst hn
  exact va_mmax C.hx C.hb (C.hml.trans hl.1.symm) C.hown (C.hts _ hw) (C.hts _ w_mmax_s) (C.hts _ w_Math_i) (C.hts _ w_mmax_c) hf ho hc hs (C.dg hk) kk
theorem i_mmin {x y : Int32} {ix : Nat} (C : CX D cy own cc tb nL p s m args c Z) (k : Nat) (hk : tb[k]? = some (pc, .invokestatic ix, 3)) (hn : pc + 3 = n) (hl : lv_has ls nL lv) (hw : Cond.methodLink own ix Lib.Math.min.name ∈ GW) (hf : 1 ≤ R.frames) (ho : (rest.map fun v => v.category).sum + 13 ≤ R.locals) (hc : cells ≤ R.cells) (hs : slots ≤ R.slots) (kk : W p l e R s m args below meth c H locs cells slots Q (F0 m n ls (.int (if y < x then y else x) :: rest))) : W p l e R s m args below meth c H locs cells slots Q (F0 m pc ls (.int y :: .int x :: rest)) := by
  subst hn
  exact va_mmin C.hx C.hb (C.hml.trans hl.1.symm) C.hown (C.hts _ hw) (C.hts _ w_mmin_s) (C.hts _ w_Math_i) (C.hts _ w_mmin_c) hf ho hc hs (C.dg hk) kk
theorem i_mabs {x : Int32} {ix : Nat} (C : CX D cy own cc tb nL p s m args c Z) (k : Nat) (hk : tb[k]? = some (pc, .invokestatic ix, 3)) (hn : pc + 3 = n) (hl : lv_has ls nL lv) (hw : Cond.methodLink own ix Lib.Math.abs.name ∈ GW) (hf : 1 ≤ R.frames) (ho : (rest.map fun v => v.category).sum + 13 ≤ R.locals) (hc : cells ≤ R.cells) (hs : slots ≤ R.slots) (kk : W p l e R s m args below meth c H locs cells slots Q (F0 m n ls (.int (if 0 ≤ x then x else 0 - x) :: rest))) : W p l e R s m args below meth c H locs cells slots Q (F0 m pc ls (.int x :: rest)) := by
  subst hn
  exact va_mabs C.hx C.hb (C.hml.trans hl.1.symm) C.hown (C.hts _ hw) (C.hts _ w_mabs_s) (C.hts _ w_Math_i) (C.hts _ w_mabs_c) hf ho hc hs (C.dg hk) kk
theorem i_getf {ix ci q0 a fk N : Nat} {Cn ref : String} {Tf : u_T} {fs : List Value} {v : Value} (C : CX D cy own cc tb nL p s m args c Z) (k : Nat) (hk : tb[k]? = some (pc, .getfield ix, 3)) (hn : pc + 3 = n) (h : HXw D Z s.heap H locs w) (hin : ∀ x ∈ u_ws Cn Tf N, x ∈ GW) (he : w[q0]? = some (a, .inr (ci, fs))) (hc : vwCl[ci]? = some (Cn, Tf, N)) (hfk : fk < N) (hlink : Cond.fieldLink own ix ref (Tf fk).2.1 (Tf fk).2.2.1 ∈ GW) (hsame : ∀ x, s.fieldFound? (Tf fk).1 (Tf fk).2.1 (Tf fk).2.2.1 = some x → s.fieldFound? ref (Tf fk).2.1 (Tf fk).2.2.1 = some x) (hv : fs[fk]? = some v) (kk : W p l e R s m args below meth c H locs cells slots Q (F0 m n ls (v :: rest))) : W p l e R s m args below meth c H locs cells slots Q (F0 m pc ls (.ref a :: rest)) := by
  subst hn
  exact va_get C.hx C.hb C.hts hin C.hown C.hK h.1 q0 he hc fk hfk (C.hts _ hlink) hsame hv (C.dg hk) kk
theorem i_putf {ix ci q0 a fk N : Nat} {Cn ref : String} {Tf : u_T} {fs : List Value} {v : Value} {ty : FieldType} {w2 : va_W} (C : CX D cy own cc tb nL p s m args c Z) (k : Nat) (hk : tb[k]? = some (pc, .putfield ix, 3)) (hn : pc + 3 = n) (h : HXw D Z s.heap H locs w) (hin : ∀ x ∈ u_ws Cn Tf N, x ∈ GW) (ty0 : Nat → FieldType) (hty : ∀ k, k < N → parseFieldDescriptor (Tf k).2.2.1 = some (ty0 k)) (hnm : ∀ a, a < N → ∀ b, b < N → a ≠ b → (Tf a).2.1 ≠ (Tf b).2.1) (he : w[q0]? = some (a, .inr (ci, fs))) (hc : vwCl[ci]? = some (Cn, Tf, N)) (hfk : fk < N) (hlink : Cond.fieldLink own ix ref (Tf fk).2.1 (Tf fk).2.2.1 ∈ GW) (hsame : ∀ x, s.fieldFound? (Tf fk).1 (Tf fk).2.1 (Tf fk).2.2.1 = some x → s.fieldFound? ref (Tf fk).2.1 (Tf fk).2.2.1 = some x) (hfin : (Tf fk).2.2.2 = false) (hd : parseFieldDescriptor (Tf fk).2.2.1 = some ty) (hnr : narrow ty v = v) (hfit : fits ty v = true) (hl : fk < fs.length) (he2 : w.set q0 (a, .inr (ci, fs.set fk v)) = w2) (kk : ∀ (H : Heap) (locs : List Loc), HXw D Z s.heap H locs w2 → W p l e R s m args below meth c H locs cells slots Q (F0 m n ls rest)) : W p l e R s m args below meth c H locs cells slots Q (F0 m pc ls (v :: .ref a :: rest)) := by
  subst hn
  subst he2
  exact va_put C.hx C.hb C.hts hin ty0 hty hnm C.hown C.hK h.1 h.2.1 h.2.2 q0 he hc fk hfk (C.hts _ hlink) hsame hfin hd hnr hfit hl (C.dg hk) (fun H1 l1 a1 a2 a3 => kk H1 l1 ⟨a1, a2, a3⟩)
theorem i_iald {q0 a len : Nat} {f : Nat → Int32} {i : Int32} (C : CX D cy own cc tb nL p s m args c Z) (k : Nat) (hk : tb[k]? = some (pc, .iaload, 1)) (hn : pc + 1 = n) (h : HXw D Z s.heap H locs w) (ha : w[q0]? = some (a, .inl (cy 0, len, .inl f))) (hin : vp_in i len) (kk : W p l e R s m args below meth c H locs cells slots Q (F0 m n ls (.int (f i.toNatClampNeg) :: rest))) : W p l e R s m args below meth c H locs cells slots Q (F0 m pc ls (.int i :: .ref a :: rest)) := by
  subst hn
  exact va_iald C.hx C.hb C.hK h.1 q0 0 ha rfl hin (C.dg hk) kk
theorem i_zald {q0 a len : Nat} {f : Nat → Int32} {i : Int32} (C : CX D cy own cc tb nL p s m args c Z) (k : Nat) (hk : tb[k]? = some (pc, .baload, 1)) (hn : pc + 1 = n) (h : HXw D Z s.heap H locs w) (ha : w[q0]? = some (a, .inl (cy 1, len, .inl f))) (hin : vp_in i len) (kk : W p l e R s m args below meth c H locs cells slots Q (F0 m n ls (.int (f i.toNatClampNeg) :: rest))) : W p l e R s m args below meth c H locs cells slots Q (F0 m pc ls (.int i :: .ref a :: rest)) := by
  subst hn
  exact va_zald C.hx C.hb C.hK h.1 q0 1 ha rfl hin (C.dg hk) kk
theorem i_iast {q0 a len : Nat} {f : Nat → Int32} {i x : Int32} {w2 : va_W} (C : CX D cy own cc tb nL p s m args c Z) (k : Nat) (hk : tb[k]? = some (pc, .iastore, 1)) (hn : pc + 1 = n) (h : HXw D Z s.heap H locs w) (ha : w[q0]? = some (a, .inl (cy 0, len, .inl f))) (hin : vp_in i len) (he2 : w.set q0 (a, .inl (cy 0, len, .inl (upd f i.toNatClampNeg x))) = w2) (kk : ∀ (H : Heap) (locs : List Loc), HXw D Z s.heap H locs w2 → W p l e R s m args below meth c H locs cells slots Q (F0 m n ls rest)) : W p l e R s m args below meth c H locs cells slots Q (F0 m pc ls (.int x :: .int i :: .ref a :: rest)) := by
  subst hn
  subst he2
  exact va_iast C.hx C.hb C.hK h.1 h.2.1 h.2.2 q0 0 ha rfl hin (C.dg hk) (fun H1 l1 a1 a2 a3 => kk H1 l1 ⟨a1, a2, a3⟩)
theorem i_zast {q0 a len : Nat} {f : Nat → Int32} {i x : Int32} {w2 : va_W} (C : CX D cy own cc tb nL p s m args c Z) (k : Nat) (hk : tb[k]? = some (pc, .bastore, 1)) (hn : pc + 1 = n) (h : HXw D Z s.heap H locs w) (ha : w[q0]? = some (a, .inl (cy 1, len, .inl f))) (hin : vp_in i len) (he2 : w.set q0 (a, .inl (cy 1, len, .inl (upd f i.toNatClampNeg (vp_nar .boolean x)))) = w2) (kk : ∀ (H : Heap) (locs : List Loc), HXw D Z s.heap H locs w2 → W p l e R s m args below meth c H locs cells slots Q (F0 m n ls rest)) : W p l e R s m args below meth c H locs cells slots Q (F0 m pc ls (.int x :: .int i :: .ref a :: rest)) := by
  subst hn
  subst he2
  exact va_zast C.hx C.hb C.hK h.1 h.2.1 h.2.2 q0 1 ha rfl hin (C.dg hk) (fun H1 l1 a1 a2 a3 => kk H1 l1 ⟨a1, a2, a3⟩)
theorem i_aldq {q0 a len : Nat} {f : Nat → Option Nat} {i : Int32} (C : CX D cy own cc tb nL p s m args c Z) (k : Nat) (hk : tb[k]? = some (pc, .aaload, 1)) (hn : pc + 1 = n) (h : HXw D Z s.heap H locs w) (ha : w[q0]? = some (a, .inl (cy 2, len, .inr (.inr (.inr (.inr f)))))) (hin : vp_in i len) (kn : f i.toNatClampNeg = none → W p l e R s m args below meth c H locs cells slots Q (F0 m n ls (.null :: rest))) (ks : ∀ q : Nat, f i.toNatClampNeg = some q → W p l e R s m args below meth c H locs cells slots Q (F0 m n ls (.ref q :: rest))) : W p l e R s m args below meth c H locs cells slots Q (F0 m pc ls (.int i :: .ref a :: rest)) := by
  subst hn
  refine va_aldq C.hx C.hb C.hK h.1 q0 2 ha rfl hin (C.dg hk) ?_
  rcases hf : f i.toNatClampNeg with _ | q
  · exact kn hf
  · exact ks q hf
theorem i_aldA {q0 a len q : Nat} {f : Nat → Option Nat} {i : Int32} (C : CX D cy own cc tb nL p s m args c Z) (k : Nat) (hk : tb[k]? = some (pc, .aaload, 1)) (hn : pc + 1 = n) (h : HXw D Z s.heap H locs w) (ha : w[q0]? = some (a, .inl (cy 3, len, .inr (.inr (.inr (.inr f)))))) (hin : vp_in i len) (hf : f i.toNatClampNeg = some q) (kk : W p l e R s m args below meth c H locs cells slots Q (F0 m n ls (.ref q :: rest))) : W p l e R s m args below meth c H locs cells slots Q (F0 m pc ls (.int i :: .ref a :: rest)) := by
  subst hn
  have hlt : i.toNatClampNeg < len := Nat.not_le.mp fun q => hin (Or.inr q)
  refine W.aald (v := va_rf (f i.toNatClampNeg)) (ty := .array .int) C.hx C.hb (h.1 q0 _ ha) ((C.hK.2 3 _ rfl).1 len (fun j => va_rf (f j))) rfl (fun q => by cases q) (by show ¬ (i < 0 ∨ (arrV _ _ _).slots.size ≤ _); rw [arrV_size]; exact hin) (by show (arrV _ _ _).slots[_]? = _; rw [arrV_read _ _ hlt]) rfl rfl (C.dg hk) ?_
  rw [hf]
  exact kk
theorem i_alen {q0 a t0 : Nat} {x : vp_A} {cA : ClassId} {ty : FieldType} {v : Int32} (C : CX D cy own cc tb nL p s m args c Z) (k : Nat) (hk : tb[k]? = some (pc, .arraylength, 1)) (hn : pc + 1 = n) (h : HXw D Z s.heap H locs w) (ha : w[q0]? = some (a, .inl (cA, x))) (ht : (tysF cy)[t0]? = some (cA, ty)) (hv : Int32.ofNat x.1 = v) (kk : W p l e R s m args below meth c H locs cells slots Q (F0 m n ls (.int v :: rest))) : W p l e R s m args below meth c H locs cells slots Q (F0 m pc ls (.ref a :: rest)) := by
  subst hn
  exact va_alen C.hx C.hb C.hK h.1 q0 t0 ha ht hv (C.dg hk) kk
theorem i_tsw {x v : Int32} {dflt lo hi : Int} {offs : Array Int} {len : Nat} {off : Int} {tgt : Nat} (C : CX D cy own cc tb nL p s m args c Z) (k : Nat) (hk : tb[k]? = some (pc, .tableswitch dflt lo hi offs, len)) (hx : x = v) (h1 : ¬ v.toInt < lo) (h2 : ¬ hi < v.toInt) (ho : offs[(v.toInt - lo).toNat]? = some off) (ht : (pc : Int) + off = (tgt : Int)) (kk : W p l e R s m args below meth c H locs cells slots Q (F0 m tgt ls rest)) : W p l e R s m args below meth c H locs cells slots Q (F0 m pc ls (.int x :: rest)) := by
  subst hx
  exact lv_tableIn C.hx C.hb (C.dg hk) h1 h2 ho ht kk
theorem sw_out {x : Int32} {lo hi : Int} (h : ∀ j : Nat, (j : Int) ≤ hi - lo → ¬ x.toInt = lo + j) : x.toInt < lo ∨ hi < x.toInt := by
  by_cases h1 : x.toInt < lo
  · exact Or.inl h1
  · by_cases h2 : hi < x.toInt
    · exact Or.inr h2
    · exact absurd (show x.toInt = lo + ((x.toInt - lo).toNat : Int) by omega) (h (x.toInt - lo).toNat (by omega))
theorem i_tswd {x : Int32} {dflt lo hi : Int} {offs : Array Int} {len : Nat} {tgt : Nat} (C : CX D cy own cc tb nL p s m args c Z) (k : Nat) (hk : tb[k]? = some (pc, .tableswitch dflt lo hi offs, len)) (hx : ∀ j : Nat, (j : Int) ≤ hi - lo → ¬ x.toInt = lo + j) (ht : (pc : Int) + dflt = (tgt : Int)) (kk : W p l e R s m args below meth c H locs cells slots Q (F0 m tgt ls rest)) : W p l e R s m args below meth c H locs cells slots Q (F0 m pc ls (.int x :: rest)) := lv_tableOut C.hx C.hb (C.dg hk) (sw_out hx) ht kk
theorem i_callSp {y : MethodName} {bytes : ByteArray} {maxL n2 ix : Nat} {ret : Option FieldType} {ws : List Cond} {rm : Room} {As st0 : List Value}   {post : Int32 → Prop} (C : CX D cy own cc tb nL p s m args c Z) (k : Nat) (hk : tb[k]? = some (pc, .invokestatic ix, 3)) (hn : pc + 3 = n) (hl : lv_has ls nL lv) (h : HXw D Z s.heap H locs w)  (cw : (∀ w ∈ GW, w.before args s = true) → CallB R s args own ix y bytes maxL ret ws rm 0 0 n2 ∧ (Cond.static y).before args s = true) (hM : ∀ sz, Met l y ws rm (va_Pc As (PreW D cy w sz)) (vp_Si post) 0 0 (fun _ => False)) (hlen : As.length = n2) (hst : st0 = As.reverse ++ rest) (hs : (rest.map fun v => v.category).sum ≤ 8) (hc : cells ≤ R.cells ∧ slots ≤ R.slots) (kk : ∀ r : Int32, post r → W p l e R s m args below meth c H locs cells slots Q (F0 m n ls (.int r :: rest))) : W p l e R s m args below meth c H locs cells slots Q (F0 m pc ls st0) := by
  subst hn
  subst hst
  exact call_p (va_runS C.1 (hM _) (cw C.hts) (h.preS C As) rfl hlen hl.1 rfl (lv_room hs) (C.dg hk) hc) kk
theorem i_callSi {y : MethodName} {bytes : ByteArray} {maxL n2 ix : Nat} {ret : Option FieldType} {ws : List Cond} {rm : Room} {As st0 : List Value}   {S : Type} {wf : S → va_W} {post : Int32 → S → Prop} {mc ms : Nat} (C : CX D cy own cc tb nL p s m args c Z) (k : Nat) (hk : tb[k]? = some (pc, .invokestatic ix, 3)) (hn : pc + 3 = n) (hl : lv_has ls nL lv) (h : HXw D Z s.heap H locs w)  (cw : (∀ w ∈ GW, w.before args s = true) → CallB R s args own ix y bytes maxL ret ws rm mc ms n2 ∧ (Cond.static y).before args s = true) (hM : ∀ sz, Met l y ws rm (va_Pc As (PreW D cy w sz)) (va_Qi post (fun u t => PostW D (va_A w sz) (wf u) t) (va_A w sz)) mc ms (va_A w sz)) (hlen : As.length = n2) (hst : st0 = As.reverse ++ rest) (hs : (rest.map fun v => v.category).sum ≤ 8) (hc : cells + mc ≤ R.cells ∧ slots + ms ≤ R.slots) (kk : ∀ (r : Int32) (u : S) (H : Heap) (locs : List Loc), post r u → HXw D Z s.heap H locs (wf u) → W p l e R s m args below meth c H locs (cells + mc) (slots + ms) Q (F0 m n ls (.int r :: rest))) : W p l e R s m args below meth c H locs cells slots Q (F0 m pc ls st0) := by
  subst hn
  subst hst
  exact call_i C h (va_runS C.1 (hM _) (cw C.hts) (h.preS C As) rfl hlen hl.1 rfl (lv_room hs) (C.dg hk) hc) kk
theorem i_callSv {y : MethodName} {bytes : ByteArray} {maxL n2 ix : Nat} {ret : Option FieldType} {ws : List Cond} {rm : Room} {As st0 : List Value}   {S : Type} {wf : S → va_W} {post : S → Prop} {mc ms : Nat} (C : CX D cy own cc tb nL p s m args c Z) (k : Nat) (hk : tb[k]? = some (pc, .invokestatic ix, 3)) (hn : pc + 3 = n) (hl : lv_has ls nL lv) (h : HXw D Z s.heap H locs w)  (cw : (∀ w ∈ GW, w.before args s = true) → CallB R s args own ix y bytes maxL ret ws rm mc ms n2 ∧ (Cond.static y).before args s = true) (hM : ∀ sz, Met l y ws rm (va_Pc As (PreW D cy w sz)) (va_Qv post (fun u t => PostW D (va_A w sz) (wf u) t) (va_A w sz)) mc ms (va_A w sz)) (hlen : As.length = n2) (hst : st0 = As.reverse ++ rest) (hs : (rest.map fun v => v.category).sum ≤ 8) (hc : cells + mc ≤ R.cells ∧ slots + ms ≤ R.slots) (kk : ∀ (u : S) (H : Heap) (locs : List Loc), post u → HXw D Z s.heap H locs (wf u) → W p l e R s m args below meth c H locs (cells + mc) (slots + ms) Q (F0 m n ls rest)) : W p l e R s m args below meth c H locs cells slots Q (F0 m pc ls st0) := by
  subst hn
  subst hst
  exact call_v C h (va_runS C.1 (hM _) (cw C.hts) (h.preS C As) rfl hlen hl.1 rfl (lv_room hs) (C.dg hk) hc) kk
theorem i_callSNp {y : MethodName} {bytes : ByteArray} {maxL n2 ix : Nat} {ret : Option FieldType} {ws : List Cond} {rm : Room} {As st0 : List Value} {host : String}  {post : Int32 → Prop} (C : CX D cy own cc tb nL p s m args c Z) (k : Nat) (hk : tb[k]? = some (pc, .invokestatic ix, 3)) (hn : pc + 3 = n) (hl : lv_has ls nL lv) (h : HXw D Z s.heap H locs w)  (cw : (∀ w ∈ GW, w.before args s = true) → NX s → va_CN R s args own ix y host bytes maxL ret ws rm 0 0 n2 ∧ (Cond.static y).before args s = true ∧ True) (hM : ∀ sz, Met l y ws rm (va_Pc As (PreW D cy w sz)) (vp_Si post) 0 0 (fun _ => False)) (hlen : As.length = n2) (hst : st0 = As.reverse ++ rest) (hs : (rest.map fun v => v.category).sum ≤ 8) (hc : cells ≤ R.cells ∧ slots ≤ R.slots) (kk : ∀ r : Int32, post r → W p l e R s m args below meth c H locs cells slots Q (F0 m n ls (.int r :: rest))) : W p l e R s m args below meth c H locs cells slots Q (F0 m pc ls st0) := by
  subst hn
  subst hst
  exact call_p (va_runSN C.1 (hM _) (cw C.hts C.hN) (h.preS C As) rfl hlen hl.1 rfl (lv_room hs) (C.dg hk) hc) kk
theorem i_callSNi {y : MethodName} {bytes : ByteArray} {maxL n2 ix : Nat} {ret : Option FieldType} {ws : List Cond} {rm : Room} {As st0 : List Value} {host : String}  {S : Type} {wf : S → va_W} {post : Int32 → S → Prop} {mc ms : Nat} (C : CX D cy own cc tb nL p s m args c Z) (k : Nat) (hk : tb[k]? = some (pc, .invokestatic ix, 3)) (hn : pc + 3 = n) (hl : lv_has ls nL lv) (h : HXw D Z s.heap H locs w)  (cw : (∀ w ∈ GW, w.before args s = true) → NX s → va_CN R s args own ix y host bytes maxL ret ws rm mc ms n2 ∧ (Cond.static y).before args s = true ∧ True) (hM : ∀ sz, Met l y ws rm (va_Pc As (PreW D cy w sz)) (va_Qi post (fun u t => PostW D (va_A w sz) (wf u) t) (va_A w sz)) mc ms (va_A w sz)) (hlen : As.length = n2) (hst : st0 = As.reverse ++ rest) (hs : (rest.map fun v => v.category).sum ≤ 8) (hc : cells + mc ≤ R.cells ∧ slots + ms ≤ R.slots) (kk : ∀ (r : Int32) (u : S) (H : Heap) (locs : List Loc), post r u → HXw D Z s.heap H locs (wf u) → W p l e R s m args below meth c H locs (cells + mc) (slots + ms) Q (F0 m n ls (.int r :: rest))) : W p l e R s m args below meth c H locs cells slots Q (F0 m pc ls st0) := by
  subst hn
  subst hst
  exact call_i C h (va_runSN C.1 (hM _) (cw C.hts C.hN) (h.preS C As) rfl hlen hl.1 rfl (lv_room hs) (C.dg hk) hc) kk
theorem i_callSNv {y : MethodName} {bytes : ByteArray} {maxL n2 ix : Nat} {ret : Option FieldType} {ws : List Cond} {rm : Room} {As st0 : List Value} {host : String}  {S : Type} {wf : S → va_W} {post : S → Prop} {mc ms : Nat} (C : CX D cy own cc tb nL p s m args c Z) (k : Nat) (hk : tb[k]? = some (pc, .invokestatic ix, 3)) (hn : pc + 3 = n) (hl : lv_has ls nL lv) (h : HXw D Z s.heap H locs w)  (cw : (∀ w ∈ GW, w.before args s = true) → NX s → va_CN R s args own ix y host bytes maxL ret ws rm mc ms n2 ∧ (Cond.static y).before args s = true ∧ True) (hM : ∀ sz, Met l y ws rm (va_Pc As (PreW D cy w sz)) (va_Qv post (fun u t => PostW D (va_A w sz) (wf u) t) (va_A w sz)) mc ms (va_A w sz)) (hlen : As.length = n2) (hst : st0 = As.reverse ++ rest) (hs : (rest.map fun v => v.category).sum ≤ 8) (hc : cells + mc ≤ R.cells ∧ slots + ms ≤ R.slots) (kk : ∀ (u : S) (H : Heap) (locs : List Loc), post u → HXw D Z s.heap H locs (wf u) → W p l e R s m args below meth c H locs (cells + mc) (slots + ms) Q (F0 m n ls rest)) : W p l e R s m args below meth c H locs cells slots Q (F0 m pc ls st0) := by
  subst hn
  subst hst
  exact call_v C h (va_runSN C.1 (hM _) (cw C.hts C.hN) (h.preS C As) rfl hlen hl.1 rfl (lv_room hs) (C.dg hk) hc) kk
theorem i_callVp {y : MethodName} {bytes : ByteArray} {maxL n2 ix : Nat} {ret : Option FieldType} {ws : List Cond} {rm : Room} {As st0 : List Value}  {ci q0 b : Nat} {qc : vw_C} {fs : List Value} {post : Int32 → Prop} (C : CX D cy own cc tb nL p s m args c Z) (k : Nat) (hk : tb[k]? = some (pc, .invokevirtual ix, 3)) (hn : pc + 3 = n) (hl : lv_has ls nL lv) (h : HXw D Z s.heap H locs w) (hci : vwCl[ci]? = some qc) (he : w[q0]? = some (b, .inr (ci, fs))) (cw : (∀ w ∈ GW, w.before args s = true) → CallW R s args own qc.1 ix y bytes maxL ret ws rm 0 0 n2) (hM : ∀ sz, Met l y ws rm (va_Pc (.ref b :: As) (PreW D cy w sz)) (vp_Si post) 0 0 (fun _ => False)) (hlen : As.length = n2) (hst : st0 = As.reverse ++ .ref b :: rest) (hs : (rest.map fun v => v.category).sum ≤ 8) (hc : cells ≤ R.cells ∧ slots ≤ R.slots) (kk : ∀ r : Int32, post r → W p l e R s m args below meth c H locs cells slots Q (F0 m n ls (.int r :: rest))) : W p l e R s m args below meth c H locs cells slots Q (F0 m pc ls st0) := by
  subst hn
  subst hst
  exact call_p (va_runV C.1 (hM _) (cw C.hts) (h.preV C hci he As) rfl hlen hl.1 rfl (lv_room hs) (C.dg hk) hc) kk
theorem i_callVi {y : MethodName} {bytes : ByteArray} {maxL n2 ix : Nat} {ret : Option FieldType} {ws : List Cond} {rm : Room} {As st0 : List Value}  {ci q0 b : Nat} {qc : vw_C} {fs : List Value} {S : Type} {wf : S → va_W} {post : Int32 → S → Prop} {mc ms : Nat} (C : CX D cy own cc tb nL p s m args c Z) (k : Nat) (hk : tb[k]? = some (pc, .invokevirtual ix, 3)) (hn : pc + 3 = n) (hl : lv_has ls nL lv) (h : HXw D Z s.heap H locs w) (hci : vwCl[ci]? = some qc) (he : w[q0]? = some (b, .inr (ci, fs))) (cw : (∀ w ∈ GW, w.before args s = true) → CallW R s args own qc.1 ix y bytes maxL ret ws rm mc ms n2) (hM : ∀ sz, Met l y ws rm (va_Pc (.ref b :: As) (PreW D cy w sz)) (va_Qi post (fun u t => PostW D (va_A w sz) (wf u) t) (va_A w sz)) mc ms (va_A w sz)) (hlen : As.length = n2) (hst : st0 = As.reverse ++ .ref b :: rest) (hs : (rest.map fun v => v.category).sum ≤ 8) (hc : cells + mc ≤ R.cells ∧ slots + ms ≤ R.slots) (kk : ∀ (r : Int32) (u : S) (H : Heap) (locs : List Loc), post r u → HXw D Z s.heap H locs (wf u) → W p l e R s m args below meth c H locs (cells + mc) (slots + ms) Q (F0 m n ls (.int r :: rest))) : W p l e R s m args below meth c H locs cells slots Q (F0 m pc ls st0) := by
  subst hn
  subst hst
  exact call_i C h (va_runV C.1 (hM _) (cw C.hts) (h.preV C hci he As) rfl hlen hl.1 rfl (lv_room hs) (C.dg hk) hc) kk
theorem i_callVv {y : MethodName} {bytes : ByteArray} {maxL n2 ix : Nat} {ret : Option FieldType} {ws : List Cond} {rm : Room} {As st0 : List Value}  {ci q0 b : Nat} {qc : vw_C} {fs : List Value} {S : Type} {wf : S → va_W} {post : S → Prop} {mc ms : Nat} (C : CX D cy own cc tb nL p s m args c Z) (k : Nat) (hk : tb[k]? = some (pc, .invokevirtual ix, 3)) (hn : pc + 3 = n) (hl : lv_has ls nL lv) (h : HXw D Z s.heap H locs w) (hci : vwCl[ci]? = some qc) (he : w[q0]? = some (b, .inr (ci, fs))) (cw : (∀ w ∈ GW, w.before args s = true) → CallW R s args own qc.1 ix y bytes maxL ret ws rm mc ms n2) (hM : ∀ sz, Met l y ws rm (va_Pc (.ref b :: As) (PreW D cy w sz)) (va_Qv post (fun u t => PostW D (va_A w sz) (wf u) t) (va_A w sz)) mc ms (va_A w sz)) (hlen : As.length = n2) (hst : st0 = As.reverse ++ .ref b :: rest) (hs : (rest.map fun v => v.category).sum ≤ 8) (hc : cells + mc ≤ R.cells ∧ slots + ms ≤ R.slots) (kk : ∀ (u : S) (H : Heap) (locs : List Loc), post u → HXw D Z s.heap H locs (wf u) → W p l e R s m args below meth c H locs (cells + mc) (slots + ms) Q (F0 m n ls rest)) : W p l e R s m args below meth c H locs cells slots Q (F0 m pc ls st0) := by
  subst hn
  subst hst
  exact call_v C h (va_runV C.1 (hM _) (cw C.hts) (h.preV C hci he As) rfl hlen hl.1 rfl (lv_room hs) (C.dg hk) hc) kk
theorem i_callUp {y : MethodName} {bytes : ByteArray} {maxL n2 ix : Nat} {ret : Option FieldType} {ws : List Cond} {rm : Room} {As st0 : List Value} {owner : String} {x : MethodName} {ci q0 b : Nat} {qc : vw_C} {fs : List Value} {post : Int32 → Prop} (C : CX D cy own cc tb nL p s m args c Z) (k : Nat) (hk : tb[k]? = some (pc, .invokevirtual ix, 3)) (hn : pc + 3 = n) (hl : lv_has ls nL lv) (h : HXw D Z s.heap H locs w) (hci : vwCl[ci]? = some qc) (he : w[q0]? = some (b, .inr (ci, fs))) (cw : (∀ w ∈ GW, w.before args s = true) → NX s → va_CU R s args own qc.1 owner ix x y bytes maxL ret ws rm 0 0 n2) (hM : ∀ sz, Met l y ws rm (va_Pc (.ref b :: As) (PreW D cy w sz)) (vp_Si post) 0 0 (fun _ => False)) (hlen : As.length = n2) (hst : st0 = As.reverse ++ .ref b :: rest) (hs : (rest.map fun v => v.category).sum ≤ 8) (hc : cells ≤ R.cells ∧ slots ≤ R.slots) (kk : ∀ r : Int32, post r → W p l e R s m args below meth c H locs cells slots Q (F0 m n ls (.int r :: rest))) : W p l e R s m args below meth c H locs cells slots Q (F0 m pc ls st0) := by
  subst hn
  subst hst
  exact call_p (va_runU C.1 (hM _) (cw C.hts C.hN) (h.preV C hci he As) rfl hlen hl.1 rfl (lv_room hs) (C.dg hk) hc) kk
theorem i_callUi {y : MethodName} {bytes : ByteArray} {maxL n2 ix : Nat} {ret : Option FieldType} {ws : List Cond} {rm : Room} {As st0 : List Value} {owner : String} {x : MethodName} {ci q0 b : Nat} {qc : vw_C} {fs : List Value} {S : Type} {wf : S → va_W} {post : Int32 → S → Prop} {mc ms : Nat} (C : CX D cy own cc tb nL p s m args c Z) (k : Nat) (hk : tb[k]? = some (pc, .invokevirtual ix, 3)) (hn : pc + 3 = n) (hl : lv_has ls nL lv) (h : HXw D Z s.heap H locs w) (hci : vwCl[ci]? = some qc) (he : w[q0]? = some (b, .inr (ci, fs))) (cw : (∀ w ∈ GW, w.before args s = true) → NX s → va_CU R s args own qc.1 owner ix x y bytes maxL ret ws rm mc ms n2) (hM : ∀ sz, Met l y ws rm (va_Pc (.ref b :: As) (PreW D cy w sz)) (va_Qi post (fun u t => PostW D (va_A w sz) (wf u) t) (va_A w sz)) mc ms (va_A w sz)) (hlen : As.length = n2) (hst : st0 = As.reverse ++ .ref b :: rest) (hs : (rest.map fun v => v.category).sum ≤ 8) (hc : cells + mc ≤ R.cells ∧ slots + ms ≤ R.slots) (kk : ∀ (r : Int32) (u : S) (H : Heap) (locs : List Loc), post r u → HXw D Z s.heap H locs (wf u) → W p l e R s m args below meth c H locs (cells + mc) (slots + ms) Q (F0 m n ls (.int r :: rest))) : W p l e R s m args below meth c H locs cells slots Q (F0 m pc ls st0) := by
  subst hn
  subst hst
  exact call_i C h (va_runU C.1 (hM _) (cw C.hts C.hN) (h.preV C hci he As) rfl hlen hl.1 rfl (lv_room hs) (C.dg hk) hc) kk
theorem i_callUv {y : MethodName} {bytes : ByteArray} {maxL n2 ix : Nat} {ret : Option FieldType} {ws : List Cond} {rm : Room} {As st0 : List Value} {owner : String} {x : MethodName} {ci q0 b : Nat} {qc : vw_C} {fs : List Value} {S : Type} {wf : S → va_W} {post : S → Prop} {mc ms : Nat} (C : CX D cy own cc tb nL p s m args c Z) (k : Nat) (hk : tb[k]? = some (pc, .invokevirtual ix, 3)) (hn : pc + 3 = n) (hl : lv_has ls nL lv) (h : HXw D Z s.heap H locs w) (hci : vwCl[ci]? = some qc) (he : w[q0]? = some (b, .inr (ci, fs))) (cw : (∀ w ∈ GW, w.before args s = true) → NX s → va_CU R s args own qc.1 owner ix x y bytes maxL ret ws rm mc ms n2) (hM : ∀ sz, Met l y ws rm (va_Pc (.ref b :: As) (PreW D cy w sz)) (va_Qv post (fun u t => PostW D (va_A w sz) (wf u) t) (va_A w sz)) mc ms (va_A w sz)) (hlen : As.length = n2) (hst : st0 = As.reverse ++ .ref b :: rest) (hs : (rest.map fun v => v.category).sum ≤ 8) (hc : cells + mc ≤ R.cells ∧ slots + ms ≤ R.slots) (kk : ∀ (u : S) (H : Heap) (locs : List Loc), post u → HXw D Z s.heap H locs (wf u) → W p l e R s m args below meth c H locs (cells + mc) (slots + ms) Q (F0 m n ls rest)) : W p l e R s m args below meth c H locs cells slots Q (F0 m pc ls st0) := by
  subst hn
  subst hst
  exact call_v C h (va_runU C.1 (hM _) (cw C.hts C.hN) (h.preV C hci he As) rfl hlen hl.1 rfl (lv_room hs) (C.dg hk) hc) kk
theorem i_callIv {y : MethodName} {bytes : ByteArray} {maxL n2 ix : Nat} {ret : Option FieldType} {ws : List Cond} {rm : Room} {As st0 : List Value}  {b : Nat} {S : Type} {wf : S → va_W} {post : S → Prop} {mc ms : Nat} (C : CX D cy own cc tb nL p s m args c Z) (k : Nat) (hk : tb[k]? = some (pc, .invokespecial ix, 3)) (hn : pc + 3 = n) (hl : lv_has ls nL lv) (h : HXw D Z s.heap H locs w)  (cw : (∀ w ∈ GW, w.before args s = true) → CallB R s args own ix y bytes maxL none ws rm mc ms n2 ∧ y.name = "<init>" ∧ (Cond.instanceMethod y).before args s = true) (hM : ∀ sz, Met l y ws rm (va_Pc (.ref b :: As) (PreW D cy w sz)) (va_Qv post (fun u t => PostW D (va_A w sz) (wf u) t) (va_A w sz)) mc ms (va_A w sz)) (hlen : As.length = n2) (hst : st0 = As.reverse ++ .ref b :: rest) (hs : (rest.map fun v => v.category).sum ≤ 8) (hc : cells + mc ≤ R.cells ∧ slots + ms ≤ R.slots) (kk : ∀ (u : S) (H : Heap) (locs : List Loc), post u → HXw D Z s.heap H locs (wf u) → W p l e R s m args below meth c H locs (cells + mc) (slots + ms) Q (F0 m n ls rest)) : W p l e R s m args below meth c H locs cells slots Q (F0 m pc ls st0) := by
  subst hn
  subst hst
  exact call_v C h (va_runI C.1 (hM _) (cw C.hts) (h.preS C _) rfl hlen hl.1 rfl (lv_room hs) (C.dg hk) hc) kk
theorem i_callINv {y : MethodName} {bytes : ByteArray} {maxL n2 ix : Nat} {ret : Option FieldType} {ws : List Cond} {rm : Room} {As st0 : List Value} {host : String} {b : Nat} {S : Type} {wf : S → va_W} {post : S → Prop} {mc ms : Nat} (C : CX D cy own cc tb nL p s m args c Z) (k : Nat) (hk : tb[k]? = some (pc, .invokespecial ix, 3)) (hn : pc + 3 = n) (hl : lv_has ls nL lv) (h : HXw D Z s.heap H locs w)  (cw : (∀ w ∈ GW, w.before args s = true) → NX s → va_CN R s args own ix y host bytes maxL none ws rm mc ms n2 ∧ y.name = "<init>" ∧ (Cond.instanceMethod y).before args s = true) (hM : ∀ sz, Met l y ws rm (va_Pc (.ref b :: As) (PreW D cy w sz)) (va_Qv post (fun u t => PostW D (va_A w sz) (wf u) t) (va_A w sz)) mc ms (va_A w sz)) (hlen : As.length = n2) (hst : st0 = As.reverse ++ .ref b :: rest) (hs : (rest.map fun v => v.category).sum ≤ 8) (hc : cells + mc ≤ R.cells ∧ slots + ms ≤ R.slots) (kk : ∀ (u : S) (H : Heap) (locs : List Loc), post u → HXw D Z s.heap H locs (wf u) → W p l e R s m args below meth c H locs (cells + mc) (slots + ms) Q (F0 m n ls rest)) : W p l e R s m args below meth c H locs cells slots Q (F0 m pc ls st0) := by
  subst hn
  subst hst
  exact call_v C h (va_runIN C.1 (hM _) (cw C.hts C.hN) (h.preS C _) rfl hlen hl.1 rfl (lv_room hs) (C.dg hk) hc) kk
end STEPS
