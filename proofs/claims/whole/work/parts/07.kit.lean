/-! THE JUDGEMENT kj_J: W at a frame, with the world, the locals by their places, the stack: the heap itself is hidden. Each instruction is a row; a row that can fail, branches or calls takes the equation 'h : (the pure text) = some r' along. -/
def kj_Fx (p : Program) (s : State) (m : MethodId) (args : Array Value) (meth : Method) (c : Code) (cc : ByteArray) (nL : Nat) (Ts : List Cond) (own : String) (ret : Option FieldType) (D : va_G) (tys : List (ClassId × FieldType)) (A : Nat → Prop) : Prop :=
  p.tables.exec = Jvm.exec ∧ c.code = cc ∧ c.maxLocals = nL ∧ s.vm.findClass own = some m.cls ∧ (∀ w ∈ Ts, w.before args s = true) ∧ meth.sig.returnType = ret ∧ meth.locks = false ∧ va_K D vwCl tys s ∧ (∀ q, s.heap.size ≤ q → A q)
def kj_At (s : State) (nL : Nat) (D : va_G) (A : Nat → Prop) (ww : va_W) (lv : List (Nat × Value)) (H : Heap) (locs : List Loc) (ls : Array Slot) : Prop :=
  va_P D vwCl ww H ∧ va_D A ww ∧ va_S A s.heap H locs ∧ lv_has ls nL lv
def kj_J (p : Program) (l : Launch) (e : Env) (R : Room) (s : State) (m : MethodId) (args : Array Value) (below : List Frame) (meth : Method) (c : Code) (cells slots : Nat) (Q : State → Prop) (nL : Nat) (D : va_G) (A : Nat → Prop) (ww : va_W) (pc : Nat) (lv : List (Nat × Value)) (st : List Value) : Prop :=
  ∀ (H : Heap) (locs : List Loc) (ls : Array Slot), kj_At s nL D A ww lv H locs ls → W p l e R s m args below meth c H locs cells slots Q (F0 m pc ls st)
def kj_ushr (x : Int64) (y : Int32) : Int64 := (x.toUInt64 >>> (y.toInt64.toUInt64 &&& Int64.toUInt64 63)).toInt64
/-- what a loop leaves with, of two kinds -/
def kj_se {α β γ : Type} (o : α ⊕ β) (f : α → γ) (g : β → γ) : γ := match o with
  | .inl a => f a
  | .inr b => g b
theorem kj_seL {α β γ : Type} {a : α} {f : α → Option γ} {g : β → Option γ} {r : γ} {P : Prop} (h : kj_se (.inl a) f g = some r) (k : f a = some r → P) : P := k h
theorem kj_seR {α β γ : Type} {b : β} {f : α → Option γ} {g : β → Option γ} {r : γ} {P : Prop} (h : kj_se (.inr b) f g = some r) (k : g b = some r → P) : P := k h
/-- a loop: a step gives the next state, or what it leaves with -/
def kj_it {S R : Type} (step : S → Option (S ⊕ R)) : Nat → S → Option R
  | 0, _ => none
  | n + 1, s => (step s).bind fun o => match o with
    | .inl s' => kj_it step n s'
    | .inr r => some r
theorem kj_it_J {S R : Type} {step : S → Option (S ⊕ R)} {Wh : S → Prop} {We : R → Prop} (body : ∀ s o, step s = some o → (∀ s', o = .inl s' → Wh s') → (∀ r, o = .inr r → We r) → Wh s) :
    ∀ (n : Nat) (s : S) (r : R), kj_it step n s = some r → We r → Wh s := by
  intro n
  induction n with
  | zero => intro s r h; exact absurd h (by simp [kj_it])
  | succ n ih =>
    intro s r h hr
    obtain ⟨o, ho, h⟩ := Option.bind_eq_some_iff.mp h
    refine body s o ho (fun s' hs => ?_) (fun r' hs => ?_)
    · subst hs; exact ih s' r h hr
    · subst hs; cases h; exact hr
theorem kj_bn {α β : Type} {o : Option α} {f : α → Option β} {r : β} {P : Prop} (h : o.bind f = some r) (k : ∀ v, o = some v → f v = some r → P) : P := by
  obtain ⟨v, h1, h2⟩ := Option.bind_eq_some_iff.mp h
  exact k v h1 h2
theorem kj_if {c : Prop} [Decidable c] {β : Type} {a b : Option β} {r : β} {P : Prop} (h : (if c then a else b) = some r) (k1 : c → a = some r → P) (k2 : ¬ c → b = some r → P) : P := by
  by_cases hc : c
  · rw [if_pos hc] at h; exact k1 hc h
  · rw [if_neg hc] at h; exact k2 hc h
theorem kj_ifn {c : Prop} [Decidable c] {β : Type} {b : Option β} {r : β} {P : Prop} (h : (if c then none else b) = some r) (k2 : ¬ c → b = some r → P) : P := by
  by_cases hc : c
  · rw [if_pos hc] at h; exact absurd h (by simp)
  · rw [if_neg hc] at h; exact k2 hc h
section KJ
variable {p : Program} {l : Launch} {e : Env} {R : Room} {s : State} {m : MethodId} {args : Array Value} {below : List Frame} {meth : Method} {c : Code} {cells slots : Nat} {Q : State → Prop} {cc : ByteArray} {nL : Nat} {Ts : List Cond} {own : String} {ret : Option FieldType} {D : va_G} {tys : List (ClassId × FieldType)} {A : Nat → Prop} {ww : va_W} {pc : Nat} {lv : List (Nat × Value)} {rest : List Value}
theorem kj_J.sub {st : List Value} {lv' : List (Nat × Value)} (ks : List Nat) (hs : lv_pick lv ks = lv') (k : kj_J p l e R s m args below meth c cells slots Q nL D A ww pc lv' st) : kj_J p l e R s m args below meth c cells slots Q nL D A ww pc lv st :=
  fun H locs ls h => k H locs ls ⟨h.1, h.2.1, h.2.2.1, lv_sub h.2.2.2 ks hs⟩
theorem kj_iconst (F : kj_Fx p s m args meth c cc nL Ts own ret D tys A) {n : Int} {v : Int32} (hdg : decode cc pc = .ok (.iconst n, 1)) (hv : Int32.ofInt n = v) (k : kj_J p l e R s m args below meth c cells slots Q nL D A ww (pc + 1) lv (.int v :: rest)) : kj_J p l e R s m args below meth c cells slots Q nL D A ww pc lv rest :=
  fun H locs ls h => lv_iconst F.1 F.2.1 hdg hv (k H locs ls h)
theorem kj_bipush (F : kj_Fx p s m args meth c cc nL Ts own ret D tys A) {n : Int} {v : Int32} (hdg : decode cc pc = .ok (.bipush n, 2)) (hv : (Int8.ofInt n).toInt32 = v) (k : kj_J p l e R s m args below meth c cells slots Q nL D A ww (pc + 2) lv (.int v :: rest)) : kj_J p l e R s m args below meth c cells slots Q nL D A ww pc lv rest :=
  fun H locs ls h => lv_bipush F.1 F.2.1 hdg hv (k H locs ls h)
theorem kj_sipush (F : kj_Fx p s m args meth c cc nL Ts own ret D tys A) {n : Int} {v : Int32} (hdg : decode cc pc = .ok (.sipush n, 3)) (hv : (Int16.ofInt n).toInt32 = v) (k : kj_J p l e R s m args below meth c cells slots Q nL D A ww (pc + 3) lv (.int v :: rest)) : kj_J p l e R s m args below meth c cells slots Q nL D A ww pc lv rest :=
  fun H locs ls h => lv_sipush F.1 F.2.1 hdg hv (k H locs ls h)
theorem kj_lconst (F : kj_Fx p s m args meth c cc nL Ts own ret D tys A) {n : Fin 2} {v : Int64} (hdg : decode cc pc = .ok (.lconst n, 1)) (hv : Int64.ofNat (n : Nat) = v) (k : kj_J p l e R s m args below meth c cells slots Q nL D A ww (pc + 1) lv (.long v :: rest)) : kj_J p l e R s m args below meth c cells slots Q nL D A ww pc lv rest :=
  fun H locs ls h => lv_lconst F.1 F.2.1 hdg hv (k H locs ls h)
theorem kj_ldc (F : kj_Fx p s m args meth c cc nL Ts own ret D tys A) {index : Nat} {v : Int32} (hdg : decode cc pc = .ok (.ldc index, 2)) (hm : Cond.constant own index v ∈ Ts) (k : kj_J p l e R s m args below meth c cells slots Q nL D A ww (pc + 2) lv (.int v :: rest)) : kj_J p l e R s m args below meth c cells slots Q nL D A ww pc lv rest :=
  fun H locs ls h => lv_ldc F.1 F.2.1 F.2.2.2.1 (F.2.2.2.2.1 _ hm) hdg (k H locs ls h)
theorem kj_ldc2 (F : kj_Fx p s m args meth c cc nL Ts own ret D tys A) {index : Nat} {v : Int64} (hdg : decode cc pc = .ok (.ldc2_w index, 3)) (hm : Cond.constantLong own index v ∈ Ts) (k : kj_J p l e R s m args below meth c cells slots Q nL D A ww (pc + 3) lv (.long v :: rest)) : kj_J p l e R s m args below meth c cells slots Q nL D A ww pc lv rest :=
  fun H locs ls h => lv_ldc2 F.1 F.2.1 F.2.2.2.1 (F.2.2.2.2.1 _ hm) hdg (k H locs ls h)
theorem kj_null (F : kj_Fx p s m args meth c cc nL Ts own ret D tys A) (hdg : decode cc pc = .ok (.aconst_null, 1)) (k : kj_J p l e R s m args below meth c cells slots Q nL D A ww (pc + 1) lv (.null :: rest)) : kj_J p l e R s m args below meth c cells slots Q nL D A ww pc lv rest :=
  fun H locs ls h => lv_null F.1 F.2.1 hdg (k H locs ls h)
theorem kj_iload_n (F : kj_Fx p s m args meth c cc nL Ts own ret D tys A) {kk : Fin 4} {i : Nat} {x : Int32} (hdg : decode cc pc = .ok (.iload_n kk, 1)) (j : Nat) (hj : lv[j]? = some (i, .int x)) (hi : (kk : Nat) = i) (k : kj_J p l e R s m args below meth c cells slots Q nL D A ww (pc + 1) lv (.int x :: rest)) : kj_J p l e R s m args below meth c cells slots Q nL D A ww pc lv rest :=
  fun H locs ls h => lv_iload_n F.1 F.2.1 hdg hi (lv_at h.2.2.2 j hj) (k H locs ls h)
theorem kj_iload (F : kj_Fx p s m args meth c cc nL Ts own ret D tys A) {i : Nat} {x : Int32} (hdg : decode cc pc = .ok (.iload i, 2)) (j : Nat) (hj : lv[j]? = some (i, .int x)) (k : kj_J p l e R s m args below meth c cells slots Q nL D A ww (pc + 2) lv (.int x :: rest)) : kj_J p l e R s m args below meth c cells slots Q nL D A ww pc lv rest :=
  fun H locs ls h => lv_iload F.1 F.2.1 hdg (lv_at h.2.2.2 j hj) (k H locs ls h)
theorem kj_lload_n (F : kj_Fx p s m args meth c cc nL Ts own ret D tys A) {kk : Fin 4} {i : Nat} {x : Int64} (hdg : decode cc pc = .ok (.lload_n kk, 1)) (j : Nat) (hj : lv[j]? = some (i, .long x)) (hi : (kk : Nat) = i) (k : kj_J p l e R s m args below meth c cells slots Q nL D A ww (pc + 1) lv (.long x :: rest)) : kj_J p l e R s m args below meth c cells slots Q nL D A ww pc lv rest :=
  fun H locs ls h => lv_lload_n F.1 F.2.1 hdg hi (lv_at h.2.2.2 j hj) (k H locs ls h)
theorem kj_lload (F : kj_Fx p s m args meth c cc nL Ts own ret D tys A) {i : Nat} {x : Int64} (hdg : decode cc pc = .ok (.lload i, 2)) (j : Nat) (hj : lv[j]? = some (i, .long x)) (k : kj_J p l e R s m args below meth c cells slots Q nL D A ww (pc + 2) lv (.long x :: rest)) : kj_J p l e R s m args below meth c cells slots Q nL D A ww pc lv rest :=
  fun H locs ls h => lv_lload F.1 F.2.1 hdg (lv_at h.2.2.2 j hj) (k H locs ls h)
theorem kj_aload_n (F : kj_Fx p s m args meth c cc nL Ts own ret D tys A) {kk : Fin 4} {i : Nat} {x : Nat} (hdg : decode cc pc = .ok (.aload_n kk, 1)) (j : Nat) (hj : lv[j]? = some (i, .ref x)) (hi : (kk : Nat) = i) (k : kj_J p l e R s m args below meth c cells slots Q nL D A ww (pc + 1) lv (.ref x :: rest)) : kj_J p l e R s m args below meth c cells slots Q nL D A ww pc lv rest :=
  fun H locs ls h => lv_aload_n F.1 F.2.1 hdg hi (lv_at h.2.2.2 j hj) (k H locs ls h)
theorem kj_aload (F : kj_Fx p s m args meth c cc nL Ts own ret D tys A) {i : Nat} {x : Nat} (hdg : decode cc pc = .ok (.aload i, 2)) (j : Nat) (hj : lv[j]? = some (i, .ref x)) (k : kj_J p l e R s m args below meth c cells slots Q nL D A ww (pc + 2) lv (.ref x :: rest)) : kj_J p l e R s m args below meth c cells slots Q nL D A ww pc lv rest :=
  fun H locs ls h => lv_aload F.1 F.2.1 hdg (lv_at h.2.2.2 j hj) (k H locs ls h)
theorem kj_istore_n (F : kj_Fx p s m args meth c cc nL Ts own ret D tys A) {kk : Fin 4} {i : Nat} {x : Int32} {lv' : List (Nat × Value)} (hdg : decode cc pc = .ok (.istore_n kk, 1)) (hi : (kk : Nat) = i) (hn : i < nL) (hl : (i, Value.int x) :: lv.filter (fun q => !(q.1 == i) && !(q.1 + 1 == i && q.2.category == 2)) = lv') (k : kj_J p l e R s m args below meth c cells slots Q nL D A ww (pc + 1) lv' rest) : kj_J p l e R s m args below meth c cells slots Q nL D A ww pc lv (.int x :: rest) :=
  fun H locs ls h => lv_istore_n F.1 F.2.1 hdg hi h.2.2.2 hn hl (fun ls' hl' => k H locs ls' ⟨h.1, h.2.1, h.2.2.1, hl'⟩)
theorem kj_istore (F : kj_Fx p s m args meth c cc nL Ts own ret D tys A) {i : Nat} {x : Int32} {lv' : List (Nat × Value)} (hdg : decode cc pc = .ok (.istore i, 2)) (hn : i < nL) (hl : (i, Value.int x) :: lv.filter (fun q => !(q.1 == i) && !(q.1 + 1 == i && q.2.category == 2)) = lv') (k : kj_J p l e R s m args below meth c cells slots Q nL D A ww (pc + 2) lv' rest) : kj_J p l e R s m args below meth c cells slots Q nL D A ww pc lv (.int x :: rest) :=
  fun H locs ls h => lv_istore F.1 F.2.1 hdg h.2.2.2 hn hl (fun ls' hl' => k H locs ls' ⟨h.1, h.2.1, h.2.2.1, hl'⟩)
theorem kj_lstore_n (F : kj_Fx p s m args meth c cc nL Ts own ret D tys A) {kk : Fin 4} {i : Nat} {x : Int64} {lv' : List (Nat × Value)} (hdg : decode cc pc = .ok (.lstore_n kk, 1)) (hi : (kk : Nat) = i) (hn : i + 1 < nL) (hl : (i, Value.long x) :: lv.filter (fun q => !(q.1 == i) && (!(q.1 == i + 1) && !(q.1 + 1 == i && q.2.category == 2))) = lv') (k : kj_J p l e R s m args below meth c cells slots Q nL D A ww (pc + 1) lv' rest) : kj_J p l e R s m args below meth c cells slots Q nL D A ww pc lv (.long x :: rest) :=
  fun H locs ls h => lv_lstore_n F.1 F.2.1 hdg hi h.2.2.2 hn hl (fun ls' hl' => k H locs ls' ⟨h.1, h.2.1, h.2.2.1, hl'⟩)
theorem kj_lstore (F : kj_Fx p s m args meth c cc nL Ts own ret D tys A) {i : Nat} {x : Int64} {lv' : List (Nat × Value)} (hdg : decode cc pc = .ok (.lstore i, 2)) (hn : i + 1 < nL) (hl : (i, Value.long x) :: lv.filter (fun q => !(q.1 == i) && (!(q.1 == i + 1) && !(q.1 + 1 == i && q.2.category == 2))) = lv') (k : kj_J p l e R s m args below meth c cells slots Q nL D A ww (pc + 2) lv' rest) : kj_J p l e R s m args below meth c cells slots Q nL D A ww pc lv (.long x :: rest) :=
  fun H locs ls h => lv_lstore F.1 F.2.1 hdg h.2.2.2 hn hl (fun ls' hl' => k H locs ls' ⟨h.1, h.2.1, h.2.2.1, hl'⟩)
theorem kj_astore_n (F : kj_Fx p s m args meth c cc nL Ts own ret D tys A) {kk : Fin 4} {i : Nat} {x : Nat} {lv' : List (Nat × Value)} (hdg : decode cc pc = .ok (.astore_n kk, 1)) (hi : (kk : Nat) = i) (hn : i < nL) (hl : (i, Value.ref x) :: lv.filter (fun q => !(q.1 == i) && !(q.1 + 1 == i && q.2.category == 2)) = lv') (k : kj_J p l e R s m args below meth c cells slots Q nL D A ww (pc + 1) lv' rest) : kj_J p l e R s m args below meth c cells slots Q nL D A ww pc lv (.ref x :: rest) :=
  fun H locs ls h => lv_astore_n F.1 F.2.1 hdg hi h.2.2.2 hn hl (fun ls' hl' => k H locs ls' ⟨h.1, h.2.1, h.2.2.1, hl'⟩)
theorem kj_astore (F : kj_Fx p s m args meth c cc nL Ts own ret D tys A) {i : Nat} {x : Nat} {lv' : List (Nat × Value)} (hdg : decode cc pc = .ok (.astore i, 2)) (hn : i < nL) (hl : (i, Value.ref x) :: lv.filter (fun q => !(q.1 == i) && !(q.1 + 1 == i && q.2.category == 2)) = lv') (k : kj_J p l e R s m args below meth c cells slots Q nL D A ww (pc + 2) lv' rest) : kj_J p l e R s m args below meth c cells slots Q nL D A ww pc lv (.ref x :: rest) :=
  fun H locs ls h => lv_astore F.1 F.2.1 hdg h.2.2.2 hn hl (fun ls' hl' => k H locs ls' ⟨h.1, h.2.1, h.2.2.1, hl'⟩)
theorem kj_iinc (F : kj_Fx p s m args meth c cc nL Ts own ret D tys A) {i : Nat} {n : Int} {x v : Int32} {lv' : List (Nat × Value)} (hdg : decode cc pc = .ok (.iinc i n, 3)) (j : Nat) (hj : lv[j]? = some (i, .int x)) (hv : Int32.ofInt n = v) (hn : i < nL) (hl : (i, Value.int (x + v)) :: lv.filter (fun q => !(q.1 == i) && !(q.1 + 1 == i && q.2.category == 2)) = lv') (k : kj_J p l e R s m args below meth c cells slots Q nL D A ww (pc + 3) lv' rest) : kj_J p l e R s m args below meth c cells slots Q nL D A ww pc lv rest :=
  fun H locs ls h => lv_iinc F.1 F.2.1 hdg h.2.2.2 hj (by rw [hv]) hn hl (fun ls' hl' => k H locs ls' ⟨h.1, h.2.1, h.2.2.1, hl'⟩)
theorem kj_iadd (F : kj_Fx p s m args meth c cc nL Ts own ret D tys A) {x y : Int32} (hdg : decode cc pc = .ok (.iadd, 1)) (k : kj_J p l e R s m args below meth c cells slots Q nL D A ww (pc + 1) lv (.int (x + y) :: rest)) : kj_J p l e R s m args below meth c cells slots Q nL D A ww pc lv (.int y :: .int x :: rest) :=
  fun H locs ls h => lv_iadd F.1 F.2.1 hdg (k H locs ls h)
theorem kj_isub (F : kj_Fx p s m args meth c cc nL Ts own ret D tys A) {x y : Int32} (hdg : decode cc pc = .ok (.isub, 1)) (k : kj_J p l e R s m args below meth c cells slots Q nL D A ww (pc + 1) lv (.int (x - y) :: rest)) : kj_J p l e R s m args below meth c cells slots Q nL D A ww pc lv (.int y :: .int x :: rest) :=
  fun H locs ls h => lv_isub F.1 F.2.1 hdg (k H locs ls h)
theorem kj_imul (F : kj_Fx p s m args meth c cc nL Ts own ret D tys A) {x y : Int32} (hdg : decode cc pc = .ok (.imul, 1)) (k : kj_J p l e R s m args below meth c cells slots Q nL D A ww (pc + 1) lv (.int (x * y) :: rest)) : kj_J p l e R s m args below meth c cells slots Q nL D A ww pc lv (.int y :: .int x :: rest) :=
  fun H locs ls h => lv_imul F.1 F.2.1 hdg (k H locs ls h)
theorem kj_iand (F : kj_Fx p s m args meth c cc nL Ts own ret D tys A) {x y : Int32} (hdg : decode cc pc = .ok (.iand, 1)) (k : kj_J p l e R s m args below meth c cells slots Q nL D A ww (pc + 1) lv (.int (x &&& y) :: rest)) : kj_J p l e R s m args below meth c cells slots Q nL D A ww pc lv (.int y :: .int x :: rest) :=
  fun H locs ls h => lv_iand F.1 F.2.1 hdg (k H locs ls h)
theorem kj_ior (F : kj_Fx p s m args meth c cc nL Ts own ret D tys A) {x y : Int32} (hdg : decode cc pc = .ok (.ior, 1)) (k : kj_J p l e R s m args below meth c cells slots Q nL D A ww (pc + 1) lv (.int (x ||| y) :: rest)) : kj_J p l e R s m args below meth c cells slots Q nL D A ww pc lv (.int y :: .int x :: rest) :=
  fun H locs ls h => lv_ior F.1 F.2.1 hdg (k H locs ls h)
theorem kj_ixor (F : kj_Fx p s m args meth c cc nL Ts own ret D tys A) {x y : Int32} (hdg : decode cc pc = .ok (.ixor, 1)) (k : kj_J p l e R s m args below meth c cells slots Q nL D A ww (pc + 1) lv (.int (x ^^^ y) :: rest)) : kj_J p l e R s m args below meth c cells slots Q nL D A ww pc lv (.int y :: .int x :: rest) :=
  fun H locs ls h => lv_ixor F.1 F.2.1 hdg (k H locs ls h)
theorem kj_ishl (F : kj_Fx p s m args meth c cc nL Ts own ret D tys A) {x y : Int32} (hdg : decode cc pc = .ok (.ishl, 1)) (k : kj_J p l e R s m args below meth c cells slots Q nL D A ww (pc + 1) lv (.int (x <<< (y &&& 31)) :: rest)) : kj_J p l e R s m args below meth c cells slots Q nL D A ww pc lv (.int y :: .int x :: rest) :=
  fun H locs ls h => lv_ishl F.1 F.2.1 hdg (k H locs ls h)
theorem kj_ishr (F : kj_Fx p s m args meth c cc nL Ts own ret D tys A) {x y : Int32} (hdg : decode cc pc = .ok (.ishr, 1)) (k : kj_J p l e R s m args below meth c cells slots Q nL D A ww (pc + 1) lv (.int (x >>> (y &&& 31)) :: rest)) : kj_J p l e R s m args below meth c cells slots Q nL D A ww pc lv (.int y :: .int x :: rest) :=
  fun H locs ls h => lv_ishr F.1 F.2.1 hdg (k H locs ls h)
theorem kj_ladd (F : kj_Fx p s m args meth c cc nL Ts own ret D tys A) {x y : Int64} (hdg : decode cc pc = .ok (.ladd, 1)) (k : kj_J p l e R s m args below meth c cells slots Q nL D A ww (pc + 1) lv (.long (x + y) :: rest)) : kj_J p l e R s m args below meth c cells slots Q nL D A ww pc lv (.long y :: .long x :: rest) :=
  fun H locs ls h => lv_ladd F.1 F.2.1 hdg (k H locs ls h)
theorem kj_lsub (F : kj_Fx p s m args meth c cc nL Ts own ret D tys A) {x y : Int64} (hdg : decode cc pc = .ok (.lsub, 1)) (k : kj_J p l e R s m args below meth c cells slots Q nL D A ww (pc + 1) lv (.long (x - y) :: rest)) : kj_J p l e R s m args below meth c cells slots Q nL D A ww pc lv (.long y :: .long x :: rest) :=
  fun H locs ls h => lv_lsub F.1 F.2.1 hdg (k H locs ls h)
theorem kj_lmul (F : kj_Fx p s m args meth c cc nL Ts own ret D tys A) {x y : Int64} (hdg : decode cc pc = .ok (.lmul, 1)) (k : kj_J p l e R s m args below meth c cells slots Q nL D A ww (pc + 1) lv (.long (x * y) :: rest)) : kj_J p l e R s m args below meth c cells slots Q nL D A ww pc lv (.long y :: .long x :: rest) :=
  fun H locs ls h => lv_lmul F.1 F.2.1 hdg (k H locs ls h)
theorem kj_land (F : kj_Fx p s m args meth c cc nL Ts own ret D tys A) {x y : Int64} (hdg : decode cc pc = .ok (.land, 1)) (k : kj_J p l e R s m args below meth c cells slots Q nL D A ww (pc + 1) lv (.long (x &&& y) :: rest)) : kj_J p l e R s m args below meth c cells slots Q nL D A ww pc lv (.long y :: .long x :: rest) :=
  fun H locs ls h => lv_land F.1 F.2.1 hdg (k H locs ls h)
theorem kj_lor (F : kj_Fx p s m args meth c cc nL Ts own ret D tys A) {x y : Int64} (hdg : decode cc pc = .ok (.lor, 1)) (k : kj_J p l e R s m args below meth c cells slots Q nL D A ww (pc + 1) lv (.long (x ||| y) :: rest)) : kj_J p l e R s m args below meth c cells slots Q nL D A ww pc lv (.long y :: .long x :: rest) :=
  fun H locs ls h => lv_lor F.1 F.2.1 hdg (k H locs ls h)
theorem kj_idiv (F : kj_Fx p s m args meth c cc nL Ts own ret D tys A) {x y : Int32} {β : Type} {b : Option β} {r : β} (hdg : decode cc pc = .ok (.idiv, 1)) (h0 : (if y = 0 then none else b) = some r) (k : b = some r → kj_J p l e R s m args below meth c cells slots Q nL D A ww (pc + 1) lv (.int (x / y) :: rest)) : kj_J p l e R s m args below meth c cells slots Q nL D A ww pc lv (.int y :: .int x :: rest) :=
  kj_ifn h0 fun hne hb => fun H locs ls h => lv_idiv F.1 F.2.1 hdg hne (k hb H locs ls h)
theorem kj_idivK (F : kj_Fx p s m args meth c cc nL Ts own ret D tys A) {x y : Int32} (hdg : decode cc pc = .ok (.idiv, 1)) (hne : ¬ y = 0) (k : kj_J p l e R s m args below meth c cells slots Q nL D A ww (pc + 1) lv (.int (x / y) :: rest)) : kj_J p l e R s m args below meth c cells slots Q nL D A ww pc lv (.int y :: .int x :: rest) :=
  fun H locs ls h => lv_idiv F.1 F.2.1 hdg hne (k H locs ls h)
theorem kj_irem (F : kj_Fx p s m args meth c cc nL Ts own ret D tys A) {x y : Int32} {β : Type} {b : Option β} {r : β} (hdg : decode cc pc = .ok (.irem, 1)) (h0 : (if y = 0 then none else b) = some r) (k : b = some r → kj_J p l e R s m args below meth c cells slots Q nL D A ww (pc + 1) lv (.int (x - x / y * y) :: rest)) : kj_J p l e R s m args below meth c cells slots Q nL D A ww pc lv (.int y :: .int x :: rest) :=
  kj_ifn h0 fun hne hb => fun H locs ls h => lv_irem F.1 F.2.1 hdg hne (k hb H locs ls h)
theorem kj_iremK (F : kj_Fx p s m args meth c cc nL Ts own ret D tys A) {x y : Int32} (hdg : decode cc pc = .ok (.irem, 1)) (hne : ¬ y = 0) (k : kj_J p l e R s m args below meth c cells slots Q nL D A ww (pc + 1) lv (.int (x - x / y * y) :: rest)) : kj_J p l e R s m args below meth c cells slots Q nL D A ww pc lv (.int y :: .int x :: rest) :=
  fun H locs ls h => lv_irem F.1 F.2.1 hdg hne (k H locs ls h)
theorem kj_ldiv (F : kj_Fx p s m args meth c cc nL Ts own ret D tys A) {x y : Int64} {β : Type} {b : Option β} {r : β} (hdg : decode cc pc = .ok (.ldiv, 1)) (h0 : (if y = 0 then none else b) = some r) (k : b = some r → kj_J p l e R s m args below meth c cells slots Q nL D A ww (pc + 1) lv (.long (x / y) :: rest)) : kj_J p l e R s m args below meth c cells slots Q nL D A ww pc lv (.long y :: .long x :: rest) :=
  kj_ifn h0 fun hne hb => fun H locs ls h => lv_ldiv F.1 F.2.1 hdg hne (k hb H locs ls h)
theorem kj_ldivK (F : kj_Fx p s m args meth c cc nL Ts own ret D tys A) {x y : Int64} (hdg : decode cc pc = .ok (.ldiv, 1)) (hne : ¬ y = 0) (k : kj_J p l e R s m args below meth c cells slots Q nL D A ww (pc + 1) lv (.long (x / y) :: rest)) : kj_J p l e R s m args below meth c cells slots Q nL D A ww pc lv (.long y :: .long x :: rest) :=
  fun H locs ls h => lv_ldiv F.1 F.2.1 hdg hne (k H locs ls h)
theorem kj_lrem (F : kj_Fx p s m args meth c cc nL Ts own ret D tys A) {x y : Int64} {β : Type} {b : Option β} {r : β} (hdg : decode cc pc = .ok (.lrem, 1)) (h0 : (if y = 0 then none else b) = some r) (k : b = some r → kj_J p l e R s m args below meth c cells slots Q nL D A ww (pc + 1) lv (.long (x - x / y * y) :: rest)) : kj_J p l e R s m args below meth c cells slots Q nL D A ww pc lv (.long y :: .long x :: rest) :=
  kj_ifn h0 fun hne hb => fun H locs ls h => lv_lrem F.1 F.2.1 hdg hne (k hb H locs ls h)
theorem kj_lremK (F : kj_Fx p s m args meth c cc nL Ts own ret D tys A) {x y : Int64} (hdg : decode cc pc = .ok (.lrem, 1)) (hne : ¬ y = 0) (k : kj_J p l e R s m args below meth c cells slots Q nL D A ww (pc + 1) lv (.long (x - x / y * y) :: rest)) : kj_J p l e R s m args below meth c cells slots Q nL D A ww pc lv (.long y :: .long x :: rest) :=
  fun H locs ls h => lv_lrem F.1 F.2.1 hdg hne (k H locs ls h)
theorem kj_ineg (F : kj_Fx p s m args meth c cc nL Ts own ret D tys A) {x : Int32} (hdg : decode cc pc = .ok (.ineg, 1)) (k : kj_J p l e R s m args below meth c cells slots Q nL D A ww (pc + 1) lv (.int (-x) :: rest)) : kj_J p l e R s m args below meth c cells slots Q nL D A ww pc lv (.int x :: rest) :=
  fun H locs ls h => lv_ineg F.1 F.2.1 hdg (k H locs ls h)
theorem kj_lneg (F : kj_Fx p s m args meth c cc nL Ts own ret D tys A) {x : Int64} (hdg : decode cc pc = .ok (.lneg, 1)) (k : kj_J p l e R s m args below meth c cells slots Q nL D A ww (pc + 1) lv (.long (-x) :: rest)) : kj_J p l e R s m args below meth c cells slots Q nL D A ww pc lv (.long x :: rest) :=
  fun H locs ls h => lv_lneg F.1 F.2.1 hdg (k H locs ls h)
theorem kj_i2l (F : kj_Fx p s m args meth c cc nL Ts own ret D tys A) {x : Int32} (hdg : decode cc pc = .ok (.i2l, 1)) (k : kj_J p l e R s m args below meth c cells slots Q nL D A ww (pc + 1) lv (.long x.toInt64 :: rest)) : kj_J p l e R s m args below meth c cells slots Q nL D A ww pc lv (.int x :: rest) :=
  fun H locs ls h => lv_i2l F.1 F.2.1 hdg rfl (k H locs ls h)
theorem kj_l2i (F : kj_Fx p s m args meth c cc nL Ts own ret D tys A) {x : Int64} (hdg : decode cc pc = .ok (.l2i, 1)) (k : kj_J p l e R s m args below meth c cells slots Q nL D A ww (pc + 1) lv (.int x.toInt32 :: rest)) : kj_J p l e R s m args below meth c cells slots Q nL D A ww pc lv (.long x :: rest) :=
  fun H locs ls h => lv_l2i F.1 F.2.1 hdg rfl (k H locs ls h)
theorem kj_lushr (F : kj_Fx p s m args meth c cc nL Ts own ret D tys A) {x : Int64} {y : Int32} (hdg : decode cc pc = .ok (.lushr, 1)) (k : kj_J p l e R s m args below meth c cells slots Q nL D A ww (pc + 1) lv (.long (kj_ushr x y) :: rest)) : kj_J p l e R s m args below meth c cells slots Q nL D A ww pc lv (.int y :: .long x :: rest) :=
  fun H locs ls h => lv_lushr F.1 F.2.1 hdg rfl (k H locs ls h)
theorem kj_lshl (F : kj_Fx p s m args meth c cc nL Ts own ret D tys A) {x : Int64} {y : Int32} (hdg : decode cc pc = .ok (.lshl, 1)) (k : kj_J p l e R s m args below meth c cells slots Q nL D A ww (pc + 1) lv (.long (x <<< (y.toInt64 &&& 63)) :: rest)) : kj_J p l e R s m args below meth c cells slots Q nL D A ww pc lv (.int y :: .long x :: rest) :=
  fun H locs ls h => lv_lshl F.1 F.2.1 hdg rfl (k H locs ls h)
theorem kj_lcmp (F : kj_Fx p s m args meth c cc nL Ts own ret D tys A) {x y : Int64} (hdg : decode cc pc = .ok (.lcmp, 1)) (k : kj_J p l e R s m args below meth c cells slots Q nL D A ww (pc + 1) lv (.int (lg_cmp x y) :: rest)) : kj_J p l e R s m args below meth c cells slots Q nL D A ww pc lv (.long y :: .long x :: rest) :=
  fun H locs ls h => W.lcmp F.1 F.2.1 hdg (k H locs ls h)
theorem kj_dup (F : kj_Fx p s m args meth c cc nL Ts own ret D tys A) {va : Value} (hdg : decode cc pc = .ok (.dup, 1)) (hva : va.category = 1) (k : kj_J p l e R s m args below meth c cells slots Q nL D A ww (pc + 1) lv (va :: va :: rest)) : kj_J p l e R s m args below meth c cells slots Q nL D A ww pc lv (va :: rest) :=
  fun H locs ls h => lv_dup F.1 F.2.1 hdg hva (k H locs ls h)
theorem kj_pop (F : kj_Fx p s m args meth c cc nL Ts own ret D tys A) {va : Value} (hdg : decode cc pc = .ok (.pop, 1)) (hva : va.category = 1) (k : kj_J p l e R s m args below meth c cells slots Q nL D A ww (pc + 1) lv rest) : kj_J p l e R s m args below meth c cells slots Q nL D A ww pc lv (va :: rest) :=
  fun H locs ls h => lv_pop F.1 F.2.1 hdg hva (k H locs ls h)
theorem kj_dup2_11 (F : kj_Fx p s m args meth c cc nL Ts own ret D tys A) {va vb : Value} (hdg : decode cc pc = .ok (.dup2, 1)) (hva : va.category = 1) (hvb : vb.category = 1) (k : kj_J p l e R s m args below meth c cells slots Q nL D A ww (pc + 1) lv (va :: vb :: va :: vb :: rest)) : kj_J p l e R s m args below meth c cells slots Q nL D A ww pc lv (va :: vb :: rest) :=
  fun H locs ls h => lv_dup2_11 F.1 F.2.1 hdg hva hvb (k H locs ls h)
theorem kj_dup2_2 (F : kj_Fx p s m args meth c cc nL Ts own ret D tys A) {va : Value} (hdg : decode cc pc = .ok (.dup2, 1)) (hva : va.category = 2) (k : kj_J p l e R s m args below meth c cells slots Q nL D A ww (pc + 1) lv (va :: va :: rest)) : kj_J p l e R s m args below meth c cells slots Q nL D A ww pc lv (va :: rest) :=
  fun H locs ls h => lv_dup2_2 F.1 F.2.1 hdg hva (k H locs ls h)
theorem kj_if_eq (F : kj_Fx p s m args meth c cc nL Ts own ret D tys A) {x : Int32} {off : Int} {tgt : Nat} {β : Type} {ta tb : Option β} {r : β} (hdg : decode cc pc = .ok (.ifCond .eq off, 3)) (ht : (pc : Int) + off = (tgt : Int)) (h0 : (if x = 0 then ta else tb) = some r) (k1 : x = 0 → ta = some r → kj_J p l e R s m args below meth c cells slots Q nL D A ww tgt lv rest) (k2 : ¬ x = 0 → tb = some r → kj_J p l e R s m args below meth c cells slots Q nL D A ww (pc + 3) lv rest) : kj_J p l e R s m args below meth c cells slots Q nL D A ww pc lv (.int x :: rest) :=
  kj_if h0 (fun hc h => fun H locs ls a => lv_if_eq F.1 F.2.1 hdg ht (fun _ => k1 hc h H locs ls a) (fun q => absurd hc q)) (fun hc h => fun H locs ls a => lv_if_eq F.1 F.2.1 hdg ht (fun q => absurd q hc) (fun _ => k2 hc h H locs ls a))
theorem kj_if_ne (F : kj_Fx p s m args meth c cc nL Ts own ret D tys A) {x : Int32} {off : Int} {tgt : Nat} {β : Type} {ta tb : Option β} {r : β} (hdg : decode cc pc = .ok (.ifCond .ne off, 3)) (ht : (pc : Int) + off = (tgt : Int)) (h0 : (if x = 0 then ta else tb) = some r) (k1 : x = 0 → ta = some r → kj_J p l e R s m args below meth c cells slots Q nL D A ww (pc + 3) lv rest) (k2 : ¬ x = 0 → tb = some r → kj_J p l e R s m args below meth c cells slots Q nL D A ww tgt lv rest) : kj_J p l e R s m args below meth c cells slots Q nL D A ww pc lv (.int x :: rest) :=
  kj_if h0 (fun hc h => fun H locs ls a => lv_if_ne F.1 F.2.1 hdg ht (fun q => absurd hc q) (fun _ => k1 hc h H locs ls a)) (fun hc h => fun H locs ls a => lv_if_ne F.1 F.2.1 hdg ht (fun _ => k2 hc h H locs ls a) (fun q => absurd q hc))
theorem kj_if_lt (F : kj_Fx p s m args meth c cc nL Ts own ret D tys A) {x : Int32} {off : Int} {tgt : Nat} {β : Type} {ta tb : Option β} {r : β} (hdg : decode cc pc = .ok (.ifCond .lt off, 3)) (ht : (pc : Int) + off = (tgt : Int)) (h0 : (if x < 0 then ta else tb) = some r) (k1 : x < 0 → ta = some r → kj_J p l e R s m args below meth c cells slots Q nL D A ww tgt lv rest) (k2 : ¬ x < 0 → tb = some r → kj_J p l e R s m args below meth c cells slots Q nL D A ww (pc + 3) lv rest) : kj_J p l e R s m args below meth c cells slots Q nL D A ww pc lv (.int x :: rest) :=
  kj_if h0 (fun hc h => fun H locs ls a => lv_if_lt F.1 F.2.1 hdg ht (fun _ => k1 hc h H locs ls a) (fun q => absurd hc q)) (fun hc h => fun H locs ls a => lv_if_lt F.1 F.2.1 hdg ht (fun q => absurd q hc) (fun _ => k2 hc h H locs ls a))
theorem kj_if_ge (F : kj_Fx p s m args meth c cc nL Ts own ret D tys A) {x : Int32} {off : Int} {tgt : Nat} {β : Type} {ta tb : Option β} {r : β} (hdg : decode cc pc = .ok (.ifCond .ge off, 3)) (ht : (pc : Int) + off = (tgt : Int)) (h0 : (if 0 ≤ x then ta else tb) = some r) (k1 : 0 ≤ x → ta = some r → kj_J p l e R s m args below meth c cells slots Q nL D A ww tgt lv rest) (k2 : ¬ 0 ≤ x → tb = some r → kj_J p l e R s m args below meth c cells slots Q nL D A ww (pc + 3) lv rest) : kj_J p l e R s m args below meth c cells slots Q nL D A ww pc lv (.int x :: rest) :=
  kj_if h0 (fun hc h => fun H locs ls a => lv_if_ge F.1 F.2.1 hdg ht (fun _ => k1 hc h H locs ls a) (fun q => absurd hc q)) (fun hc h => fun H locs ls a => lv_if_ge F.1 F.2.1 hdg ht (fun q => absurd q hc) (fun _ => k2 hc h H locs ls a))
theorem kj_if_gt (F : kj_Fx p s m args meth c cc nL Ts own ret D tys A) {x : Int32} {off : Int} {tgt : Nat} {β : Type} {ta tb : Option β} {r : β} (hdg : decode cc pc = .ok (.ifCond .gt off, 3)) (ht : (pc : Int) + off = (tgt : Int)) (h0 : (if 0 < x then ta else tb) = some r) (k1 : 0 < x → ta = some r → kj_J p l e R s m args below meth c cells slots Q nL D A ww tgt lv rest) (k2 : ¬ 0 < x → tb = some r → kj_J p l e R s m args below meth c cells slots Q nL D A ww (pc + 3) lv rest) : kj_J p l e R s m args below meth c cells slots Q nL D A ww pc lv (.int x :: rest) :=
  kj_if h0 (fun hc h => fun H locs ls a => lv_if_gt F.1 F.2.1 hdg ht (fun _ => k1 hc h H locs ls a) (fun q => absurd hc q)) (fun hc h => fun H locs ls a => lv_if_gt F.1 F.2.1 hdg ht (fun q => absurd q hc) (fun _ => k2 hc h H locs ls a))
theorem kj_if_le (F : kj_Fx p s m args meth c cc nL Ts own ret D tys A) {x : Int32} {off : Int} {tgt : Nat} {β : Type} {ta tb : Option β} {r : β} (hdg : decode cc pc = .ok (.ifCond .le off, 3)) (ht : (pc : Int) + off = (tgt : Int)) (h0 : (if x ≤ 0 then ta else tb) = some r) (k1 : x ≤ 0 → ta = some r → kj_J p l e R s m args below meth c cells slots Q nL D A ww tgt lv rest) (k2 : ¬ x ≤ 0 → tb = some r → kj_J p l e R s m args below meth c cells slots Q nL D A ww (pc + 3) lv rest) : kj_J p l e R s m args below meth c cells slots Q nL D A ww pc lv (.int x :: rest) :=
  kj_if h0 (fun hc h => fun H locs ls a => lv_if_le F.1 F.2.1 hdg ht (fun _ => k1 hc h H locs ls a) (fun q => absurd hc q)) (fun hc h => fun H locs ls a => lv_if_le F.1 F.2.1 hdg ht (fun q => absurd q hc) (fun _ => k2 hc h H locs ls a))
theorem kj_icmp_eq (F : kj_Fx p s m args meth c cc nL Ts own ret D tys A) {x y : Int32} {off : Int} {tgt : Nat} {β : Type} {ta tb : Option β} {r : β} (hdg : decode cc pc = .ok (.if_icmp .eq off, 3)) (ht : (pc : Int) + off = (tgt : Int)) (h0 : (if x = y then ta else tb) = some r) (k1 : x = y → ta = some r → kj_J p l e R s m args below meth c cells slots Q nL D A ww tgt lv rest) (k2 : ¬ x = y → tb = some r → kj_J p l e R s m args below meth c cells slots Q nL D A ww (pc + 3) lv rest) : kj_J p l e R s m args below meth c cells slots Q nL D A ww pc lv (.int y :: .int x :: rest) :=
  kj_if h0 (fun hc h => fun H locs ls a => lv_icmp_eq F.1 F.2.1 hdg ht (fun _ => k1 hc h H locs ls a) (fun q => absurd hc q)) (fun hc h => fun H locs ls a => lv_icmp_eq F.1 F.2.1 hdg ht (fun q => absurd q hc) (fun _ => k2 hc h H locs ls a))
theorem kj_icmp_ne (F : kj_Fx p s m args meth c cc nL Ts own ret D tys A) {x y : Int32} {off : Int} {tgt : Nat} {β : Type} {ta tb : Option β} {r : β} (hdg : decode cc pc = .ok (.if_icmp .ne off, 3)) (ht : (pc : Int) + off = (tgt : Int)) (h0 : (if x = y then ta else tb) = some r) (k1 : x = y → ta = some r → kj_J p l e R s m args below meth c cells slots Q nL D A ww (pc + 3) lv rest) (k2 : ¬ x = y → tb = some r → kj_J p l e R s m args below meth c cells slots Q nL D A ww tgt lv rest) : kj_J p l e R s m args below meth c cells slots Q nL D A ww pc lv (.int y :: .int x :: rest) :=
  kj_if h0 (fun hc h => fun H locs ls a => lv_icmp_ne F.1 F.2.1 hdg ht (fun q => absurd hc q) (fun _ => k1 hc h H locs ls a)) (fun hc h => fun H locs ls a => lv_icmp_ne F.1 F.2.1 hdg ht (fun _ => k2 hc h H locs ls a) (fun q => absurd q hc))
theorem kj_icmp_lt (F : kj_Fx p s m args meth c cc nL Ts own ret D tys A) {x y : Int32} {off : Int} {tgt : Nat} {β : Type} {ta tb : Option β} {r : β} (hdg : decode cc pc = .ok (.if_icmp .lt off, 3)) (ht : (pc : Int) + off = (tgt : Int)) (h0 : (if x < y then ta else tb) = some r) (k1 : x < y → ta = some r → kj_J p l e R s m args below meth c cells slots Q nL D A ww tgt lv rest) (k2 : ¬ x < y → tb = some r → kj_J p l e R s m args below meth c cells slots Q nL D A ww (pc + 3) lv rest) : kj_J p l e R s m args below meth c cells slots Q nL D A ww pc lv (.int y :: .int x :: rest) :=
  kj_if h0 (fun hc h => fun H locs ls a => lv_icmp_lt F.1 F.2.1 hdg ht (fun _ => k1 hc h H locs ls a) (fun q => absurd hc q)) (fun hc h => fun H locs ls a => lv_icmp_lt F.1 F.2.1 hdg ht (fun q => absurd q hc) (fun _ => k2 hc h H locs ls a))
theorem kj_icmp_ge (F : kj_Fx p s m args meth c cc nL Ts own ret D tys A) {x y : Int32} {off : Int} {tgt : Nat} {β : Type} {ta tb : Option β} {r : β} (hdg : decode cc pc = .ok (.if_icmp .ge off, 3)) (ht : (pc : Int) + off = (tgt : Int)) (h0 : (if y ≤ x then ta else tb) = some r) (k1 : y ≤ x → ta = some r → kj_J p l e R s m args below meth c cells slots Q nL D A ww tgt lv rest) (k2 : ¬ y ≤ x → tb = some r → kj_J p l e R s m args below meth c cells slots Q nL D A ww (pc + 3) lv rest) : kj_J p l e R s m args below meth c cells slots Q nL D A ww pc lv (.int y :: .int x :: rest) :=
  kj_if h0 (fun hc h => fun H locs ls a => lv_icmp_ge F.1 F.2.1 hdg ht (fun _ => k1 hc h H locs ls a) (fun q => absurd hc q)) (fun hc h => fun H locs ls a => lv_icmp_ge F.1 F.2.1 hdg ht (fun q => absurd q hc) (fun _ => k2 hc h H locs ls a))
theorem kj_icmp_gt (F : kj_Fx p s m args meth c cc nL Ts own ret D tys A) {x y : Int32} {off : Int} {tgt : Nat} {β : Type} {ta tb : Option β} {r : β} (hdg : decode cc pc = .ok (.if_icmp .gt off, 3)) (ht : (pc : Int) + off = (tgt : Int)) (h0 : (if y < x then ta else tb) = some r) (k1 : y < x → ta = some r → kj_J p l e R s m args below meth c cells slots Q nL D A ww tgt lv rest) (k2 : ¬ y < x → tb = some r → kj_J p l e R s m args below meth c cells slots Q nL D A ww (pc + 3) lv rest) : kj_J p l e R s m args below meth c cells slots Q nL D A ww pc lv (.int y :: .int x :: rest) :=
  kj_if h0 (fun hc h => fun H locs ls a => lv_icmp_gt F.1 F.2.1 hdg ht (fun _ => k1 hc h H locs ls a) (fun q => absurd hc q)) (fun hc h => fun H locs ls a => lv_icmp_gt F.1 F.2.1 hdg ht (fun q => absurd q hc) (fun _ => k2 hc h H locs ls a))
theorem kj_icmp_le (F : kj_Fx p s m args meth c cc nL Ts own ret D tys A) {x y : Int32} {off : Int} {tgt : Nat} {β : Type} {ta tb : Option β} {r : β} (hdg : decode cc pc = .ok (.if_icmp .le off, 3)) (ht : (pc : Int) + off = (tgt : Int)) (h0 : (if x ≤ y then ta else tb) = some r) (k1 : x ≤ y → ta = some r → kj_J p l e R s m args below meth c cells slots Q nL D A ww tgt lv rest) (k2 : ¬ x ≤ y → tb = some r → kj_J p l e R s m args below meth c cells slots Q nL D A ww (pc + 3) lv rest) : kj_J p l e R s m args below meth c cells slots Q nL D A ww pc lv (.int y :: .int x :: rest) :=
  kj_if h0 (fun hc h => fun H locs ls a => lv_icmp_le F.1 F.2.1 hdg ht (fun _ => k1 hc h H locs ls a) (fun q => absurd hc q)) (fun hc h => fun H locs ls a => lv_icmp_le F.1 F.2.1 hdg ht (fun q => absurd q hc) (fun _ => k2 hc h H locs ls a))
theorem kj_goto (F : kj_Fx p s m args meth c cc nL Ts own ret D tys A) {off : Int} {tgt : Nat} {st : List Value} (hdg : decode cc pc = .ok (.goto off, 3)) (ht : (pc : Int) + off = (tgt : Int)) (k : kj_J p l e R s m args below meth c cells slots Q nL D A ww tgt lv st) : kj_J p l e R s m args below meth c cells slots Q nL D A ww pc lv st :=
  fun H locs ls h => lv_goto F.1 F.2.1 hdg ht (k H locs ls h)
theorem kj_tableIn (F : kj_Fx p s m args meth c cc nL Ts own ret D tys A) {dflt lo hi : Int} {offs : Array Int} {len : Nat} {x : Int32} {off : Int} {tgt : Nat} (hdg : decode cc pc = .ok (.tableswitch dflt lo hi offs, len)) (h1 : ¬ x.toInt < lo) (h2 : ¬ hi < x.toInt) (ho : offs[(x.toInt - lo).toNat]? = some off) (ht : (pc : Int) + off = (tgt : Int)) (k : kj_J p l e R s m args below meth c cells slots Q nL D A ww tgt lv rest) : kj_J p l e R s m args below meth c cells slots Q nL D A ww pc lv (.int x :: rest) :=
  fun H locs ls h => lv_tableIn F.1 F.2.1 hdg h1 h2 ho ht (k H locs ls h)
theorem kj_tableOut (F : kj_Fx p s m args meth c cc nL Ts own ret D tys A) {dflt lo hi : Int} {offs : Array Int} {len : Nat} {x : Int32} {tgt : Nat} (hdg : decode cc pc = .ok (.tableswitch dflt lo hi offs, len)) (h1 : x.toInt < lo ∨ hi < x.toInt) (ht : (pc : Int) + dflt = (tgt : Int)) (k : kj_J p l e R s m args below meth c cells slots Q nL D A ww tgt lv rest) : kj_J p l e R s m args below meth c cells slots Q nL D A ww pc lv (.int x :: rest) :=
  fun H locs ls h => lv_tableOut F.1 F.2.1 hdg h1 ht (k H locs ls h)
theorem kj_lookup (F : kj_Fx p s m args meth c cc nL Ts own ret D tys A) {dflt : Int} {ps : Array (Int × Int)} {len : Nat} {x : Int32} {off : Int} {tgt : Nat} (hdg : decode cc pc = .ok (.lookupswitch dflt ps, len)) (hp : (ps.toList.zip (ps.toList.drop 1)).all (fun (a, next) => a.1 < next.1) = true) (ho : Op.lookupswitch.offset ps.toList dflt x.toInt = off) (ht : (pc : Int) + off = (tgt : Int)) (k : kj_J p l e R s m args below meth c cells slots Q nL D A ww tgt lv rest) : kj_J p l e R s m args below meth c cells slots Q nL D A ww pc lv (.int x :: rest) :=
  fun H locs ls h => lv_lookup F.1 F.2.1 hdg hp ho ht (k H locs ls h)
theorem kj_get (F : kj_Fx p s m args meth c cc nL Ts own ret D tys A) {ref C : String} {T : u_T} {N ci index a : Nat} {fs : List Value} {v : Value} (hdg : decode cc pc = .ok (.getfield index, 3)) (hin : ∀ w ∈ u_ws C T N, w ∈ Ts) (q0 : Nat) (he : ww[q0]? = some (a, .inr (ci, fs))) (hc : vwCl[ci]? = some (C, T, N)) (kf : Nat) (hk : kf < N) (hlink : Cond.fieldLink own index ref (T kf).2.1 (T kf).2.2.1 ∈ Ts) (hsame : (T kf).1 = ref) (hv : fs[kf]? = some v) (k : kj_J p l e R s m args below meth c cells slots Q nL D A ww (pc + 3) lv (v :: rest)) : kj_J p l e R s m args below meth c cells slots Q nL D A ww pc lv (.ref a :: rest) :=
  fun H locs ls h => va_get (D := D) F.1 F.2.1 F.2.2.2.2.1 hin F.2.2.2.1 F.2.2.2.2.2.2.2.1 h.1 q0 he hc kf hk (F.2.2.2.2.1 _ hlink) (fun _ h9 => hsame ▸ h9) hv hdg (k H locs ls h)
theorem kj_put (F : kj_Fx p s m args meth c cc nL Ts own ret D tys A) {ref C : String} {T : u_T} {N ci index a : Nat} {fs : List Value} {v : Value} {ty : FieldType} {ww' : va_W} (hdg : decode cc pc = .ok (.putfield index, 3)) (hin : ∀ w ∈ u_ws C T N, w ∈ Ts) (ty0 : Nat → FieldType) (hty : ∀ k, k < N → parseFieldDescriptor (T k).2.2.1 = some (ty0 k)) (hnm : ∀ a, a < N → ∀ b, b < N → a ≠ b → (T a).2.1 ≠ (T b).2.1) (q0 : Nat) (he : ww[q0]? = some (a, .inr (ci, fs))) (hc : vwCl[ci]? = some (C, T, N)) (kf : Nat) (hk : kf < N) (hlink : Cond.fieldLink own index ref (T kf).2.1 (T kf).2.2.1 ∈ Ts) (hsame : (T kf).1 = ref) (hfin : (T kf).2.2.2 = false) (hd : parseFieldDescriptor (T kf).2.2.1 = some ty) (hn : narrow ty v = v) (hfit : fits ty v = true) (hl : kf < fs.length) (hw : ww.set q0 (a, .inr (ci, fs.set kf v)) = ww') (k : kj_J p l e R s m args below meth c cells slots Q nL D A ww' (pc + 3) lv rest) : kj_J p l e R s m args below meth c cells slots Q nL D A ww pc lv (v :: .ref a :: rest) :=
  fun H locs ls h => va_put (D := D) F.1 F.2.1 F.2.2.2.2.1 hin ty0 hty hnm F.2.2.2.1 F.2.2.2.2.2.2.2.1 h.1 h.2.1 h.2.2.1 q0 he hc kf hk (F.2.2.2.2.1 _ hlink) (fun _ h9 => hsame ▸ h9) hfin hd hn hfit hl hdg (fun H1 locs1 hP hD hS => k H1 locs1 ls ⟨hw ▸ hP, hw ▸ hD, hS, h.2.2.2⟩)
theorem kj_iald (F : kj_Fx p s m args meth c cc nL Ts own ret D tys A) {a : Nat} {cA : ClassId} {n : Nat} {f : Nat → Int32} {i : Int32} (hdg : decode cc pc = .ok (.iaload, 1)) (q0 t0 : Nat) (ha : ww[q0]? = some (a, .inl (cA, n, .inl f))) (ht : tys[t0]? = some (cA, .int)) (hin : vp_in i n) (k : kj_J p l e R s m args below meth c cells slots Q nL D A ww (pc + 1) lv (.int (f i.toNatClampNeg) :: rest)) : kj_J p l e R s m args below meth c cells slots Q nL D A ww pc lv (.int i :: .ref a :: rest) :=
  fun H locs ls h => va_iald (D := D) F.1 F.2.1 F.2.2.2.2.2.2.2.1 h.1 q0 t0 ha ht hin hdg (k H locs ls h)
theorem kj_zald (F : kj_Fx p s m args meth c cc nL Ts own ret D tys A) {a : Nat} {cA : ClassId} {n : Nat} {f : Nat → Int32} {i : Int32} (hdg : decode cc pc = .ok (.baload, 1)) (q0 t0 : Nat) (ha : ww[q0]? = some (a, .inl (cA, n, .inl f))) (ht : tys[t0]? = some (cA, .boolean)) (hin : vp_in i n) (k : kj_J p l e R s m args below meth c cells slots Q nL D A ww (pc + 1) lv (.int (f i.toNatClampNeg) :: rest)) : kj_J p l e R s m args below meth c cells slots Q nL D A ww pc lv (.int i :: .ref a :: rest) :=
  fun H locs ls h => va_zald (D := D) F.1 F.2.1 F.2.2.2.2.2.2.2.1 h.1 q0 t0 ha ht hin hdg (k H locs ls h)
theorem kj_lald (F : kj_Fx p s m args meth c cc nL Ts own ret D tys A) {a : Nat} {cA : ClassId} {n : Nat} {f : Nat → Int64} {i : Int32} (hdg : decode cc pc = .ok (.laload, 1)) (q0 t0 : Nat) (ha : ww[q0]? = some (a, .inl (cA, n, .inr (.inl f)))) (ht : tys[t0]? = some (cA, .long)) (hin : vp_in i n) (k : kj_J p l e R s m args below meth c cells slots Q nL D A ww (pc + 1) lv (.long (f i.toNatClampNeg) :: rest)) : kj_J p l e R s m args below meth c cells slots Q nL D A ww pc lv (.int i :: .ref a :: rest) :=
  fun H locs ls h => va_lald (D := D) F.1 F.2.1 F.2.2.2.2.2.2.2.1 h.1 q0 t0 ha ht hin hdg (k H locs ls h)
theorem kj_iast (F : kj_Fx p s m args meth c cc nL Ts own ret D tys A) {a : Nat} {cA : ClassId} {n : Nat} {f : Nat → Int32} {i : Int32} {x : Int32} {ww' : va_W} (hdg : decode cc pc = .ok (.iastore, 1)) (q0 t0 : Nat) (ha : ww[q0]? = some (a, .inl (cA, n, .inl f))) (ht : tys[t0]? = some (cA, .int)) (hin : vp_in i n) (hw : ww.set q0 (a, .inl (cA, n, .inl (upd f i.toNatClampNeg x))) = ww') (k : kj_J p l e R s m args below meth c cells slots Q nL D A ww' (pc + 1) lv rest) : kj_J p l e R s m args below meth c cells slots Q nL D A ww pc lv (.int x :: .int i :: .ref a :: rest) :=
  fun H locs ls h => va_iast (D := D) F.1 F.2.1 F.2.2.2.2.2.2.2.1 h.1 h.2.1 h.2.2.1 q0 t0 ha ht hin hdg (fun H1 locs1 hP hD hS => k H1 locs1 ls ⟨hw ▸ hP, hw ▸ hD, hS, h.2.2.2⟩)
theorem kj_zast (F : kj_Fx p s m args meth c cc nL Ts own ret D tys A) {a : Nat} {cA : ClassId} {n : Nat} {f : Nat → Int32} {i : Int32} {x : Int32} {ww' : va_W} (hdg : decode cc pc = .ok (.bastore, 1)) (q0 t0 : Nat) (ha : ww[q0]? = some (a, .inl (cA, n, .inl f))) (ht : tys[t0]? = some (cA, .boolean)) (hin : vp_in i n) (hw : ww.set q0 (a, .inl (cA, n, .inl (upd f i.toNatClampNeg (vp_nar .boolean x)))) = ww') (k : kj_J p l e R s m args below meth c cells slots Q nL D A ww' (pc + 1) lv rest) : kj_J p l e R s m args below meth c cells slots Q nL D A ww pc lv (.int x :: .int i :: .ref a :: rest) :=
  fun H locs ls h => va_zast (D := D) F.1 F.2.1 F.2.2.2.2.2.2.2.1 h.1 h.2.1 h.2.2.1 q0 t0 ha ht hin hdg (fun H1 locs1 hP hD hS => k H1 locs1 ls ⟨hw ▸ hP, hw ▸ hD, hS, h.2.2.2⟩)
theorem kj_last (F : kj_Fx p s m args meth c cc nL Ts own ret D tys A) {a : Nat} {cA : ClassId} {n : Nat} {f : Nat → Int64} {i : Int32} {x : Int64} {ww' : va_W} (hdg : decode cc pc = .ok (.lastore, 1)) (q0 t0 : Nat) (ha : ww[q0]? = some (a, .inl (cA, n, .inr (.inl f)))) (ht : tys[t0]? = some (cA, .long)) (hin : vp_in i n) (hw : ww.set q0 (a, .inl (cA, n, .inr (.inl (vp_updL f i.toNatClampNeg x)))) = ww') (k : kj_J p l e R s m args below meth c cells slots Q nL D A ww' (pc + 1) lv rest) : kj_J p l e R s m args below meth c cells slots Q nL D A ww pc lv (.long x :: .int i :: .ref a :: rest) :=
  fun H locs ls h => va_last (D := D) F.1 F.2.1 F.2.2.2.2.2.2.2.1 h.1 h.2.1 h.2.2.1 q0 t0 ha ht hin hdg (fun H1 locs1 hP hD hS => k H1 locs1 ls ⟨hw ▸ hP, hw ▸ hD, hS, h.2.2.2⟩)
theorem kj_mmax (F : kj_Fx p s m args meth c cc nL Ts own ret D tys A) {index : Nat} {x y : Int32} (hdg : decode cc pc = .ok (.invokestatic index, 3)) (hl : Cond.methodLink own index Lib.Math.max.name ∈ Ts) (hs : Cond.static Lib.Math.max.name ∈ Ts) (hi : Cond.initialized "java/lang/Math" ∈ Ts) (hc : Cond.code Lib.Math.max.name Lib.Math.max.code 2 (some .int) ∈ Ts) (hfr : 1 ≤ R.frames) (hlo : (rest.map fun v => v.category).sum + 13 ≤ R.locals) (hf : cells ≤ R.cells ∧ slots ≤ R.slots) (k : kj_J p l e R s m args below meth c cells slots Q nL D A ww (pc + 3) lv (.int (if x < y then y else x) :: rest)) : kj_J p l e R s m args below meth c cells slots Q nL D A ww pc lv (.int y :: .int x :: rest) :=
  fun H locs ls h => va_mmax F.1 F.2.1 (F.2.2.1.trans h.2.2.2.1.symm) F.2.2.2.1 (F.2.2.2.2.1 _ hl) (F.2.2.2.2.1 _ hs) (F.2.2.2.2.1 _ hi) (F.2.2.2.2.1 _ hc) hfr hlo hf.1 hf.2 hdg (k H locs ls h)
theorem kj_mmin (F : kj_Fx p s m args meth c cc nL Ts own ret D tys A) {index : Nat} {x y : Int32} (hdg : decode cc pc = .ok (.invokestatic index, 3)) (hl : Cond.methodLink own index Lib.Math.min.name ∈ Ts) (hs : Cond.static Lib.Math.min.name ∈ Ts) (hi : Cond.initialized "java/lang/Math" ∈ Ts) (hc : Cond.code Lib.Math.min.name Lib.Math.min.code 2 (some .int) ∈ Ts) (hfr : 1 ≤ R.frames) (hlo : (rest.map fun v => v.category).sum + 13 ≤ R.locals) (hf : cells ≤ R.cells ∧ slots ≤ R.slots) (k : kj_J p l e R s m args below meth c cells slots Q nL D A ww (pc + 3) lv (.int (if y < x then y else x) :: rest)) : kj_J p l e R s m args below meth c cells slots Q nL D A ww pc lv (.int y :: .int x :: rest) :=
  fun H locs ls h => va_mmin F.1 F.2.1 (F.2.2.1.trans h.2.2.2.1.symm) F.2.2.2.1 (F.2.2.2.2.1 _ hl) (F.2.2.2.2.1 _ hs) (F.2.2.2.2.1 _ hi) (F.2.2.2.2.1 _ hc) hfr hlo hf.1 hf.2 hdg (k H locs ls h)
end KJ
/-! CONTRACTS: a method's world before and behind; nothing is made. -/
def kj_pre (D : va_G) (tys : List (ClassId × FieldType)) (ww : va_W) (sz : Nat) : State → Prop := fun U => U.heap.size = sz ∧ va_P D vwCl ww U.heap ∧ va_K D vwCl tys U ∧ va_D (fun _ => True) ww
def kj_post (D : va_G) (tys : List (ClassId × FieldType)) (A : Nat → Prop) (ww : va_W) : State → Prop := fun t => va_P D vwCl ww t.heap ∧ va_K D vwCl tys t ∧ va_D A ww
theorem kj_blind {D : va_G} {tys : List (ClassId × FieldType)} {ww : va_W} {sz : Nat} {av : List Value} : FrameBlind (va_Pc av (kj_pre D tys ww sz)) :=
  fun a U g mk q => ⟨q.1, q.2.1, q.2.2.1, va_K.moved (u := U) (U := U.calling g mk a) (Vm.Alike.refl U.vm) q.2.2.2.1, q.2.2.2.2⟩
def kj_Qi {S : Type} (D : va_G) (tys : List (ClassId × FieldType)) (A : Nat → Prop) (w : S → va_W) (o : Int32 × S) : Array Value → State → Outcome → State → Prop := va_Qi (fun (r : Int32) (u : S) => r = o.1 ∧ u = o.2) (fun u => kj_post D tys A (w u)) A
def kj_Ql {S : Type} (D : va_G) (tys : List (ClassId × FieldType)) (A : Nat → Prop) (w : S → va_W) (o : Int64 × S) : Array Value → State → Outcome → State → Prop := va_Ql (fun (r : Int64) (u : S) => r = o.1 ∧ u = o.2) (fun u => kj_post D tys A (w u)) A
def kj_Qv {S : Type} (D : va_G) (tys : List (ClassId × FieldType)) (A : Nat → Prop) (w : S → va_W) (o : S) : Array Value → State → Outcome → State → Prop := va_Qv (fun (u : S) => u = o) (fun u => kj_post D tys A (w u)) A
def kj_Mi {S : Type} (l : Launch) (y : MethodName) (ws : List Cond) (rm : Room) (D : va_G) (tys : List (ClassId × FieldType)) (w : S → va_W) (z : S) (av : List Value) (o : Int32 × S) : Prop :=
  ∀ sz, Met l y ws rm (va_Pc av (kj_pre D tys (w z) sz)) (kj_Qi D tys (va_A (w z) sz) w o) 0 0 (va_A (w z) sz)
def kj_Ml {S : Type} (l : Launch) (y : MethodName) (ws : List Cond) (rm : Room) (D : va_G) (tys : List (ClassId × FieldType)) (w : S → va_W) (z : S) (av : List Value) (o : Int64 × S) : Prop :=
  ∀ sz, Met l y ws rm (va_Pc av (kj_pre D tys (w z) sz)) (kj_Ql D tys (va_A (w z) sz) w o) 0 0 (va_A (w z) sz)
def kj_Mv {S : Type} (l : Launch) (y : MethodName) (ws : List Cond) (rm : Room) (D : va_G) (tys : List (ClassId × FieldType)) (w : S → va_W) (z : S) (av : List Value) (o : S) : Prop :=
  ∀ sz, Met l y ws rm (va_Pc av (kj_pre D tys (w z) sz)) (kj_Qv D tys (va_A (w z) sz) w o) 0 0 (va_A (w z) sz)
/-- a method's start: from its contract to the judgement at pc 0 -/
theorem kj_start {l : Launch} {y : MethodName} {ws ws' : List Cond} {rm : Room} {D : va_G} {tys : List (ClassId × FieldType)} {ww : va_W} {av : List Value} {sz : Nat} {cc : ByteArray} {maxL : Nat} {ret : Option FieldType} {Qc : Array Value → State → Outcome → State → Prop} {lv : List (Nat × Value)} {mc ms : Nat}
    (hy : plainName y.cls = true) (hw : ws = Cond.code y cc maxL ret :: ws') (hn : (lg_sl av).length ≤ maxL) (hlv : lv_args 0 av = lv)
    (body : ∀ (p : Program) (e : Env) (s : State) (m : MethodId) (args : Array Value) (below : List Frame) (meth : Method) (c : Code), s.heap.size = sz → kj_Fx p s m args meth c cc maxL ws y.cls ret D tys (va_A ww sz) →
      kj_J p l e rm s m args below meth c 0 0 (MQ below Qc args s mc ms (va_A ww sz)) maxL D (va_A ww sz) ww 0 lv []) :
    Met l y ws rm (va_Pc av (kj_pre D tys ww sz)) Qc mc ms (va_A ww sz) := by
  refine Met.ofW (cc := cc) (maxL := maxL) (ret := ret) hy hw ?_
  intro p e s m args below meth c s₁ B hml hv
  obtain ⟨rfl, hsz, hP, hK, hD0⟩ := hv
  have hl := lv_entry av (n := maxL) hn
  rw [lg_entry_eq]
  refine body p e s m _ below meth c hsz ⟨B.exec, B.bytes, hml, findClass_of_methodNamed B.named, atoms_spec (ws := ws) B.pre, B.returns, B.notSynchronized, hK, fun q h => Or.inr (hsz ▸ h)⟩ _ _ _ ⟨hP, hD0.self, va_S.rf, hlv ▸ hl⟩
section KC
variable {p : Program} {l : Launch} {e : Env} {R : Room} {s : State} {m : MethodId} {args : Array Value} {below : List Frame} {meth : Method} {c : Code} {cells slots : Nat} {Q : State → Prop} {cc : ByteArray} {nL : Nat} {Ts : List Cond} {own : String} {ret : Option FieldType} {D : va_G} {tys : List (ClassId × FieldType)} {A : Nat → Prop} {pc : Nat} {lv : List (Nat × Value)} {rest : List Value} {S : Type} {w : S → va_W} {z : S}
theorem kj_iret {v : Int32} {o : Int32 × S} (F : kj_Fx p s m args meth c cc nL Ts own (some .int) D tys A) (hdg : decode cc pc = .ok (.ireturn, 1)) (h : some (v, z) = some o) :
    kj_J p l e R s m args below meth c cells slots (MQ below (kj_Qi D tys A w o) args s cells slots A) nL D A (w z) pc lv [.int v] := by
  cases h
  obtain ⟨hx, hb, hml, hown, hts, hr, hlocks, hK, hA⟩ := F
  exact fun H locs ls ⟨hP, hD, hS, hl⟩ => W.iret (v := v) hx hb hr (fun t ht hW => ⟨⟨v, z, rfl, ⟨rfl, rfl⟩, by rw [ht]; exact hP, va_K.moved hW.alike hK, hD⟩, hS.F ht⟩) hS.2.2 hdg
theorem kj_zret {v : Int32} {o : Int32 × S} (F : kj_Fx p s m args meth c cc nL Ts own (some .boolean) D tys A) (hdg : decode cc pc = .ok (.ireturn, 1)) (hv : v = 0 ∨ v = 1) (h : some (v, z) = some o) :
    kj_J p l e R s m args below meth c cells slots (MQ below (kj_Qi D tys A w o) args s cells slots A) nL D A (w z) pc lv [.int v] := by
  cases h
  obtain ⟨hx, hb, hml, hown, hts, hr, hlocks, hK, hA⟩ := F
  exact fun H locs ls ⟨hP, hD, hS, hl⟩ => W.zret (v := v) hx hb hr (by rcases hv with rfl | rfl <;> rfl) (fun t ht hW => ⟨⟨v, z, rfl, ⟨rfl, rfl⟩, by rw [ht]; exact hP, va_K.moved hW.alike hK, hD⟩, hS.F ht⟩) hS.2.2 hdg
theorem kj_zretB {v : Int32} {o : Int32 × S} (F : kj_Fx p s m args meth c cc nL Ts own (some .boolean) D tys A) (hdg : decode cc pc = .ok (.ireturn, 1)) (h : (if v = 0 ∨ v = 1 then some (v, z) else none) = some o) :
    kj_J p l e R s m args below meth c cells slots (MQ below (kj_Qi D tys A w o) args s cells slots A) nL D A (w z) pc lv [.int v] :=
  kj_if h (fun hv h => kj_zret F hdg hv h) (fun _ h => by cases h)
theorem kj_lret {v : Int64} {o : Int64 × S} (F : kj_Fx p s m args meth c cc nL Ts own (some .long) D tys A) (hdg : decode cc pc = .ok (.lreturn, 1)) (h : some (v, z) = some o) :
    kj_J p l e R s m args below meth c cells slots (MQ below (kj_Ql D tys A w o) args s cells slots A) nL D A (w z) pc lv [.long v] := by
  cases h
  obtain ⟨hx, hb, hml, hown, hts, hr, hlocks, hK, hA⟩ := F
  exact fun H locs ls ⟨hP, hD, hS, hl⟩ => W.lret (v := v) hx hb hr (fun t ht hW => ⟨⟨v, z, rfl, ⟨rfl, rfl⟩, by rw [ht]; exact hP, va_K.moved hW.alike hK, hD⟩, hS.F ht⟩) hS.2.2 hdg
theorem kj_vret {o : S} (F : kj_Fx p s m args meth c cc nL Ts own none D tys A) (hdg : decode cc pc = .ok (.return_, 1)) (h : some z = some o) :
    kj_J p l e R s m args below meth c cells slots (MQ below (kj_Qv D tys A w o) args s cells slots A) nL D A (w z) pc lv [] := by
  cases h
  obtain ⟨hx, hb, hml, hown, hts, hr, hlocks, hK, hA⟩ := F
  exact fun H locs ls ⟨hP, hD, hS, hl⟩ => W.vret hx hb hr (fun t ht hW => ⟨⟨z, rfl, rfl, by rw [ht]; exact hP, va_K.moved hW.alike hK, hD⟩, hS.F ht⟩) hS.2.2 hdg
/-- behind a call the callee's world is the caller's -/
theorem kj_back {ww : va_W} {H : Heap} {locs : List Loc} {H0 : Heap} (hD : va_D A ww) (hS : va_S A H0 H locs) (hA : ∀ q, H0.size ≤ q → A q) : ∀ q, va_A ww H.size q → A q := by
  intro q hq
  rcases hq with ⟨k, e, hk⟩ | hq
  · exact hD.2 k _ hk
  · exact hA q (Nat.le_trans hS.1 hq)
theorem kj_preV {ww : va_W} {H : Heap} {C : String} {b ci q0 : Nat} {q : vw_C} {fs As : List Value} (hK : va_K D vwCl tys s) (hP : va_P D vwCl ww H) (hD : va_D A ww) (hc : vwCl[ci]? = some q) (hq : q.1 = C) (he : ww[q0]? = some (b, .inr (ci, fs))) : PreV s H C b (va_Pc (.ref b :: As) (kj_pre D tys ww H.size)) As :=
  ⟨kj_blind, hq ▸ va_recv hK hP hc he, fun U hU hW => ⟨rfl, by rw [hU], by rw [hU]; exact hP, va_K.moved hW.alike hK, hD.weaken (fun _ _ _ _ => trivial)⟩⟩
theorem kj_preS {ww : va_W} {H : Heap} {As : List Value} (hK : va_K D vwCl tys s) (hP : va_P D vwCl ww H) (hD : va_D A ww) : PreS s H (va_Pc As (kj_pre D tys ww H.size)) As :=
  ⟨kj_blind, fun U hU hW => ⟨rfl, by rw [hU], by rw [hU]; exact hP, va_K.moved hW.alike hK, hD.weaken (fun _ _ _ _ => trivial)⟩⟩
variable {y : MethodName} {bytes : ByteArray} {maxL n index : Nat} {retC : Option FieldType} {wsC : List Cond} {rmC : Room} {C : String} {b ci : Nat} {qC : vw_C} {fs As st : List Value} {β : Type} {rr : β}
theorem kj_cVi (F : kj_Fx p s m args meth c cc nL Ts own ret D tys A) {g : Option (Int32 × S)} {f : Int32 × S → Option β} (hdg : decode cc pc = .ok (.invokevirtual index, 3)) (h0 : g.bind f = some rr) (hM : ∀ o, g = some o → kj_Mi l y wsC rmC D tys w z (.ref b :: As) o) (cw : CallW R s args own C index y bytes maxL retC wsC rmC 0 0 n) (q0 : Nat) (he : (w z)[q0]? = some (b, .inr (ci, fs))) (hc : vwCl[ci]? = some qC) (hq : qC.1 = C) (hn : As.length = n) (hst : st = As.reverse ++ .ref b :: rest) (hm : (rest.map fun v => v.category).sum ≤ 8) (hf : cells ≤ R.cells ∧ slots ≤ R.slots) (k : ∀ o, f o = some rr → kj_J p l e R s m args below meth c cells slots Q nL D A (w o.2) (pc + 3) lv (.int o.1 :: rest)) : kj_J p l e R s m args below meth c cells slots Q nL D A (w z) pc lv st := by
  refine kj_bn h0 fun o hg h => ?_
  obtain ⟨hx, hb, hml, hown, hts, hr, hlocks, hK, hA⟩ := F
  intro H locs ls ⟨hP, hD, hS, hl⟩
  refine va_calli (va_runV (As := As) (rest := rest) ⟨hx, hb, hml, hown, hts⟩ (hM o hg H.size) cw (kj_preV hK hP hD hc hq he) rfl hn hl.1 hst (lv_room hm) hdg hf) hS (fun q _ h => kj_back hD hS hA q h) (kj_back hD hS hA) (fun r u t H1 locs1 ht hvm hw hB hz1 hk1 hS1 => ?_)
  obtain ⟨rfl, rfl⟩ := hw
  obtain ⟨hP1, hK1, hD1⟩ := hB
  rw [ht] at hP1
  exact k _ h H1 locs1 ls ⟨hP1, hD1.weaken (fun _ _ _ q => kj_back hD hS hA _ q), hS1, hl⟩
theorem kj_cVip (F : kj_Fx p s m args meth c cc nL Ts own ret D tys A) {g : Option (Int32)} {f : Int32 → Option β} (hdg : decode cc pc = .ok (.invokevirtual index, 3)) (h0 : g.bind f = some rr) (hM : ∀ o, g = some o → kj_Mi l y wsC rmC D tys w z (.ref b :: As) (o, z)) (cw : CallW R s args own C index y bytes maxL retC wsC rmC 0 0 n) (q0 : Nat) (he : (w z)[q0]? = some (b, .inr (ci, fs))) (hc : vwCl[ci]? = some qC) (hq : qC.1 = C) (hn : As.length = n) (hst : st = As.reverse ++ .ref b :: rest) (hm : (rest.map fun v => v.category).sum ≤ 8) (hf : cells ≤ R.cells ∧ slots ≤ R.slots) (k : ∀ o, f o = some rr → kj_J p l e R s m args below meth c cells slots Q nL D A (w z) (pc + 3) lv (.int o :: rest)) : kj_J p l e R s m args below meth c cells slots Q nL D A (w z) pc lv st := by
  refine kj_bn h0 fun o hg h => ?_
  obtain ⟨hx, hb, hml, hown, hts, hr, hlocks, hK, hA⟩ := F
  intro H locs ls ⟨hP, hD, hS, hl⟩
  refine va_calli (va_runV (As := As) (rest := rest) ⟨hx, hb, hml, hown, hts⟩ (hM o hg H.size) cw (kj_preV hK hP hD hc hq he) rfl hn hl.1 hst (lv_room hm) hdg hf) hS (fun q _ h => kj_back hD hS hA q h) (kj_back hD hS hA) (fun r u t H1 locs1 ht hvm hw hB hz1 hk1 hS1 => ?_)
  obtain ⟨rfl, rfl⟩ := hw
  obtain ⟨hP1, hK1, hD1⟩ := hB
  rw [ht] at hP1
  exact k _ h H1 locs1 ls ⟨hP1, hD1.weaken (fun _ _ _ q => kj_back hD hS hA _ q), hS1, hl⟩
theorem kj_cVl (F : kj_Fx p s m args meth c cc nL Ts own ret D tys A) {g : Option (Int64 × S)} {f : Int64 × S → Option β} (hdg : decode cc pc = .ok (.invokevirtual index, 3)) (h0 : g.bind f = some rr) (hM : ∀ o, g = some o → kj_Ml l y wsC rmC D tys w z (.ref b :: As) o) (cw : CallW R s args own C index y bytes maxL retC wsC rmC 0 0 n) (q0 : Nat) (he : (w z)[q0]? = some (b, .inr (ci, fs))) (hc : vwCl[ci]? = some qC) (hq : qC.1 = C) (hn : As.length = n) (hst : st = As.reverse ++ .ref b :: rest) (hm : (rest.map fun v => v.category).sum ≤ 8) (hf : cells ≤ R.cells ∧ slots ≤ R.slots) (k : ∀ o, f o = some rr → kj_J p l e R s m args below meth c cells slots Q nL D A (w o.2) (pc + 3) lv (.long o.1 :: rest)) : kj_J p l e R s m args below meth c cells slots Q nL D A (w z) pc lv st := by
  refine kj_bn h0 fun o hg h => ?_
  obtain ⟨hx, hb, hml, hown, hts, hr, hlocks, hK, hA⟩ := F
  intro H locs ls ⟨hP, hD, hS, hl⟩
  refine va_calll (va_runV (As := As) (rest := rest) ⟨hx, hb, hml, hown, hts⟩ (hM o hg H.size) cw (kj_preV hK hP hD hc hq he) rfl hn hl.1 hst (lv_room hm) hdg hf) hS (fun q _ h => kj_back hD hS hA q h) (kj_back hD hS hA) (fun r u t H1 locs1 ht hvm hw hB hz1 hk1 hS1 => ?_)
  obtain ⟨rfl, rfl⟩ := hw
  obtain ⟨hP1, hK1, hD1⟩ := hB
  rw [ht] at hP1
  exact k _ h H1 locs1 ls ⟨hP1, hD1.weaken (fun _ _ _ q => kj_back hD hS hA _ q), hS1, hl⟩
theorem kj_cVlp (F : kj_Fx p s m args meth c cc nL Ts own ret D tys A) {g : Option (Int64)} {f : Int64 → Option β} (hdg : decode cc pc = .ok (.invokevirtual index, 3)) (h0 : g.bind f = some rr) (hM : ∀ o, g = some o → kj_Ml l y wsC rmC D tys w z (.ref b :: As) (o, z)) (cw : CallW R s args own C index y bytes maxL retC wsC rmC 0 0 n) (q0 : Nat) (he : (w z)[q0]? = some (b, .inr (ci, fs))) (hc : vwCl[ci]? = some qC) (hq : qC.1 = C) (hn : As.length = n) (hst : st = As.reverse ++ .ref b :: rest) (hm : (rest.map fun v => v.category).sum ≤ 8) (hf : cells ≤ R.cells ∧ slots ≤ R.slots) (k : ∀ o, f o = some rr → kj_J p l e R s m args below meth c cells slots Q nL D A (w z) (pc + 3) lv (.long o :: rest)) : kj_J p l e R s m args below meth c cells slots Q nL D A (w z) pc lv st := by
  refine kj_bn h0 fun o hg h => ?_
  obtain ⟨hx, hb, hml, hown, hts, hr, hlocks, hK, hA⟩ := F
  intro H locs ls ⟨hP, hD, hS, hl⟩
  refine va_calll (va_runV (As := As) (rest := rest) ⟨hx, hb, hml, hown, hts⟩ (hM o hg H.size) cw (kj_preV hK hP hD hc hq he) rfl hn hl.1 hst (lv_room hm) hdg hf) hS (fun q _ h => kj_back hD hS hA q h) (kj_back hD hS hA) (fun r u t H1 locs1 ht hvm hw hB hz1 hk1 hS1 => ?_)
  obtain ⟨rfl, rfl⟩ := hw
  obtain ⟨hP1, hK1, hD1⟩ := hB
  rw [ht] at hP1
  exact k _ h H1 locs1 ls ⟨hP1, hD1.weaken (fun _ _ _ q => kj_back hD hS hA _ q), hS1, hl⟩
theorem kj_cVv (F : kj_Fx p s m args meth c cc nL Ts own ret D tys A) {g : Option (S)} {f : S → Option β} (hdg : decode cc pc = .ok (.invokevirtual index, 3)) (h0 : g.bind f = some rr) (hM : ∀ o, g = some o → kj_Mv l y wsC rmC D tys w z (.ref b :: As) o) (cw : CallW R s args own C index y bytes maxL retC wsC rmC 0 0 n) (q0 : Nat) (he : (w z)[q0]? = some (b, .inr (ci, fs))) (hc : vwCl[ci]? = some qC) (hq : qC.1 = C) (hn : As.length = n) (hst : st = As.reverse ++ .ref b :: rest) (hm : (rest.map fun v => v.category).sum ≤ 8) (hf : cells ≤ R.cells ∧ slots ≤ R.slots) (k : ∀ o, f o = some rr → kj_J p l e R s m args below meth c cells slots Q nL D A (w o) (pc + 3) lv rest) : kj_J p l e R s m args below meth c cells slots Q nL D A (w z) pc lv st := by
  refine kj_bn h0 fun o hg h => ?_
  obtain ⟨hx, hb, hml, hown, hts, hr, hlocks, hK, hA⟩ := F
  intro H locs ls ⟨hP, hD, hS, hl⟩
  refine va_callv (va_runV (As := As) (rest := rest) ⟨hx, hb, hml, hown, hts⟩ (hM o hg H.size) cw (kj_preV hK hP hD hc hq he) rfl hn hl.1 hst (lv_room hm) hdg hf) hS (fun q _ h => kj_back hD hS hA q h) (kj_back hD hS hA) (fun u t H1 locs1 ht hvm hw hB hz1 hk1 hS1 => ?_)
  subst hw
  obtain ⟨hP1, hK1, hD1⟩ := hB
  rw [ht] at hP1
  exact k _ h H1 locs1 ls ⟨hP1, hD1.weaken (fun _ _ _ q => kj_back hD hS hA _ q), hS1, hl⟩
theorem kj_cSi (F : kj_Fx p s m args meth c cc nL Ts own ret D tys A) {g : Option (Int32 × S)} {f : Int32 × S → Option β} (hdg : decode cc pc = .ok (.invokestatic index, 3)) (h0 : g.bind f = some rr) (hM : ∀ o, g = some o → kj_Mi l y wsC rmC D tys w z As o) (cw : CallB R s args own index y bytes maxL retC wsC rmC 0 0 n ∧ (Cond.static y).before args s = true) (hn : As.length = n) (hst : st = As.reverse ++ rest) (hm : (rest.map fun v => v.category).sum ≤ 8) (hf : cells ≤ R.cells ∧ slots ≤ R.slots) (k : ∀ o, f o = some rr → kj_J p l e R s m args below meth c cells slots Q nL D A (w o.2) (pc + 3) lv (.int o.1 :: rest)) : kj_J p l e R s m args below meth c cells slots Q nL D A (w z) pc lv st := by
  refine kj_bn h0 fun o hg h => ?_
  obtain ⟨hx, hb, hml, hown, hts, hr, hlocks, hK, hA⟩ := F
  intro H locs ls ⟨hP, hD, hS, hl⟩
  refine va_calli (va_runS (As := As) (rest := rest) ⟨hx, hb, hml, hown, hts⟩ (hM o hg H.size) cw (kj_preS hK hP hD) rfl hn hl.1 hst (lv_room hm) hdg hf) hS (fun q _ h => kj_back hD hS hA q h) (kj_back hD hS hA) (fun r u t H1 locs1 ht hvm hw hB hz1 hk1 hS1 => ?_)
  obtain ⟨rfl, rfl⟩ := hw
  obtain ⟨hP1, hK1, hD1⟩ := hB
  rw [ht] at hP1
  exact k _ h H1 locs1 ls ⟨hP1, hD1.weaken (fun _ _ _ q => kj_back hD hS hA _ q), hS1, hl⟩
theorem kj_cSip (F : kj_Fx p s m args meth c cc nL Ts own ret D tys A) {g : Option (Int32)} {f : Int32 → Option β} (hdg : decode cc pc = .ok (.invokestatic index, 3)) (h0 : g.bind f = some rr) (hM : ∀ o, g = some o → kj_Mi l y wsC rmC D tys w z As (o, z)) (cw : CallB R s args own index y bytes maxL retC wsC rmC 0 0 n ∧ (Cond.static y).before args s = true) (hn : As.length = n) (hst : st = As.reverse ++ rest) (hm : (rest.map fun v => v.category).sum ≤ 8) (hf : cells ≤ R.cells ∧ slots ≤ R.slots) (k : ∀ o, f o = some rr → kj_J p l e R s m args below meth c cells slots Q nL D A (w z) (pc + 3) lv (.int o :: rest)) : kj_J p l e R s m args below meth c cells slots Q nL D A (w z) pc lv st := by
  refine kj_bn h0 fun o hg h => ?_
  obtain ⟨hx, hb, hml, hown, hts, hr, hlocks, hK, hA⟩ := F
  intro H locs ls ⟨hP, hD, hS, hl⟩
  refine va_calli (va_runS (As := As) (rest := rest) ⟨hx, hb, hml, hown, hts⟩ (hM o hg H.size) cw (kj_preS hK hP hD) rfl hn hl.1 hst (lv_room hm) hdg hf) hS (fun q _ h => kj_back hD hS hA q h) (kj_back hD hS hA) (fun r u t H1 locs1 ht hvm hw hB hz1 hk1 hS1 => ?_)
  obtain ⟨rfl, rfl⟩ := hw
  obtain ⟨hP1, hK1, hD1⟩ := hB
  rw [ht] at hP1
  exact k _ h H1 locs1 ls ⟨hP1, hD1.weaken (fun _ _ _ q => kj_back hD hS hA _ q), hS1, hl⟩
theorem kj_cSl (F : kj_Fx p s m args meth c cc nL Ts own ret D tys A) {g : Option (Int64 × S)} {f : Int64 × S → Option β} (hdg : decode cc pc = .ok (.invokestatic index, 3)) (h0 : g.bind f = some rr) (hM : ∀ o, g = some o → kj_Ml l y wsC rmC D tys w z As o) (cw : CallB R s args own index y bytes maxL retC wsC rmC 0 0 n ∧ (Cond.static y).before args s = true) (hn : As.length = n) (hst : st = As.reverse ++ rest) (hm : (rest.map fun v => v.category).sum ≤ 8) (hf : cells ≤ R.cells ∧ slots ≤ R.slots) (k : ∀ o, f o = some rr → kj_J p l e R s m args below meth c cells slots Q nL D A (w o.2) (pc + 3) lv (.long o.1 :: rest)) : kj_J p l e R s m args below meth c cells slots Q nL D A (w z) pc lv st := by
  refine kj_bn h0 fun o hg h => ?_
  obtain ⟨hx, hb, hml, hown, hts, hr, hlocks, hK, hA⟩ := F
  intro H locs ls ⟨hP, hD, hS, hl⟩
  refine va_calll (va_runS (As := As) (rest := rest) ⟨hx, hb, hml, hown, hts⟩ (hM o hg H.size) cw (kj_preS hK hP hD) rfl hn hl.1 hst (lv_room hm) hdg hf) hS (fun q _ h => kj_back hD hS hA q h) (kj_back hD hS hA) (fun r u t H1 locs1 ht hvm hw hB hz1 hk1 hS1 => ?_)
  obtain ⟨rfl, rfl⟩ := hw
  obtain ⟨hP1, hK1, hD1⟩ := hB
  rw [ht] at hP1
  exact k _ h H1 locs1 ls ⟨hP1, hD1.weaken (fun _ _ _ q => kj_back hD hS hA _ q), hS1, hl⟩
theorem kj_cSlp (F : kj_Fx p s m args meth c cc nL Ts own ret D tys A) {g : Option (Int64)} {f : Int64 → Option β} (hdg : decode cc pc = .ok (.invokestatic index, 3)) (h0 : g.bind f = some rr) (hM : ∀ o, g = some o → kj_Ml l y wsC rmC D tys w z As (o, z)) (cw : CallB R s args own index y bytes maxL retC wsC rmC 0 0 n ∧ (Cond.static y).before args s = true) (hn : As.length = n) (hst : st = As.reverse ++ rest) (hm : (rest.map fun v => v.category).sum ≤ 8) (hf : cells ≤ R.cells ∧ slots ≤ R.slots) (k : ∀ o, f o = some rr → kj_J p l e R s m args below meth c cells slots Q nL D A (w z) (pc + 3) lv (.long o :: rest)) : kj_J p l e R s m args below meth c cells slots Q nL D A (w z) pc lv st := by
  refine kj_bn h0 fun o hg h => ?_
  obtain ⟨hx, hb, hml, hown, hts, hr, hlocks, hK, hA⟩ := F
  intro H locs ls ⟨hP, hD, hS, hl⟩
  refine va_calll (va_runS (As := As) (rest := rest) ⟨hx, hb, hml, hown, hts⟩ (hM o hg H.size) cw (kj_preS hK hP hD) rfl hn hl.1 hst (lv_room hm) hdg hf) hS (fun q _ h => kj_back hD hS hA q h) (kj_back hD hS hA) (fun r u t H1 locs1 ht hvm hw hB hz1 hk1 hS1 => ?_)
  obtain ⟨rfl, rfl⟩ := hw
  obtain ⟨hP1, hK1, hD1⟩ := hB
  rw [ht] at hP1
  exact k _ h H1 locs1 ls ⟨hP1, hD1.weaken (fun _ _ _ q => kj_back hD hS hA _ q), hS1, hl⟩
theorem kj_cSv (F : kj_Fx p s m args meth c cc nL Ts own ret D tys A) {g : Option (S)} {f : S → Option β} (hdg : decode cc pc = .ok (.invokestatic index, 3)) (h0 : g.bind f = some rr) (hM : ∀ o, g = some o → kj_Mv l y wsC rmC D tys w z As o) (cw : CallB R s args own index y bytes maxL retC wsC rmC 0 0 n ∧ (Cond.static y).before args s = true) (hn : As.length = n) (hst : st = As.reverse ++ rest) (hm : (rest.map fun v => v.category).sum ≤ 8) (hf : cells ≤ R.cells ∧ slots ≤ R.slots) (k : ∀ o, f o = some rr → kj_J p l e R s m args below meth c cells slots Q nL D A (w o) (pc + 3) lv rest) : kj_J p l e R s m args below meth c cells slots Q nL D A (w z) pc lv st := by
  refine kj_bn h0 fun o hg h => ?_
  obtain ⟨hx, hb, hml, hown, hts, hr, hlocks, hK, hA⟩ := F
  intro H locs ls ⟨hP, hD, hS, hl⟩
  refine va_callv (va_runS (As := As) (rest := rest) ⟨hx, hb, hml, hown, hts⟩ (hM o hg H.size) cw (kj_preS hK hP hD) rfl hn hl.1 hst (lv_room hm) hdg hf) hS (fun q _ h => kj_back hD hS hA q h) (kj_back hD hS hA) (fun u t H1 locs1 ht hvm hw hB hz1 hk1 hS1 => ?_)
  subst hw
  obtain ⟨hP1, hK1, hD1⟩ := hB
  rw [ht] at hP1
  exact k _ h H1 locs1 ls ⟨hP1, hD1.weaken (fun _ _ _ q => kj_back hD hS hA _ q), hS1, hl⟩
end KC
