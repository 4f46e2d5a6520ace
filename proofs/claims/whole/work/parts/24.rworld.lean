/-! THE WORLD OF ONE Rows: ten cells side by side, among others. r.1: row; r.2.1 k: under[k]; r.2.2: 0 now, 1 next; each of n places. -/
abbrev kr_S : Type := (Nat → Int32) × (Nat → Nat → Int32) × (Nat → Nat → Int64)
def kr_fs (q : Nat → Nat) : List Value := [.ref (q 0), .ref (q 1), .ref (q 7), .ref (q 8)]
def kr_w (cA : Nat → ClassId) (a0 : Nat) (q : Nat → Nat) (n : Nat) (r : kr_S) : va_W := [(a0, .inr (4, kr_fs q)), (q 0, .inl (cA 0, n, .inl r.1)), (q 1, .inl (cA 5, 5, .inr (.inr (.inr (.inr (fun i => if i < 5 then some (q (i + 2)) else none)))))), (q 2, .inl (cA 0, n, .inl (r.2.1 0))), (q 3, .inl (cA 0, n, .inl (r.2.1 1))), (q 4, .inl (cA 0, n, .inl (r.2.1 2))), (q 5, .inl (cA 0, n, .inl (r.2.1 3))), (q 6, .inl (cA 0, n, .inl (r.2.1 4))), (q 7, .inl (cA 1, n, .inr (.inl (r.2.2 0)))), (q 8, .inl (cA 1, n, .inr (.inl (r.2.2 1))))]
def kr_W (cA : Nat → ClassId) (a0 : Nat) (q : Nat → Nat) (n : Nat) (X Y : va_W) (r : kr_S) : va_W := X ++ (kr_w cA a0 q n r ++ Y)
def kr_ix (i : Int32) : Option Nat := if i < 0 ∨ 5 ≤ i.toNatClampNeg then none else some i.toNatClampNeg
def kr_rd (n : Nat) (r : kr_S) (i : Int32) : Option Int32 := if i < 0 ∨ n ≤ i.toNatClampNeg then none else some (r.1 i.toNatClampNeg)
def kr_wd (n : Nat) (r : kr_S) (i v : Int32) : Option kr_S := if i < 0 ∨ n ≤ i.toNatClampNeg then none else some (upd r.1 i.toNatClampNeg v, r.2)
def kr_ru (n : Nat) (r : kr_S) (k : Nat) (i : Int32) : Option Int32 := if i < 0 ∨ n ≤ i.toNatClampNeg then none else some (r.2.1 k i.toNatClampNeg)
def kr_wu (n : Nat) (r : kr_S) (k : Nat) (i v : Int32) : Option kr_S := if i < 0 ∨ n ≤ i.toNatClampNeg then none else some (r.1, va_up r.2.1 k (upd (r.2.1 k) i.toNatClampNeg v), r.2.2)
def kr_rl (n : Nat) (r : kr_S) (k : Nat) (i : Int32) : Option Int64 := if i < 0 ∨ n ≤ i.toNatClampNeg then none else some (r.2.2 k i.toNatClampNeg)
def kr_wl (n : Nat) (r : kr_S) (k : Nat) (i : Int32) (v : Int64) : Option kr_S := if i < 0 ∨ n ≤ i.toNatClampNeg then none else some (r.1, r.2.1, va_up r.2.2 k (vp_updL (r.2.2 k) i.toNatClampNeg v))
def kr_cp (n : Nat) (r : kr_S) (sp dp len : Int32) : Option kr_S := if sp < 0 ∨ dp < 0 ∨ len < 0 ∨ n < sp.toNatClampNeg + len.toNatClampNeg ∨ n < dp.toNatClampNeg + len.toNatClampNeg then none else some (r.1, r.2.1, va_up r.2.2 0 (va_cpy (r.2.2 1) (r.2.2 0) sp.toNatClampNeg dp.toNatClampNeg len.toNatClampNeg))
theorem kr_pos {cA : Nat → ClassId} {a0 : Nat} {q : Nat → Nat} {n : Nat} {X Y : va_W} {r : kr_S} {j : Nat} {x : Nat × va_E} (h : (kr_w cA a0 q n r)[j]? = some x) : (kr_W cA a0 q n X Y r)[X.length + j]? = some x := by
  unfold kr_W
  rw [List.getElem?_append_right (Nat.le_add_right _ _), Nat.add_sub_cancel_left, List.getElem?_append_left (List.getElem?_eq_some_iff.mp h).1]
  exact h
theorem kr_setp {cA : Nat → ClassId} {a0 : Nat} {q : Nat → Nat} {n : Nat} {X Y : va_W} {r r' : kr_S} {j : Nat} {x : Nat × va_E} (hj : j < 10) (h : (kr_w cA a0 q n r).set j x = kr_w cA a0 q n r') : (kr_W cA a0 q n X Y r).set (X.length + j) x = kr_W cA a0 q n X Y r' := by
  unfold kr_W
  rw [List.set_append_right _ _ (Nat.le_add_right _ _), Nat.add_sub_cancel_left, List.set_append_left _ _ (show j < 10 from hj), h]
theorem kr_atU (cA : Nat → ClassId) (a0 : Nat) (q : Nat → Nat) (n : Nat) (r : kr_S) : ∀ k, k < 5 → (kr_w cA a0 q n r)[k + 3]? = some (q (k + 2), .inl (cA 0, n, .inl (r.2.1 k)))
  | 0, _ => rfl
  | 1, _ => rfl
  | 2, _ => rfl
  | 3, _ => rfl
  | 4, _ => rfl
  | n + 5, h => absurd h (by omega)
theorem kr_setU (cA : Nat → ClassId) (a0 : Nat) (q : Nat → Nat) (n : Nat) (r : kr_S) (f : Nat → Int32) : ∀ k, k < 5 → (kr_w cA a0 q n r).set (k + 3) (q (k + 2), .inl (cA 0, n, .inl f)) = kr_w cA a0 q n (r.1, va_up r.2.1 k f, r.2.2)
  | 0, _ => rfl
  | 1, _ => rfl
  | 2, _ => rfl
  | 3, _ => rfl
  | 4, _ => rfl
  | n + 5, h => absurd h (by omega)
theorem kr_atJ (cA : Nat → ClassId) (a0 : Nat) (q : Nat → Nat) (n : Nat) (r : kr_S) : ∀ k, k < 2 → (kr_w cA a0 q n r)[k + 8]? = some (q (k + 7), .inl (cA 1, n, .inr (.inl (r.2.2 k))))
  | 0, _ => rfl
  | 1, _ => rfl
  | n + 2, h => absurd h (by omega)
theorem kr_setJ (cA : Nat → ClassId) (a0 : Nat) (q : Nat → Nat) (n : Nat) (r : kr_S) (f : Nat → Int64) : ∀ k, k < 2 → (kr_w cA a0 q n r).set (k + 8) (q (k + 7), .inl (cA 1, n, .inr (.inl f))) = kr_w cA a0 q n (r.1, r.2.1, va_up r.2.2 k f)
  | 0, _ => rfl
  | 1, _ => rfl
  | n + 2, h => absurd h (by omega)
section KRW
variable {p : Program} {l : Launch} {e : Env} {R : Room} {s : State} {m : MethodId} {args : Array Value} {below : List Frame} {meth : Method} {c : Code} {cells slots : Nat} {Q : State → Prop} {cc : ByteArray} {nL : Nat} {Ts : List Cond} {own : String} {ret : Option FieldType} {D : va_G} {A : Nat → Prop} {pc : Nat} {lv : List (Nat × Value)} {rest : List Value} {cA : Nat → ClassId} {a0 n : Nat} {q : Nat → Nat} {X Y : va_W} {r : kr_S} {β : Type} {rr : β}
theorem kr_get (F : kj_Fx p s m args meth c cc nL Ts own ret D (kx_T cA) A) {index : Nat} {v : Value} (hdg : decode cc pc = .ok (.getfield index, 3)) (hin : ∀ w ∈ u_ws RX4 TX4 4, w ∈ Ts) (kf : Nat) (hk : kf < 4) (hlink : Cond.fieldLink own index RX4 (TX4 kf).2.1 (TX4 kf).2.2.1 ∈ Ts) (hsame : (TX4 kf).1 = RX4) (hv : (kr_fs q)[kf]? = some v) (k : kj_J p l e R s m args below meth c cells slots Q nL D A (kr_W cA a0 q n X Y r) (pc + 3) lv (v :: rest)) : kj_J p l e R s m args below meth c cells slots Q nL D A (kr_W cA a0 q n X Y r) pc lv (.ref a0 :: rest) :=
  kj_get F hdg hin _ (kr_pos (j := 0) rfl) rfl kf hk hlink hsame hv k
theorem kr_rald (F : kj_Fx p s m args meth c cc nL Ts own ret D (kx_T cA) A) {i : Int32} {f : Int32 → Option β} (hdg : decode cc pc = .ok (.iaload, 1)) (h : (kr_rd n r i).bind f = some rr) (kk : ∀ v, f v = some rr → kj_J p l e R s m args below meth c cells slots Q nL D A (kr_W cA a0 q n X Y r) (pc + 1) lv (.int v :: rest)) : kj_J p l e R s m args below meth c cells slots Q nL D A (kr_W cA a0 q n X Y r) pc lv (.int i :: .ref (q 0) :: rest) :=
  kj_bn h fun v h1 h2 => kj_ifn h1 fun hc h1 => by cases h1; exact kj_iald F hdg _ 0 (kr_pos (j := 1) rfl) rfl hc (kk _ h2)
theorem kr_rast (F : kj_Fx p s m args meth c cc nL Ts own ret D (kx_T cA) A) {i x : Int32} {f : kr_S → Option β} (hdg : decode cc pc = .ok (.iastore, 1)) (h : (kr_wd n r i x).bind f = some rr) (kk : ∀ r1, f r1 = some rr → kj_J p l e R s m args below meth c cells slots Q nL D A (kr_W cA a0 q n X Y r1) (pc + 1) lv rest) : kj_J p l e R s m args below meth c cells slots Q nL D A (kr_W cA a0 q n X Y r) pc lv (.int x :: .int i :: .ref (q 0) :: rest) :=
  kj_bn h fun v h1 h2 => kj_ifn h1 fun hc h1 => by cases h1; exact kj_iast F hdg _ 0 (kr_pos (j := 1) rfl) rfl hc (kr_setp (by decide) rfl) (kk _ h2)
theorem kr_oald (F : kj_Fx p s m args meth c cc nL Ts own ret D (kx_T cA) A) {i : Int32} {f : Nat → Option β} (hdg : decode cc pc = .ok (.aaload, 1)) (h : (kr_ix i).bind f = some rr) (kk : ∀ k, k < 5 → f k = some rr → kj_J p l e R s m args below meth c cells slots Q nL D A (kr_W cA a0 q n X Y r) (pc + 1) lv (.ref (q (k + 2)) :: rest)) : kj_J p l e R s m args below meth c cells slots Q nL D A (kr_W cA a0 q n X Y r) pc lv (.int i :: .ref (q 1) :: rest) := by
  refine kj_bn h fun v h1 h2 => kj_ifn h1 fun hc h1 => ?_
  cases h1
  have hlt : i.toNatClampNeg < 5 := Nat.not_le.mp fun q => hc (Or.inr q)
  refine kj_aald F hdg _ 5 (kr_pos (j := 2) rfl) rfl rfl hc ?_
  rw [if_pos hlt]
  exact kk _ hlt h2
theorem kr_uald (F : kj_Fx p s m args meth c cc nL Ts own ret D (kx_T cA) A) {i : Int32} {f : Int32 → Option β} (hdg : decode cc pc = .ok (.iaload, 1)) (k : Nat) (hk : k < 5) (h : (kr_ru n r k i).bind f = some rr) (kk : ∀ v, f v = some rr → kj_J p l e R s m args below meth c cells slots Q nL D A (kr_W cA a0 q n X Y r) (pc + 1) lv (.int v :: rest)) : kj_J p l e R s m args below meth c cells slots Q nL D A (kr_W cA a0 q n X Y r) pc lv (.int i :: .ref (q (k + 2)) :: rest) :=
  kj_bn h fun v h1 h2 => kj_ifn h1 fun hc h1 => by cases h1; exact kj_iald F hdg _ 0 (kr_pos (kr_atU cA a0 q n r k hk)) rfl hc (kk _ h2)
theorem kr_uast (F : kj_Fx p s m args meth c cc nL Ts own ret D (kx_T cA) A) {i x : Int32} {f : kr_S → Option β} (hdg : decode cc pc = .ok (.iastore, 1)) (k : Nat) (hk : k < 5) (h : (kr_wu n r k i x).bind f = some rr) (kk : ∀ r1, f r1 = some rr → kj_J p l e R s m args below meth c cells slots Q nL D A (kr_W cA a0 q n X Y r1) (pc + 1) lv rest) : kj_J p l e R s m args below meth c cells slots Q nL D A (kr_W cA a0 q n X Y r) pc lv (.int x :: .int i :: .ref (q (k + 2)) :: rest) :=
  kj_bn h fun v h1 h2 => kj_ifn h1 fun hc h1 => by cases h1; exact kj_iast F hdg _ 0 (kr_pos (kr_atU cA a0 q n r k hk)) rfl hc (kr_setp (by omega) (kr_setU cA a0 q n r _ k hk)) (kk _ h2)
theorem kr_lald (F : kj_Fx p s m args meth c cc nL Ts own ret D (kx_T cA) A) {i : Int32} {f : Int64 → Option β} (hdg : decode cc pc = .ok (.laload, 1)) (k : Nat) (hk : k < 2) (h : (kr_rl n r k i).bind f = some rr) (kk : ∀ v, f v = some rr → kj_J p l e R s m args below meth c cells slots Q nL D A (kr_W cA a0 q n X Y r) (pc + 1) lv (.long v :: rest)) : kj_J p l e R s m args below meth c cells slots Q nL D A (kr_W cA a0 q n X Y r) pc lv (.int i :: .ref (q (k + 7)) :: rest) :=
  kj_bn h fun v h1 h2 => kj_ifn h1 fun hc h1 => by cases h1; exact kj_lald F hdg _ 1 (kr_pos (kr_atJ cA a0 q n r k hk)) rfl hc (kk _ h2)
theorem kr_last (F : kj_Fx p s m args meth c cc nL Ts own ret D (kx_T cA) A) {i : Int32} {x : Int64} {f : kr_S → Option β} (hdg : decode cc pc = .ok (.lastore, 1)) (k : Nat) (hk : k < 2) (h : (kr_wl n r k i x).bind f = some rr) (kk : ∀ r1, f r1 = some rr → kj_J p l e R s m args below meth c cells slots Q nL D A (kr_W cA a0 q n X Y r1) (pc + 1) lv rest) : kj_J p l e R s m args below meth c cells slots Q nL D A (kr_W cA a0 q n X Y r) pc lv (.long x :: .int i :: .ref (q (k + 7)) :: rest) :=
  kj_bn h fun v h1 h2 => kj_ifn h1 fun hc h1 => by cases h1; exact kj_last F hdg _ 1 (kr_pos (kr_atJ cA a0 q n r k hk)) rfl hc (kr_setp (by omega) (kr_setJ cA a0 q n r _ k hk)) (kk _ h2)
theorem kr_rlen (F : kj_Fx p s m args meth c cc nL Ts own ret D (kx_T cA) A) (hdg : decode cc pc = .ok (.arraylength, 1)) (k : kj_J p l e R s m args below meth c cells slots Q nL D A (kr_W cA a0 q n X Y r) (pc + 1) lv (.int (nI n) :: rest)) : kj_J p l e R s m args below meth c cells slots Q nL D A (kr_W cA a0 q n X Y r) pc lv (.ref (q 0) :: rest) :=
  kj_alen F hdg _ 0 (kr_pos (j := 1) rfl) rfl k
theorem kr_nlen (F : kj_Fx p s m args meth c cc nL Ts own ret D (kx_T cA) A) (hdg : decode cc pc = .ok (.arraylength, 1)) (kq : Nat) (hk : kq < 2) (k : kj_J p l e R s m args below meth c cells slots Q nL D A (kr_W cA a0 q n X Y r) (pc + 1) lv (.int (nI n) :: rest)) : kj_J p l e R s m args below meth c cells slots Q nL D A (kr_W cA a0 q n X Y r) pc lv (.ref (q (kq + 7)) :: rest) :=
  kj_alen F hdg _ 1 (kr_pos (kr_atJ cA a0 q n r kq hk)) rfl k
theorem kr_copy (F : kj_Fx p s m args meth c cc nL Ts own ret D (kx_T cA) A) {index : Nat} {sp dp len : Int32} {f : kr_S → Option β} (hdg : decode cc pc = .ok (.invokestatic index, 3)) (hl : Cond.methodLink own index arraycopyName ∈ Ts) (hn : Cond.native arraycopyName ∈ Ts) (hs : Cond.static arraycopyName ∈ Ts) (hi : Cond.initialized "java/lang/System" ∈ Ts) (hfr : 1 ≤ R.frames) (hlo : (rest.map fun v => v.category).sum + (nativeFrameWords "java/lang/System" "arraycopy" 5 + 11) ≤ R.locals) (h : (kr_cp n r sp dp len).bind f = some rr) (kk : ∀ r1, f r1 = some rr → kj_J p l e R s m args below meth c cells slots Q nL D A (kr_W cA a0 q n X Y r1) (pc + 3) lv rest) : kj_J p l e R s m args below meth c cells slots Q nL D A (kr_W cA a0 q n X Y r) pc lv (.int len :: .int dp :: .ref (q (0 + 7)) :: .int sp :: .ref (q (1 + 7)) :: rest) := by
  refine kj_bn h fun v h1 h2 => kj_ifn h1 fun hc h1 => ?_
  cases h1
  intro H locs ls h
  refine va_copyl (D := D) (ty := .long) F.1 F.2.1 (F.2.2.1.trans h.2.2.2.1.symm) F.2.2.2.1 (F.2.2.2.2.1 _ hl) (F.2.2.2.2.1 _ hn) (F.2.2.2.2.1 _ hs) (F.2.2.2.2.1 _ hi) F.2.2.2.2.2.2.2.1 h.1 h.2.1 h.2.2.1 _ _ 1 1 (kr_pos (kr_atJ cA a0 q n r 1 (by decide))) (kr_pos (kr_atJ cA a0 q n r 0 (by decide))) rfl rfl rfl (fun x => hc (Or.inl x)) (fun x => hc (Or.inr (Or.inl x))) (fun x => hc (Or.inr (Or.inr (Or.inl x)))) (Nat.not_lt.mp fun x => hc (Or.inr (Or.inr (Or.inr (Or.inl x))))) (Nat.not_lt.mp fun x => hc (Or.inr (Or.inr (Or.inr (Or.inr x))))) (fun _ _ => rfl) hfr hlo hdg (fun H1 locs1 hP hD hS => ?_)
  have e := kr_setp (cA := cA) (a0 := a0) (q := q) (n := n) (X := X) (Y := Y) (r := r) (j := 0 + 8) (by decide) (kr_setJ cA a0 q n r (va_cpy (r.2.2 1) (r.2.2 0) sp.toNatClampNeg dp.toNatClampNeg len.toNatClampNeg) 0 (by decide))
  exact kk _ h2 H1 locs1 ls ⟨e ▸ hP, e ▸ hD, hS, h.2.2.2⟩
end KRW
