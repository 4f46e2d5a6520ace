def kj_wa (n : Nat) (f : Nat → Int32) (i v : Int32) : Option (Nat → Int32) := if i < 0 ∨ n ≤ i.toNatClampNeg then none else some (upd f i.toNatClampNeg v)
def kj_wb (n : Nat) (f : Nat → Int64) (i : Int32) (v : Int64) : Option (Nat → Int64) := if i < 0 ∨ n ≤ i.toNatClampNeg then none else some (vp_updL f i.toNatClampNeg v)
theorem kj_upf {α : Type} (f : Nat → α) (k : Nat) : va_up f k (f k) = f := by
  funext j; by_cases h : j = k
  · subst h; exact va_up_self _ _ _
  · exact va_up_ne _ _ h
theorem kr_lensU {cA : Nat → ClassId} {a0 n : Nat} {q : Nat → Nat} {X Y : va_W} (r : kr_S) {k : Nat} (hk : k < 5) : kr_W cA a0 q n X Y r = (fun f => kr_W cA a0 q n X Y (r.1, va_up r.2.1 k f, r.2.2)) (r.2.1 k) ∧ (∀ f, ((fun f => kr_W cA a0 q n X Y (r.1, va_up r.2.1 k f, r.2.2)) f)[X.length + (k + 3)]? = some (q (k + 2), .inl (cA 0, n, .inl f))) ∧ (∀ f g, ((fun f => kr_W cA a0 q n X Y (r.1, va_up r.2.1 k f, r.2.2)) f).set (X.length + (k + 3)) (q (k + 2), .inl (cA 0, n, .inl g)) = (fun f => kr_W cA a0 q n X Y (r.1, va_up r.2.1 k f, r.2.2)) g) := by
  refine ⟨?_, fun f => ?_, fun f g => ?_⟩
  · show _ = kr_W cA a0 q n X Y (r.1, va_up r.2.1 k (r.2.1 k), r.2.2); rw [kj_upf]
  · have h := kr_pos (X := X) (Y := Y) (kr_atU cA a0 q n (r.1, va_up r.2.1 k f, r.2.2) k hk)
    rw [show (r.1, va_up r.2.1 k f, r.2.2).2.1 k = f from va_up_self _ _ _] at h
    exact h
  · have h := kr_setp (X := X) (Y := Y) (by omega) (kr_setU cA a0 q n (r.1, va_up r.2.1 k f, r.2.2) g k hk)
    rw [show va_up (r.1, va_up r.2.1 k f, r.2.2).2.1 k g = va_up r.2.1 k g from bx_uu _ _ _ _] at h
    exact h
theorem kr_lensJ {cA : Nat → ClassId} {a0 n : Nat} {q : Nat → Nat} {X Y : va_W} (r : kr_S) {k : Nat} (hk : k < 2) : kr_W cA a0 q n X Y r = (fun f => kr_W cA a0 q n X Y (r.1, r.2.1, va_up r.2.2 k f)) (r.2.2 k) ∧ (∀ f, ((fun f => kr_W cA a0 q n X Y (r.1, r.2.1, va_up r.2.2 k f)) f)[X.length + (k + 8)]? = some (q (k + 7), .inl (cA 1, n, .inr (.inl f)))) ∧ (∀ f g, ((fun f => kr_W cA a0 q n X Y (r.1, r.2.1, va_up r.2.2 k f)) f).set (X.length + (k + 8)) (q (k + 7), .inl (cA 1, n, .inr (.inl g))) = (fun f => kr_W cA a0 q n X Y (r.1, r.2.1, va_up r.2.2 k f)) g) := by
  refine ⟨?_, fun f => ?_, fun f g => ?_⟩
  · show _ = kr_W cA a0 q n X Y (r.1, r.2.1, va_up r.2.2 k (r.2.2 k)); rw [kj_upf]
  · have h := kr_pos (X := X) (Y := Y) (kr_atJ cA a0 q n (r.1, r.2.1, va_up r.2.2 k f) k hk)
    rw [show (r.1, r.2.1, va_up r.2.2 k f).2.2 k = f from va_up_self _ _ _] at h
    exact h
  · have h := kr_setp (X := X) (Y := Y) (by omega) (kr_setJ cA a0 q n (r.1, r.2.1, va_up r.2.2 k f) g k hk)
    rw [show va_up (r.1, r.2.1, va_up r.2.2 k f).2.2 k g = va_up r.2.2 k g from bx_uu _ _ _ _] at h
    exact h
theorem kj_fia {p : Program} {l : Launch} {e : Env} {R : Room} {s : State} {m : MethodId} {args : Array Value} {below : List Frame} {meth : Method} {c : Code} {cells slots : Nat} {Q : State → Prop} {cc : ByteArray} {nL : Nat} {Ts : List Cond} {own : String} {ret : Option FieldType} {D : va_G} {tys : List (ClassId × FieldType)} {A : Nat → Prop} {pc : Nat} {lv : List (Nat × Value)} {rest : List Value} {β : Type} {rr : β} {W : (Nat → Int32) → va_W} {a q0 t0 n : Nat} {cB : ClassId} {f : Nat → Int32} {i : Int32} {x : Int32} {g : (Nat → Int32) → Option β} (F : kj_Fx p s m args meth c cc nL Ts own ret D tys A) (hdg : decode cc pc = .ok (.iastore, 1)) (hL1 : ∀ f, (W f)[q0]? = some (a, .inl (cB, n, .inl f))) (hL2 : ∀ f g, (W f).set q0 (a, .inl (cB, n, .inl g)) = W g) (ht : tys[t0]? = some (cB, .int)) (h : (kj_wa n f i x).bind g = some rr) (kk : ∀ f1, g f1 = some rr → kj_J p l e R s m args below meth c cells slots Q nL D A (W f1) (pc + 1) lv rest) : kj_J p l e R s m args below meth c cells slots Q nL D A (W f) pc lv (.int x :: .int i :: .ref a :: rest) :=
  kj_bn h fun v h1 h2 => kj_ifn h1 fun hc h1 => by cases h1; exact kj_iast F hdg q0 t0 (hL1 _) ht hc (hL2 _ _) (kk _ h2)
theorem kj_fib {p : Program} {l : Launch} {e : Env} {R : Room} {s : State} {m : MethodId} {args : Array Value} {below : List Frame} {meth : Method} {c : Code} {cells slots : Nat} {Q : State → Prop} {cc : ByteArray} {nL : Nat} {Ts : List Cond} {own : String} {ret : Option FieldType} {D : va_G} {tys : List (ClassId × FieldType)} {A : Nat → Prop} {pc : Nat} {lv : List (Nat × Value)} {rest : List Value} {β : Type} {rr : β} {W : (Nat → Int64) → va_W} {a q0 t0 n : Nat} {cB : ClassId} {f : Nat → Int64} {i : Int32} {x : Int64} {g : (Nat → Int64) → Option β} (F : kj_Fx p s m args meth c cc nL Ts own ret D tys A) (hdg : decode cc pc = .ok (.lastore, 1)) (hL1 : ∀ f, (W f)[q0]? = some (a, .inl (cB, n, .inr (.inl f)))) (hL2 : ∀ f g, (W f).set q0 (a, .inl (cB, n, .inr (.inl g))) = W g) (ht : tys[t0]? = some (cB, .long)) (h : (kj_wb n f i x).bind g = some rr) (kk : ∀ f1, g f1 = some rr → kj_J p l e R s m args below meth c cells slots Q nL D A (W f1) (pc + 1) lv rest) : kj_J p l e R s m args below meth c cells slots Q nL D A (W f) pc lv (.long x :: .int i :: .ref a :: rest) :=
  kj_bn h fun v h1 h2 => kj_ifn h1 fun hc h1 => by cases h1; exact kj_last F hdg q0 t0 (hL1 _) ht hc (hL2 _ _) (kk _ h2)
/-! J7_fill_53178 -/
abbrev rm_J7_fill_53178 : Room := { frames := 0, cells := 0, slots := 0, locals := 0 }
def fj_fill_53178_5 (n : Nat) (x1 : Int32) (x2 : Int32) (x3 : Int32) (z : (Nat → Int32)) : Option ((Int32 × Int32 × Int32 × (Nat → Int32)) ⊕ (Nat → Int32)) :=
  if x3 ≤ x2 then
  some (.inr z)
  else
  (kj_wa n z x2 x1).bind fun z1 =>
  some (.inl (x1, (x2 + 1), x3, z1))
def lj_fill_53178_5 (n : Nat) (fu : Nat) (x1 : Int32) (x2 : Int32) (x3 : Int32) (z : (Nat → Int32)) : Option (Nat → Int32) :=
  kj_it (fun (s : (Int32 × Int32 × Int32 × (Nat → Int32))) => fj_fill_53178_5 n (s.1) (s.2.1) (s.2.2.1) (s.2.2.2)) fu (x1, x2, x3, z)
def fj_fill_53178 (n : Nat) (x1 : Int32) (z : (Nat → Int32)) : Option (Nat → Int32) :=
  (lj_fill_53178_5 n 5000 x1 (0 : Int32) (nI n) z).bind fun r1 =>
  some (r1)
set_option maxRecDepth 20000 in
theorem jj_fill_53178_5 {p : Program} {l : Launch} {e : Env} {s : State} {m : MethodId} {args : Array Value} {below : List Frame} {meth : Method} {c : Code} {A : Nat → Prop} {D : va_G} {tys : List (ClassId × FieldType)} {W : (Nat → Int32) → va_W} {a q0 t0 n : Nat} {cB : ClassId} {Q : State → Prop} (F : kj_Fx p s m args meth c cJ7_fill_53178 4 wsJ7_fill_53178 RJ7 none D tys A) (hL1 : ∀ f, (W f)[q0]? = some (a, .inl (cB, n, .inl f))) (hL2 : ∀ f g, (W f).set q0 (a, .inl (cB, n, .inl g)) = W g) (ht : tys[t0]? = some (cB, .int)) {x1 : Int32} {x2 : Int32} {x3 : Int32} {z : (Nat → Int32)} {o : ((Int32 × Int32 × Int32 × (Nat → Int32)) ⊕ (Nat → Int32))} (h : fj_fill_53178_5 n x1 x2 x3 z = some o) (kb : ∀ (a0' : Int32) (a1' : Int32) (a2' : Int32) (a3' : (Nat → Int32)), o = .inl (a0', a1', a2', a3') → kj_J p l e rm_J7_fill_53178 s m args below meth c 0 0 Q 4 D A (W a3') 5 [(0, .ref a), (1, .int a0'), (2, .int a1'), (3, .int a2')] []) (ke0 : ∀ (a0' : (Nat → Int32)), o = .inr a0' → kj_J p l e rm_J7_fill_53178 s m args below meth c 0 0 Q 4 D A (W a0') 20 [] []) : kj_J p l e rm_J7_fill_53178 s m args below meth c 0 0 Q 4 D A (W z) 5 [(0, .ref a), (1, .int x1), (2, .int x2), (3, .int x3)] [] := by
  unfold fj_fill_53178_5 at h
  refine kj_iload_n F dJ7_fill_53178_5 2 rfl rfl ?_
  refine kj_iload_n F dJ7_fill_53178_6 3 rfl rfl ?_
  refine kj_icmp_ge F dJ7_fill_53178_7 (tgt := 20) (by decide) h (fun hc h => ?_) (fun hc h => ?_)
  · refine kj_J.sub [] rfl ?_
    exact ke0 z (Option.some.inj h).symm
  · refine kj_aload_n F dJ7_fill_53178_10 0 rfl rfl ?_
    refine kj_iload_n F dJ7_fill_53178_11 2 rfl rfl ?_
    refine kj_iload_n F dJ7_fill_53178_12 1 rfl rfl ?_
    refine kj_fia F dJ7_fill_53178_13 hL1 hL2 ht h (fun z1 h => ?_)
    refine kj_iinc F dJ7_fill_53178_14 2 rfl (v := 1) (by decide) (by decide) (lv' := [(2, .int (x2 + 1)), (0, .ref a), (1, .int x1), (3, .int x3)]) rfl ?_
    refine kj_goto F dJ7_fill_53178_17 (tgt := 5) (by decide) ?_
    refine kj_J.sub [1, 2, 0, 3] rfl ?_
    exact kb x1 (x2 + 1) x3 z1 (Option.some.inj h).symm
theorem jlj_fill_53178_5 {p : Program} {l : Launch} {e : Env} {s : State} {m : MethodId} {args : Array Value} {below : List Frame} {meth : Method} {c : Code} {A : Nat → Prop} {D : va_G} {tys : List (ClassId × FieldType)} {W : (Nat → Int32) → va_W} {a q0 t0 n : Nat} {cB : ClassId} {Q : State → Prop} (F : kj_Fx p s m args meth c cJ7_fill_53178 4 wsJ7_fill_53178 RJ7 none D tys A) (hL1 : ∀ f, (W f)[q0]? = some (a, .inl (cB, n, .inl f))) (hL2 : ∀ f g, (W f).set q0 (a, .inl (cB, n, .inl g)) = W g) (ht : tys[t0]? = some (cB, .int)) {fu : Nat} {x1 : Int32} {x2 : Int32} {x3 : Int32} {z : (Nat → Int32)} {r : (Nat → Int32)} (h : lj_fill_53178_5 n fu x1 x2 x3 z = some r) (ke : kj_J p l e rm_J7_fill_53178 s m args below meth c 0 0 Q 4 D A (W (r)) 20 [] []) : kj_J p l e rm_J7_fill_53178 s m args below meth c 0 0 Q 4 D A (W z) 5 [(0, .ref a), (1, .int x1), (2, .int x2), (3, .int x3)] [] :=
  kj_it_J (Wh := fun (u : (Int32 × Int32 × Int32 × (Nat → Int32))) => kj_J p l e rm_J7_fill_53178 s m args below meth c 0 0 Q 4 D A (W (u.2.2.2)) 5 [(0, .ref a), (1, .int (u.1)), (2, .int (u.2.1)), (3, .int (u.2.2.1))] []) (We := fun r => kj_J p l e rm_J7_fill_53178 s m args below meth c 0 0 Q 4 D A (W (r)) 20 [] []) (fun u o h kb ke => jj_fill_53178_5 F hL1 hL2 ht h (fun a0' a1' a2' a3' e => kb (a0', a1', a2', a3') e) (fun a0' e => ke a0' e)) fu (x1, x2, x3, z) r h ke
set_option maxRecDepth 20000 in
theorem jj_fill_53178 {p : Program} {l : Launch} {e : Env} {s : State} {m : MethodId} {args : Array Value} {below : List Frame} {meth : Method} {c : Code} {A : Nat → Prop} {D : va_G} {tys : List (ClassId × FieldType)} {W : (Nat → Int32) → va_W} {a q0 t0 n : Nat} {cB : ClassId} (F : kj_Fx p s m args meth c cJ7_fill_53178 4 wsJ7_fill_53178 RJ7 none D tys A) (hL1 : ∀ f, (W f)[q0]? = some (a, .inl (cB, n, .inl f))) (hL2 : ∀ f g, (W f).set q0 (a, .inl (cB, n, .inl g)) = W g) (ht : tys[t0]? = some (cB, .int)) {x1 : Int32} {z : (Nat → Int32)} {o : (Nat → Int32)} (h : fj_fill_53178 n x1 z = some o) : kj_J p l e rm_J7_fill_53178 s m args below meth c 0 0 (MQ below (kj_Qv D tys A W o) args s 0 0 A) 4 D A (W z) 0 [(0, .ref a), (1, .int x1)] [] := by
  unfold fj_fill_53178 at h
  refine kj_iconst F dJ7_fill_53178_0 (v := 0) (by decide) ?_
  refine kj_istore_n F dJ7_fill_53178_1 (lv' := [(2, .int (0 : Int32)), (0, .ref a), (1, .int x1)]) rfl (by decide) rfl ?_
  refine kj_aload_n F dJ7_fill_53178_2 1 rfl rfl ?_
  refine kj_alen F dJ7_fill_53178_3 q0 t0 (hL1 _) ht ?_
  refine kj_istore_n F dJ7_fill_53178_4 (lv' := [(3, .int (nI n)), (2, .int (0 : Int32)), (0, .ref a), (1, .int x1)]) rfl (by decide) rfl ?_
  refine kj_J.sub [2, 3, 1, 0] rfl ?_
  refine kj_bn h (fun r1 h1 h => ?_)
  refine jlj_fill_53178_5 F hL1 hL2 ht h1 ?_
  exact kj_vret F dJ7_fill_53178_20 h
theorem cj_fill_53178 {l : Launch} {D : va_G} {tys : List (ClassId × FieldType)} {W : (Nat → Int32) → va_W} {a q0 t0 n : Nat} {cB : ClassId} (hL1 : ∀ f, (W f)[q0]? = some (a, .inl (cB, n, .inl f))) (hL2 : ∀ f g, (W f).set q0 (a, .inl (cB, n, .inl g)) = W g) (ht : tys[t0]? = some (cB, .int)) {x1 : Int32} {z : (Nat → Int32)} {o : (Nat → Int32)} (h : fj_fill_53178 n x1 z = some o) : kj_Mv l yJ7_fill_53178 wsJ7_fill_53178 rm_J7_fill_53178 D tys W z [.ref a, .int x1] o :=
  fun sz => kj_start (by decide) rfl (Nat.le_of_ble_eq_true rfl) rfl fun p e s m args below meth c hsz F => jj_fill_53178 F hL1 hL2 ht h
/-! J7_fill_d0a16 -/
abbrev rm_J7_fill_d0a16 : Room := { frames := 0, cells := 0, slots := 0, locals := 0 }
def fj_fill_d0a16_6 (n : Nat) (x1 : Int64) (x3 : Int32) (x4 : Int32) (z : (Nat → Int64)) : Option ((Int64 × Int32 × Int32 × (Nat → Int64)) ⊕ (Nat → Int64)) :=
  if x4 ≤ x3 then
  some (.inr z)
  else
  (kj_wb n z x3 x1).bind fun z1 =>
  some (.inl (x1, (x3 + 1), x4, z1))
def lj_fill_d0a16_6 (n : Nat) (fu : Nat) (x1 : Int64) (x3 : Int32) (x4 : Int32) (z : (Nat → Int64)) : Option (Nat → Int64) :=
  kj_it (fun (s : (Int64 × Int32 × Int32 × (Nat → Int64))) => fj_fill_d0a16_6 n (s.1) (s.2.1) (s.2.2.1) (s.2.2.2)) fu (x1, x3, x4, z)
def fj_fill_d0a16 (n : Nat) (x1 : Int64) (z : (Nat → Int64)) : Option (Nat → Int64) :=
  (lj_fill_d0a16_6 n 5000 x1 (0 : Int32) (nI n) z).bind fun r1 =>
  some (r1)
set_option maxRecDepth 20000 in
theorem jj_fill_d0a16_6 {p : Program} {l : Launch} {e : Env} {s : State} {m : MethodId} {args : Array Value} {below : List Frame} {meth : Method} {c : Code} {A : Nat → Prop} {D : va_G} {tys : List (ClassId × FieldType)} {W : (Nat → Int64) → va_W} {a q0 t0 n : Nat} {cB : ClassId} {Q : State → Prop} (F : kj_Fx p s m args meth c cJ7_fill_d0a16 5 wsJ7_fill_d0a16 RJ7 none D tys A) (hL1 : ∀ f, (W f)[q0]? = some (a, .inl (cB, n, .inr (.inl f)))) (hL2 : ∀ f g, (W f).set q0 (a, .inl (cB, n, .inr (.inl g))) = W g) (ht : tys[t0]? = some (cB, .long)) {x1 : Int64} {x3 : Int32} {x4 : Int32} {z : (Nat → Int64)} {o : ((Int64 × Int32 × Int32 × (Nat → Int64)) ⊕ (Nat → Int64))} (h : fj_fill_d0a16_6 n x1 x3 x4 z = some o) (kb : ∀ (a0' : Int64) (a1' : Int32) (a2' : Int32) (a3' : (Nat → Int64)), o = .inl (a0', a1', a2', a3') → kj_J p l e rm_J7_fill_d0a16 s m args below meth c 0 0 Q 5 D A (W a3') 6 [(0, .ref a), (1, .long a0'), (3, .int a1'), (4, .int a2')] []) (ke0 : ∀ (a0' : (Nat → Int64)), o = .inr a0' → kj_J p l e rm_J7_fill_d0a16 s m args below meth c 0 0 Q 5 D A (W a0') 22 [] []) : kj_J p l e rm_J7_fill_d0a16 s m args below meth c 0 0 Q 5 D A (W z) 6 [(0, .ref a), (1, .long x1), (3, .int x3), (4, .int x4)] [] := by
  unfold fj_fill_d0a16_6 at h
  refine kj_iload_n F dJ7_fill_d0a16_6 2 rfl rfl ?_
  refine kj_iload F dJ7_fill_d0a16_7 3 rfl ?_
  refine kj_icmp_ge F dJ7_fill_d0a16_9 (tgt := 22) (by decide) h (fun hc h => ?_) (fun hc h => ?_)
  · refine kj_J.sub [] rfl ?_
    exact ke0 z (Option.some.inj h).symm
  · refine kj_aload_n F dJ7_fill_d0a16_12 0 rfl rfl ?_
    refine kj_iload_n F dJ7_fill_d0a16_13 2 rfl rfl ?_
    refine kj_lload_n F dJ7_fill_d0a16_14 1 rfl rfl ?_
    refine kj_fib F dJ7_fill_d0a16_15 hL1 hL2 ht h (fun z1 h => ?_)
    refine kj_iinc F dJ7_fill_d0a16_16 2 rfl (v := 1) (by decide) (by decide) (lv' := [(3, .int (x3 + 1)), (0, .ref a), (1, .long x1), (4, .int x4)]) rfl ?_
    refine kj_goto F dJ7_fill_d0a16_19 (tgt := 6) (by decide) ?_
    refine kj_J.sub [1, 2, 0, 3] rfl ?_
    exact kb x1 (x3 + 1) x4 z1 (Option.some.inj h).symm
theorem jlj_fill_d0a16_6 {p : Program} {l : Launch} {e : Env} {s : State} {m : MethodId} {args : Array Value} {below : List Frame} {meth : Method} {c : Code} {A : Nat → Prop} {D : va_G} {tys : List (ClassId × FieldType)} {W : (Nat → Int64) → va_W} {a q0 t0 n : Nat} {cB : ClassId} {Q : State → Prop} (F : kj_Fx p s m args meth c cJ7_fill_d0a16 5 wsJ7_fill_d0a16 RJ7 none D tys A) (hL1 : ∀ f, (W f)[q0]? = some (a, .inl (cB, n, .inr (.inl f)))) (hL2 : ∀ f g, (W f).set q0 (a, .inl (cB, n, .inr (.inl g))) = W g) (ht : tys[t0]? = some (cB, .long)) {fu : Nat} {x1 : Int64} {x3 : Int32} {x4 : Int32} {z : (Nat → Int64)} {r : (Nat → Int64)} (h : lj_fill_d0a16_6 n fu x1 x3 x4 z = some r) (ke : kj_J p l e rm_J7_fill_d0a16 s m args below meth c 0 0 Q 5 D A (W (r)) 22 [] []) : kj_J p l e rm_J7_fill_d0a16 s m args below meth c 0 0 Q 5 D A (W z) 6 [(0, .ref a), (1, .long x1), (3, .int x3), (4, .int x4)] [] :=
  kj_it_J (Wh := fun (u : (Int64 × Int32 × Int32 × (Nat → Int64))) => kj_J p l e rm_J7_fill_d0a16 s m args below meth c 0 0 Q 5 D A (W (u.2.2.2)) 6 [(0, .ref a), (1, .long (u.1)), (3, .int (u.2.1)), (4, .int (u.2.2.1))] []) (We := fun r => kj_J p l e rm_J7_fill_d0a16 s m args below meth c 0 0 Q 5 D A (W (r)) 22 [] []) (fun u o h kb ke => jj_fill_d0a16_6 F hL1 hL2 ht h (fun a0' a1' a2' a3' e => kb (a0', a1', a2', a3') e) (fun a0' e => ke a0' e)) fu (x1, x3, x4, z) r h ke
set_option maxRecDepth 20000 in
theorem jj_fill_d0a16 {p : Program} {l : Launch} {e : Env} {s : State} {m : MethodId} {args : Array Value} {below : List Frame} {meth : Method} {c : Code} {A : Nat → Prop} {D : va_G} {tys : List (ClassId × FieldType)} {W : (Nat → Int64) → va_W} {a q0 t0 n : Nat} {cB : ClassId} (F : kj_Fx p s m args meth c cJ7_fill_d0a16 5 wsJ7_fill_d0a16 RJ7 none D tys A) (hL1 : ∀ f, (W f)[q0]? = some (a, .inl (cB, n, .inr (.inl f)))) (hL2 : ∀ f g, (W f).set q0 (a, .inl (cB, n, .inr (.inl g))) = W g) (ht : tys[t0]? = some (cB, .long)) {x1 : Int64} {z : (Nat → Int64)} {o : (Nat → Int64)} (h : fj_fill_d0a16 n x1 z = some o) : kj_J p l e rm_J7_fill_d0a16 s m args below meth c 0 0 (MQ below (kj_Qv D tys A W o) args s 0 0 A) 5 D A (W z) 0 [(0, .ref a), (1, .long x1)] [] := by
  unfold fj_fill_d0a16 at h
  refine kj_iconst F dJ7_fill_d0a16_0 (v := 0) (by decide) ?_
  refine kj_istore_n F dJ7_fill_d0a16_1 (lv' := [(3, .int (0 : Int32)), (0, .ref a), (1, .long x1)]) rfl (by decide) rfl ?_
  refine kj_aload_n F dJ7_fill_d0a16_2 1 rfl rfl ?_
  refine kj_alen F dJ7_fill_d0a16_3 q0 t0 (hL1 _) ht ?_
  refine kj_istore F dJ7_fill_d0a16_4 (lv' := [(4, .int (nI n)), (3, .int (0 : Int32)), (0, .ref a), (1, .long x1)]) (by decide) rfl ?_
  refine kj_J.sub [2, 3, 1, 0] rfl ?_
  refine kj_bn h (fun r1 h1 h => ?_)
  refine jlj_fill_d0a16_6 F hL1 hL2 ht h1 ?_
  exact kj_vret F dJ7_fill_d0a16_22 h
theorem cj_fill_d0a16 {l : Launch} {D : va_G} {tys : List (ClassId × FieldType)} {W : (Nat → Int64) → va_W} {a q0 t0 n : Nat} {cB : ClassId} (hL1 : ∀ f, (W f)[q0]? = some (a, .inl (cB, n, .inr (.inl f)))) (hL2 : ∀ f g, (W f).set q0 (a, .inl (cB, n, .inr (.inl g))) = W g) (ht : tys[t0]? = some (cB, .long)) {x1 : Int64} {z : (Nat → Int64)} {o : (Nat → Int64)} (h : fj_fill_d0a16 n x1 z = some o) : kj_Mv l yJ7_fill_d0a16 wsJ7_fill_d0a16 rm_J7_fill_d0a16 D tys W z [.ref a, .long x1] o :=
  fun sz => kj_start (by decide) rfl (Nat.le_of_ble_eq_true rfl) rfl fun p e s m args below meth c hsz F => jj_fill_d0a16 F hL1 hL2 ht h
/-! X4_covers -/
abbrev rm_X4_covers : Room := { frames := 0, cells := 0, slots := 0, locals := 0 }
def fr_covers (x0 : Int32) (x1 : Int32) : Option Int32 :=
  if (((x0 ||| ((34952) : Int32)) - x1) &&& ((34952) : Int32)) = ((34952) : Int32) then
  some (1 : Int32)
  else
  some (0 : Int32)
set_option maxRecDepth 20000 in
theorem jr_covers {p : Program} {l : Launch} {e : Env} {s : State} {m : MethodId} {args : Array Value} {below : List Frame} {meth : Method} {c : Code} {A : Nat → Prop} {D : va_G} {tys : List (ClassId × FieldType)} {S : Type} {w : S → va_W} {z : S} (F : kj_Fx p s m args meth c cX4_covers 2 wsX4_covers RX4 (some .boolean) D tys A) {x0 : Int32} {x1 : Int32} {o : Int32} (h : fr_covers x0 x1 = some o) : kj_J p l e rm_X4_covers s m args below meth c 0 0 (MQ below (kj_Qi D tys A w (o, z)) args s 0 0 A) 2 D A (w z) 0 [(0, .int x0), (1, .int x1)] [] := by
  unfold fr_covers at h
  refine kj_iload_n F dX4_covers_0 0 rfl rfl ?_
  refine kj_ldc F dX4_covers_1 (v := (34952)) (by decide +kernel) ?_
  refine kj_ior F dX4_covers_3 ?_
  refine kj_iload_n F dX4_covers_4 1 rfl rfl ?_
  refine kj_isub F dX4_covers_5 ?_
  refine kj_ldc F dX4_covers_6 (v := (34952)) (by decide +kernel) ?_
  refine kj_iand F dX4_covers_8 ?_
  refine kj_ldc F dX4_covers_9 (v := (34952)) (by decide +kernel) ?_
  refine kj_icmp_ne F dX4_covers_11 (tgt := 18) (by decide) h (fun hc h => ?_) (fun hc h => ?_)
  · refine kj_iconst F dX4_covers_14 (v := 1) (by decide) ?_
    refine kj_goto F dX4_covers_15 (tgt := 19) (by decide) ?_
    exact kj_zret F dX4_covers_19 (by decide) (kj_pr h)
  · refine kj_iconst F dX4_covers_18 (v := 0) (by decide) ?_
    exact kj_zret F dX4_covers_19 (by decide) (kj_pr h)
theorem cr_covers {l : Launch} {D : va_G} {tys : List (ClassId × FieldType)} {S : Type} {w : S → va_W} {z : S} {x0 : Int32} {x1 : Int32} {o : Int32} (h : fr_covers x0 x1 = some o) : kj_Mi l yX4_covers wsX4_covers rm_X4_covers D tys w z [.int x0, .int x1] (o, z) :=
  fun sz => kj_start (by decide) rfl (Nat.le_of_ble_eq_true rfl) rfl fun p e s m args below meth c hsz F => jr_covers F h
/-! X4_power -/
abbrev rm_X4_power : Room := { frames := 0, cells := 0, slots := 0, locals := 0 }
def fr_power_5 (x0 : Int32) (x1 : Int32) (x2 : Int64) (x4 : Int32) : Option ((Int32 × Int32 × Int64 × Int32) ⊕ Int64) :=
  if x1 ≤ x4 then
  some (.inr x2)
  else
  if ((1000000007) : Int64) = 0 then none else
  some (.inl (x0, x1, ((x2 * (x0).toInt64) - (x2 * (x0).toInt64) / ((1000000007) : Int64) * ((1000000007) : Int64)), (x4 + 1)))
def lr_power_5 (fu : Nat) (x0 : Int32) (x1 : Int32) (x2 : Int64) (x4 : Int32) : Option Int64 :=
  kj_it (fun (s : (Int32 × Int32 × Int64 × Int32)) => fr_power_5 (s.1) (s.2.1) (s.2.2.1) (s.2.2.2)) fu (x0, x1, x2, x4)
def fr_power (x0 : Int32) (x1 : Int32) : Option Int64 :=
  (lr_power_5 5000 x0 x1 (1 : Int64) (0 : Int32)).bind fun r1 =>
  some (r1)
set_option maxRecDepth 20000 in
theorem jr_power_5 {p : Program} {l : Launch} {e : Env} {s : State} {m : MethodId} {args : Array Value} {below : List Frame} {meth : Method} {c : Code} {A : Nat → Prop} {D : va_G} {tys : List (ClassId × FieldType)} {S : Type} {w : S → va_W} {z : S} {Q : State → Prop} (F : kj_Fx p s m args meth c cX4_power 5 wsX4_power RX4 (some .long) D tys A) {x0 : Int32} {x1 : Int32} {x2 : Int64} {x4 : Int32} {o : ((Int32 × Int32 × Int64 × Int32) ⊕ Int64)} (h : fr_power_5 x0 x1 x2 x4 = some o) (kb : ∀ (a0' : Int32) (a1' : Int32) (a2' : Int64) (a3' : Int32), o = .inl (a0', a1', a2', a3') → kj_J p l e rm_X4_power s m args below meth c 0 0 Q 5 D A (w z) 5 [(0, .int a0'), (1, .int a1'), (2, .long a2'), (4, .int a3')] []) (ke0 : ∀ (a0' : Int64), o = .inr a0' → kj_J p l e rm_X4_power s m args below meth c 0 0 Q 5 D A (w z) 26 [(2, .long a0')] []) : kj_J p l e rm_X4_power s m args below meth c 0 0 Q 5 D A (w z) 5 [(0, .int x0), (1, .int x1), (2, .long x2), (4, .int x4)] [] := by
  unfold fr_power_5 at h
  refine kj_iload F dX4_power_5 3 rfl ?_
  refine kj_iload_n F dX4_power_7 1 rfl rfl ?_
  refine kj_icmp_ge F dX4_power_8 (tgt := 26) (by decide) h (fun hc h => ?_) (fun hc h => ?_)
  · refine kj_J.sub [2] rfl ?_
    exact ke0 x2 (Option.some.inj h).symm
  · refine kj_lload_n F dX4_power_11 2 rfl rfl ?_
    refine kj_iload_n F dX4_power_12 0 rfl rfl ?_
    refine kj_i2l F dX4_power_13 ?_
    refine kj_lmul F dX4_power_14 ?_
    refine kj_ldc2 F dX4_power_15 (v := (1000000007)) (by decide +kernel) ?_
    refine kj_lrem F dX4_power_18 h (fun h => ?_)
    refine kj_lstore_n F dX4_power_19 (lv' := [(2, .long ((x2 * (x0).toInt64) - (x2 * (x0).toInt64) / ((1000000007) : Int64) * ((1000000007) : Int64))), (0, .int x0), (1, .int x1), (4, .int x4)]) rfl (by decide) rfl ?_
    refine kj_iinc F dX4_power_20 3 rfl (v := 1) (by decide) (by decide) (lv' := [(4, .int (x4 + 1)), (2, .long ((x2 * (x0).toInt64) - (x2 * (x0).toInt64) / ((1000000007) : Int64) * ((1000000007) : Int64))), (0, .int x0), (1, .int x1)]) rfl ?_
    refine kj_goto F dX4_power_23 (tgt := 5) (by decide) ?_
    refine kj_J.sub [2, 3, 1, 0] rfl ?_
    exact kb x0 x1 ((x2 * (x0).toInt64) - (x2 * (x0).toInt64) / ((1000000007) : Int64) * ((1000000007) : Int64)) (x4 + 1) (Option.some.inj h).symm
theorem jlr_power_5 {p : Program} {l : Launch} {e : Env} {s : State} {m : MethodId} {args : Array Value} {below : List Frame} {meth : Method} {c : Code} {A : Nat → Prop} {D : va_G} {tys : List (ClassId × FieldType)} {S : Type} {w : S → va_W} {z : S} {Q : State → Prop} (F : kj_Fx p s m args meth c cX4_power 5 wsX4_power RX4 (some .long) D tys A) {fu : Nat} {x0 : Int32} {x1 : Int32} {x2 : Int64} {x4 : Int32} {r : Int64} (h : lr_power_5 fu x0 x1 x2 x4 = some r) (ke : kj_J p l e rm_X4_power s m args below meth c 0 0 Q 5 D A (w z) 26 [(2, .long (r))] []) : kj_J p l e rm_X4_power s m args below meth c 0 0 Q 5 D A (w z) 5 [(0, .int x0), (1, .int x1), (2, .long x2), (4, .int x4)] [] :=
  kj_it_J (Wh := fun (u : (Int32 × Int32 × Int64 × Int32)) => kj_J p l e rm_X4_power s m args below meth c 0 0 Q 5 D A (w z) 5 [(0, .int (u.1)), (1, .int (u.2.1)), (2, .long (u.2.2.1)), (4, .int (u.2.2.2))] []) (We := fun r => kj_J p l e rm_X4_power s m args below meth c 0 0 Q 5 D A (w z) 26 [(2, .long (r))] []) (fun u o h kb ke => jr_power_5 F h (fun a0' a1' a2' a3' e => kb (a0', a1', a2', a3') e) (fun a0' e => ke a0' e)) fu (x0, x1, x2, x4) r h ke
set_option maxRecDepth 20000 in
theorem jr_power {p : Program} {l : Launch} {e : Env} {s : State} {m : MethodId} {args : Array Value} {below : List Frame} {meth : Method} {c : Code} {A : Nat → Prop} {D : va_G} {tys : List (ClassId × FieldType)} {S : Type} {w : S → va_W} {z : S} (F : kj_Fx p s m args meth c cX4_power 5 wsX4_power RX4 (some .long) D tys A) {x0 : Int32} {x1 : Int32} {o : Int64} (h : fr_power x0 x1 = some o) : kj_J p l e rm_X4_power s m args below meth c 0 0 (MQ below (kj_Ql D tys A w (o, z)) args s 0 0 A) 5 D A (w z) 0 [(0, .int x0), (1, .int x1)] [] := by
  unfold fr_power at h
  refine kj_lconst F dX4_power_0 (v := 1) (by decide) ?_
  refine kj_lstore_n F dX4_power_1 (lv' := [(2, .long (1 : Int64)), (0, .int x0), (1, .int x1)]) rfl (by decide) rfl ?_
  refine kj_iconst F dX4_power_2 (v := 0) (by decide) ?_
  refine kj_istore F dX4_power_3 (lv' := [(4, .int (0 : Int32)), (2, .long (1 : Int64)), (0, .int x0), (1, .int x1)]) (by decide) rfl ?_
  refine kj_J.sub [2, 3, 1, 0] rfl ?_
  refine kj_bn h (fun r1 h1 h => ?_)
  refine jlr_power_5 F h1 ?_
  refine kj_lload_n F dX4_power_26 0 rfl rfl ?_
  exact kj_lret F dX4_power_27 (kj_pr h)
theorem cr_power {l : Launch} {D : va_G} {tys : List (ClassId × FieldType)} {S : Type} {w : S → va_W} {z : S} {x0 : Int32} {x1 : Int32} {o : Int64} (h : fr_power x0 x1 = some o) : kj_Ml l yX4_power wsX4_power rm_X4_power D tys w z [.int x0, .int x1] (o, z) :=
  fun sz => kj_start (by decide) rfl (Nat.le_of_ble_eq_true rfl) rfl fun p e s m args below meth c hsz F => jr_power F h
/-! X4_sumOfHeights -/
abbrev rm_X4_sumOfHeights : Room := { frames := 1, cells := 0, slots := 0, locals := 21 }
def fr_sumOfHeights_4 (x0 : Int32) (x1 : Int32) (x2 : Int32) : Option ((Int32 × Int32 × Int32) ⊕ Int32) :=
  if (4 : Int32) ≤ x2 then
  some (.inr x1)
  else
  (fx_heightInRow x0 x2).bind fun o1 =>
  some (.inl (x0, (x1 + o1), (x2 + 1)))
def lr_sumOfHeights_4 (fu : Nat) (x0 : Int32) (x1 : Int32) (x2 : Int32) : Option Int32 :=
  kj_it (fun (s : (Int32 × Int32 × Int32)) => fr_sumOfHeights_4 (s.1) (s.2.1) (s.2.2)) fu (x0, x1, x2)
def fr_sumOfHeights (x0 : Int32) : Option Int32 :=
  (lr_sumOfHeights_4 5000 x0 (0 : Int32) (0 : Int32)).bind fun r1 =>
  some (r1)
set_option maxRecDepth 20000 in
theorem jr_sumOfHeights_4 {p : Program} {l : Launch} {e : Env} {s : State} {m : MethodId} {args : Array Value} {below : List Frame} {meth : Method} {c : Code} {A : Nat → Prop} {D : va_G} {tys : List (ClassId × FieldType)} {S : Type} {w : S → va_W} {z : S} {Q : State → Prop} (F : kj_Fx p s m args meth c cX4_sumOfHeights 3 wsX4_sumOfHeights RX4 (some .int) D tys A) {x0 : Int32} {x1 : Int32} {x2 : Int32} {o : ((Int32 × Int32 × Int32) ⊕ Int32)} (h : fr_sumOfHeights_4 x0 x1 x2 = some o) (kb : ∀ (a0' : Int32) (a1' : Int32) (a2' : Int32), o = .inl (a0', a1', a2') → kj_J p l e rm_X4_sumOfHeights s m args below meth c 0 0 Q 3 D A (w z) 4 [(0, .int a0'), (1, .int a1'), (2, .int a2')] []) (ke0 : ∀ (a0' : Int32), o = .inr a0' → kj_J p l e rm_X4_sumOfHeights s m args below meth c 0 0 Q 3 D A (w z) 23 [(1, .int a0')] []) : kj_J p l e rm_X4_sumOfHeights s m args below meth c 0 0 Q 3 D A (w z) 4 [(0, .int x0), (1, .int x1), (2, .int x2)] [] := by
  unfold fr_sumOfHeights_4 at h
  refine kj_iload_n F dX4_sumOfHeights_4 2 rfl rfl ?_
  refine kj_iconst F dX4_sumOfHeights_5 (v := 4) (by decide) ?_
  refine kj_icmp_ge F dX4_sumOfHeights_6 (tgt := 23) (by decide) h (fun hc h => ?_) (fun hc h => ?_)
  · refine kj_J.sub [1] rfl ?_
    exact ke0 x1 (Option.some.inj h).symm
  · refine kj_iload_n F dX4_sumOfHeights_9 1 rfl rfl ?_
    refine kj_iload_n F dX4_sumOfHeights_10 0 rfl rfl ?_
    refine kj_iload_n F dX4_sumOfHeights_11 2 rfl rfl ?_
    refine kj_cSip (As := [.int x0, .int x2]) (rest := [.int x1]) F dX4_sumOfHeights_12 h (fun o h1 => cx_heightInRow (w := w) h1) (va_cwS 2 F.2.2.2.2.1 gX4_sumOfHeights_X0_heightInRow rfl rfl rfl (by decide +kernel) ⟨Nat.le_of_ble_eq_true rfl, Nat.le_of_ble_eq_true rfl⟩) rfl rfl (Nat.le_of_ble_eq_true rfl) ⟨Nat.zero_le _, Nat.zero_le _⟩ (fun o1 h => ?_)
    refine kj_iadd F dX4_sumOfHeights_15 ?_
    refine kj_istore_n F dX4_sumOfHeights_16 (lv' := [(1, .int (x1 + o1)), (0, .int x0), (2, .int x2)]) rfl (by decide) rfl ?_
    refine kj_iinc F dX4_sumOfHeights_17 2 rfl (v := 1) (by decide) (by decide) (lv' := [(2, .int (x2 + 1)), (1, .int (x1 + o1)), (0, .int x0)]) rfl ?_
    refine kj_goto F dX4_sumOfHeights_20 (tgt := 4) (by decide) ?_
    refine kj_J.sub [2, 1, 0] rfl ?_
    exact kb x0 (x1 + o1) (x2 + 1) (Option.some.inj h).symm
theorem jlr_sumOfHeights_4 {p : Program} {l : Launch} {e : Env} {s : State} {m : MethodId} {args : Array Value} {below : List Frame} {meth : Method} {c : Code} {A : Nat → Prop} {D : va_G} {tys : List (ClassId × FieldType)} {S : Type} {w : S → va_W} {z : S} {Q : State → Prop} (F : kj_Fx p s m args meth c cX4_sumOfHeights 3 wsX4_sumOfHeights RX4 (some .int) D tys A) {fu : Nat} {x0 : Int32} {x1 : Int32} {x2 : Int32} {r : Int32} (h : lr_sumOfHeights_4 fu x0 x1 x2 = some r) (ke : kj_J p l e rm_X4_sumOfHeights s m args below meth c 0 0 Q 3 D A (w z) 23 [(1, .int (r))] []) : kj_J p l e rm_X4_sumOfHeights s m args below meth c 0 0 Q 3 D A (w z) 4 [(0, .int x0), (1, .int x1), (2, .int x2)] [] :=
  kj_it_J (Wh := fun (u : (Int32 × Int32 × Int32)) => kj_J p l e rm_X4_sumOfHeights s m args below meth c 0 0 Q 3 D A (w z) 4 [(0, .int (u.1)), (1, .int (u.2.1)), (2, .int (u.2.2))] []) (We := fun r => kj_J p l e rm_X4_sumOfHeights s m args below meth c 0 0 Q 3 D A (w z) 23 [(1, .int (r))] []) (fun u o h kb ke => jr_sumOfHeights_4 F h (fun a0' a1' a2' e => kb (a0', a1', a2') e) (fun a0' e => ke a0' e)) fu (x0, x1, x2) r h ke
set_option maxRecDepth 20000 in
theorem jr_sumOfHeights {p : Program} {l : Launch} {e : Env} {s : State} {m : MethodId} {args : Array Value} {below : List Frame} {meth : Method} {c : Code} {A : Nat → Prop} {D : va_G} {tys : List (ClassId × FieldType)} {S : Type} {w : S → va_W} {z : S} (F : kj_Fx p s m args meth c cX4_sumOfHeights 3 wsX4_sumOfHeights RX4 (some .int) D tys A) {x0 : Int32} {o : Int32} (h : fr_sumOfHeights x0 = some o) : kj_J p l e rm_X4_sumOfHeights s m args below meth c 0 0 (MQ below (kj_Qi D tys A w (o, z)) args s 0 0 A) 3 D A (w z) 0 [(0, .int x0)] [] := by
  unfold fr_sumOfHeights at h
  refine kj_iconst F dX4_sumOfHeights_0 (v := 0) (by decide) ?_
  refine kj_istore_n F dX4_sumOfHeights_1 (lv' := [(1, .int (0 : Int32)), (0, .int x0)]) rfl (by decide) rfl ?_
  refine kj_iconst F dX4_sumOfHeights_2 (v := 0) (by decide) ?_
  refine kj_istore_n F dX4_sumOfHeights_3 (lv' := [(2, .int (0 : Int32)), (1, .int (0 : Int32)), (0, .int x0)]) rfl (by decide) rfl ?_
  refine kj_J.sub [2, 1, 0] rfl ?_
  refine kj_bn h (fun r1 h1 h => ?_)
  refine jlr_sumOfHeights_4 F h1 ?_
  refine kj_iload_n F dX4_sumOfHeights_23 0 rfl rfl ?_
  exact kj_iret F dX4_sumOfHeights_24 (kj_pr h)
theorem cr_sumOfHeights {l : Launch} {D : va_G} {tys : List (ClassId × FieldType)} {S : Type} {w : S → va_W} {z : S} {x0 : Int32} {o : Int32} (h : fr_sumOfHeights x0 = some o) : kj_Mi l yX4_sumOfHeights wsX4_sumOfHeights rm_X4_sumOfHeights D tys w z [.int x0] (o, z) :=
  fun sz => kj_start (by decide) rfl (Nat.le_of_ble_eq_true rfl) rfl fun p e s m args below meth c hsz F => jr_sumOfHeights F h
/-! X4_heightsAboveZero -/
abbrev rm_X4_heightsAboveZero : Room := { frames := 1, cells := 0, slots := 0, locals := 21 }
def fr_heightsAboveZero_20 (x0 : Int32) (x1 : Int32) (x2 : Int32) : Option ((Int32 × Int32 × Int32) ⊕ Int32) :=
  some (.inl (x0, x1, (x2 + 1)))
def fr_heightsAboveZero_4 (x0 : Int32) (x1 : Int32) (x2 : Int32) : Option ((Int32 × Int32 × Int32) ⊕ Int32) :=
  if (4 : Int32) ≤ x2 then
  some (.inr x1)
  else
  (fx_heightInRow x0 x2).bind fun o1 =>
  if o1 ≤ 0 then
  fr_heightsAboveZero_20 x0 x1 x2
  else
  fr_heightsAboveZero_20 x0 (x1 + 1) x2
def lr_heightsAboveZero_4 (fu : Nat) (x0 : Int32) (x1 : Int32) (x2 : Int32) : Option Int32 :=
  kj_it (fun (s : (Int32 × Int32 × Int32)) => fr_heightsAboveZero_4 (s.1) (s.2.1) (s.2.2)) fu (x0, x1, x2)
def fr_heightsAboveZero (x0 : Int32) : Option Int32 :=
  (lr_heightsAboveZero_4 5000 x0 (0 : Int32) (0 : Int32)).bind fun r1 =>
  some (r1)
set_option maxRecDepth 20000 in
theorem jr_heightsAboveZero_20 {p : Program} {l : Launch} {e : Env} {s : State} {m : MethodId} {args : Array Value} {below : List Frame} {meth : Method} {c : Code} {A : Nat → Prop} {D : va_G} {tys : List (ClassId × FieldType)} {S : Type} {w : S → va_W} {z : S} {Q : State → Prop} (F : kj_Fx p s m args meth c cX4_heightsAboveZero 3 wsX4_heightsAboveZero RX4 (some .int) D tys A) {x0 : Int32} {x1 : Int32} {x2 : Int32} {o : ((Int32 × Int32 × Int32) ⊕ Int32)} (h : fr_heightsAboveZero_20 x0 x1 x2 = some o) (kb : ∀ (a0' : Int32) (a1' : Int32) (a2' : Int32), o = .inl (a0', a1', a2') → kj_J p l e rm_X4_heightsAboveZero s m args below meth c 0 0 Q 3 D A (w z) 4 [(0, .int a0'), (1, .int a1'), (2, .int a2')] []) (ke0 : ∀ (a0' : Int32), o = .inr a0' → kj_J p l e rm_X4_heightsAboveZero s m args below meth c 0 0 Q 3 D A (w z) 26 [(1, .int a0')] []) : kj_J p l e rm_X4_heightsAboveZero s m args below meth c 0 0 Q 3 D A (w z) 20 [(0, .int x0), (1, .int x1), (2, .int x2)] [] := by
  unfold fr_heightsAboveZero_20 at h
  refine kj_iinc F dX4_heightsAboveZero_20 2 rfl (v := 1) (by decide) (by decide) (lv' := [(2, .int (x2 + 1)), (0, .int x0), (1, .int x1)]) rfl ?_
  refine kj_goto F dX4_heightsAboveZero_23 (tgt := 4) (by decide) ?_
  refine kj_J.sub [1, 2, 0] rfl ?_
  exact kb x0 x1 (x2 + 1) (Option.some.inj h).symm
set_option maxRecDepth 20000 in
theorem jr_heightsAboveZero_4 {p : Program} {l : Launch} {e : Env} {s : State} {m : MethodId} {args : Array Value} {below : List Frame} {meth : Method} {c : Code} {A : Nat → Prop} {D : va_G} {tys : List (ClassId × FieldType)} {S : Type} {w : S → va_W} {z : S} {Q : State → Prop} (F : kj_Fx p s m args meth c cX4_heightsAboveZero 3 wsX4_heightsAboveZero RX4 (some .int) D tys A) {x0 : Int32} {x1 : Int32} {x2 : Int32} {o : ((Int32 × Int32 × Int32) ⊕ Int32)} (h : fr_heightsAboveZero_4 x0 x1 x2 = some o) (kb : ∀ (a0' : Int32) (a1' : Int32) (a2' : Int32), o = .inl (a0', a1', a2') → kj_J p l e rm_X4_heightsAboveZero s m args below meth c 0 0 Q 3 D A (w z) 4 [(0, .int a0'), (1, .int a1'), (2, .int a2')] []) (ke0 : ∀ (a0' : Int32), o = .inr a0' → kj_J p l e rm_X4_heightsAboveZero s m args below meth c 0 0 Q 3 D A (w z) 26 [(1, .int a0')] []) : kj_J p l e rm_X4_heightsAboveZero s m args below meth c 0 0 Q 3 D A (w z) 4 [(0, .int x0), (1, .int x1), (2, .int x2)] [] := by
  unfold fr_heightsAboveZero_4 at h
  refine kj_iload_n F dX4_heightsAboveZero_4 2 rfl rfl ?_
  refine kj_iconst F dX4_heightsAboveZero_5 (v := 4) (by decide) ?_
  refine kj_icmp_ge F dX4_heightsAboveZero_6 (tgt := 26) (by decide) h (fun hc h => ?_) (fun hc h => ?_)
  · refine kj_J.sub [1] rfl ?_
    exact ke0 x1 (Option.some.inj h).symm
  · refine kj_iload_n F dX4_heightsAboveZero_9 0 rfl rfl ?_
    refine kj_iload_n F dX4_heightsAboveZero_10 2 rfl rfl ?_
    refine kj_cSip (As := [.int x0, .int x2]) (rest := []) F dX4_heightsAboveZero_11 h (fun o h1 => cx_heightInRow (w := w) h1) (va_cwS 2 F.2.2.2.2.1 gX4_heightsAboveZero_X0_heightInRow rfl rfl rfl (by decide +kernel) ⟨Nat.le_of_ble_eq_true rfl, Nat.le_of_ble_eq_true rfl⟩) rfl rfl (Nat.le_of_ble_eq_true rfl) ⟨Nat.zero_le _, Nat.zero_le _⟩ (fun o1 h => ?_)
    refine kj_if_le F dX4_heightsAboveZero_14 (tgt := 20) (by decide) h (fun hc h => ?_) (fun hc h => ?_)
    · exact jr_heightsAboveZero_20 F h kb ke0
    · refine kj_iinc F dX4_heightsAboveZero_17 1 rfl (v := 1) (by decide) (by decide) (lv' := [(1, .int (x1 + 1)), (0, .int x0), (2, .int x2)]) rfl ?_
      refine kj_J.sub [1, 0, 2] rfl ?_
      exact jr_heightsAboveZero_20 F h kb ke0
theorem jlr_heightsAboveZero_4 {p : Program} {l : Launch} {e : Env} {s : State} {m : MethodId} {args : Array Value} {below : List Frame} {meth : Method} {c : Code} {A : Nat → Prop} {D : va_G} {tys : List (ClassId × FieldType)} {S : Type} {w : S → va_W} {z : S} {Q : State → Prop} (F : kj_Fx p s m args meth c cX4_heightsAboveZero 3 wsX4_heightsAboveZero RX4 (some .int) D tys A) {fu : Nat} {x0 : Int32} {x1 : Int32} {x2 : Int32} {r : Int32} (h : lr_heightsAboveZero_4 fu x0 x1 x2 = some r) (ke : kj_J p l e rm_X4_heightsAboveZero s m args below meth c 0 0 Q 3 D A (w z) 26 [(1, .int (r))] []) : kj_J p l e rm_X4_heightsAboveZero s m args below meth c 0 0 Q 3 D A (w z) 4 [(0, .int x0), (1, .int x1), (2, .int x2)] [] :=
  kj_it_J (Wh := fun (u : (Int32 × Int32 × Int32)) => kj_J p l e rm_X4_heightsAboveZero s m args below meth c 0 0 Q 3 D A (w z) 4 [(0, .int (u.1)), (1, .int (u.2.1)), (2, .int (u.2.2))] []) (We := fun r => kj_J p l e rm_X4_heightsAboveZero s m args below meth c 0 0 Q 3 D A (w z) 26 [(1, .int (r))] []) (fun u o h kb ke => jr_heightsAboveZero_4 F h (fun a0' a1' a2' e => kb (a0', a1', a2') e) (fun a0' e => ke a0' e)) fu (x0, x1, x2) r h ke
set_option maxRecDepth 20000 in
theorem jr_heightsAboveZero {p : Program} {l : Launch} {e : Env} {s : State} {m : MethodId} {args : Array Value} {below : List Frame} {meth : Method} {c : Code} {A : Nat → Prop} {D : va_G} {tys : List (ClassId × FieldType)} {S : Type} {w : S → va_W} {z : S} (F : kj_Fx p s m args meth c cX4_heightsAboveZero 3 wsX4_heightsAboveZero RX4 (some .int) D tys A) {x0 : Int32} {o : Int32} (h : fr_heightsAboveZero x0 = some o) : kj_J p l e rm_X4_heightsAboveZero s m args below meth c 0 0 (MQ below (kj_Qi D tys A w (o, z)) args s 0 0 A) 3 D A (w z) 0 [(0, .int x0)] [] := by
  unfold fr_heightsAboveZero at h
  refine kj_iconst F dX4_heightsAboveZero_0 (v := 0) (by decide) ?_
  refine kj_istore_n F dX4_heightsAboveZero_1 (lv' := [(1, .int (0 : Int32)), (0, .int x0)]) rfl (by decide) rfl ?_
  refine kj_iconst F dX4_heightsAboveZero_2 (v := 0) (by decide) ?_
  refine kj_istore_n F dX4_heightsAboveZero_3 (lv' := [(2, .int (0 : Int32)), (1, .int (0 : Int32)), (0, .int x0)]) rfl (by decide) rfl ?_
  refine kj_J.sub [2, 1, 0] rfl ?_
  refine kj_bn h (fun r1 h1 h => ?_)
  refine jlr_heightsAboveZero_4 F h1 ?_
  refine kj_iload_n F dX4_heightsAboveZero_26 0 rfl rfl ?_
  exact kj_iret F dX4_heightsAboveZero_27 (kj_pr h)
theorem cr_heightsAboveZero {l : Launch} {D : va_G} {tys : List (ClassId × FieldType)} {S : Type} {w : S → va_W} {z : S} {x0 : Int32} {o : Int32} (h : fr_heightsAboveZero x0 = some o) : kj_Mi l yX4_heightsAboveZero wsX4_heightsAboveZero rm_X4_heightsAboveZero D tys w z [.int x0] (o, z) :=
  fun sz => kj_start (by decide) rfl (Nat.le_of_ble_eq_true rfl) rfl fun p e s m args below meth c hsz F => jr_heightsAboveZero F h
/-! X4_exponent -/
abbrev rm_X4_exponent : Room := { frames := 2, cells := 0, slots := 0, locals := 43 }
def fr_exponent (x0 : Int32) (x1 : Int32) (x2 : Int32) : Option Int32 :=
  if x0 = 1 then
  (fr_sumOfHeights x1).bind fun o1 =>
  some o1
  else
  if x0 = 2 then
  (fx_heightInRow x1 x2).bind fun o2 =>
  some o2
  else
  if x0 = 3 then
  (fr_heightsAboveZero x1).bind fun o3 =>
  some o3
  else
  if x0 = 4 then
  some (1 : Int32)
  else
  some (0 : Int32)
set_option maxRecDepth 20000 in
theorem jr_exponent {p : Program} {l : Launch} {e : Env} {s : State} {m : MethodId} {args : Array Value} {below : List Frame} {meth : Method} {c : Code} {A : Nat → Prop} {D : va_G} {tys : List (ClassId × FieldType)} {S : Type} {w : S → va_W} {z : S} (F : kj_Fx p s m args meth c cX4_exponent 3 wsX4_exponent RX4 (some .int) D tys A) {x0 : Int32} {x1 : Int32} {x2 : Int32} {o : Int32} (h : fr_exponent x0 x1 x2 = some o) : kj_J p l e rm_X4_exponent s m args below meth c 0 0 (MQ below (kj_Qi D tys A w (o, z)) args s 0 0 A) 3 D A (w z) 0 [(0, .int x0), (1, .int x1), (2, .int x2)] [] := by
  unfold fr_exponent at h
  refine kj_iload_n F dX4_exponent_0 0 rfl rfl ?_
  refine kj_if h (fun hc h => ?_) (fun hn1_0 h => ?_)
  · refine kj_tableIn F dX4_exponent_1 (off := 31) (tgt := 32) (by rw [hc]; decide) (by rw [hc]; decide) (by rw [hc]; rfl) (by decide) ?_
    refine kj_iload_n F dX4_exponent_32 1 rfl rfl ?_
    refine kj_cSip (As := [.int x1]) (rest := []) F dX4_exponent_33 h (fun o h1 => cr_sumOfHeights (w := w) h1) (va_cwS 1 F.2.2.2.2.1 gX4_exponent_X4_sumOfHeights rfl rfl rfl (by decide +kernel) ⟨Nat.le_of_ble_eq_true rfl, Nat.le_of_ble_eq_true rfl⟩) rfl rfl (Nat.le_of_ble_eq_true rfl) ⟨Nat.zero_le _, Nat.zero_le _⟩ (fun o1 h => ?_)
    exact kj_iret F dX4_exponent_36 (kj_pr h)
  refine kj_if h (fun hc h => ?_) (fun hn1_1 h => ?_)
  · refine kj_tableIn F dX4_exponent_1 (off := 36) (tgt := 37) (by rw [hc]; decide) (by rw [hc]; decide) (by rw [hc]; rfl) (by decide) ?_
    refine kj_iload_n F dX4_exponent_37 1 rfl rfl ?_
    refine kj_iload_n F dX4_exponent_38 2 rfl rfl ?_
    refine kj_cSip (As := [.int x1, .int x2]) (rest := []) F dX4_exponent_39 h (fun o h1 => cx_heightInRow (w := w) h1) (va_cwS 2 F.2.2.2.2.1 gX4_exponent_X0_heightInRow rfl rfl rfl (by decide +kernel) ⟨Nat.le_of_ble_eq_true rfl, Nat.le_of_ble_eq_true rfl⟩) rfl rfl (Nat.le_of_ble_eq_true rfl) ⟨Nat.zero_le _, Nat.zero_le _⟩ (fun o2 h => ?_)
    exact kj_iret F dX4_exponent_42 (kj_pr h)
  refine kj_if h (fun hc h => ?_) (fun hn1_2 h => ?_)
  · refine kj_tableIn F dX4_exponent_1 (off := 42) (tgt := 43) (by rw [hc]; decide) (by rw [hc]; decide) (by rw [hc]; rfl) (by decide) ?_
    refine kj_iload_n F dX4_exponent_43 1 rfl rfl ?_
    refine kj_cSip (As := [.int x1]) (rest := []) F dX4_exponent_44 h (fun o h1 => cr_heightsAboveZero (w := w) h1) (va_cwS 1 F.2.2.2.2.1 gX4_exponent_X4_heightsAboveZero rfl rfl rfl (by decide +kernel) ⟨Nat.le_of_ble_eq_true rfl, Nat.le_of_ble_eq_true rfl⟩) rfl rfl (Nat.le_of_ble_eq_true rfl) ⟨Nat.zero_le _, Nat.zero_le _⟩ (fun o3 h => ?_)
    exact kj_iret F dX4_exponent_47 (kj_pr h)
  refine kj_if h (fun hc h => ?_) (fun hn1_3 h => ?_)
  · refine kj_tableIn F dX4_exponent_1 (off := 47) (tgt := 48) (by rw [hc]; decide) (by rw [hc]; decide) (by rw [hc]; rfl) (by decide) ?_
    refine kj_iconst F dX4_exponent_48 (v := 1) (by decide) ?_
    exact kj_iret F dX4_exponent_49 (kj_pr h)
  refine kj_tableOut F dX4_exponent_1 (tgt := 50) (by have e0 : Int32.toInt x0 ≠ 1 := fun q => hn1_0 (Int32.toInt_inj.mp (q.trans (by decide))); have e1 : Int32.toInt x0 ≠ 2 := fun q => hn1_1 (Int32.toInt_inj.mp (q.trans (by decide))); have e2 : Int32.toInt x0 ≠ 3 := fun q => hn1_2 (Int32.toInt_inj.mp (q.trans (by decide))); have e3 : Int32.toInt x0 ≠ 4 := fun q => hn1_3 (Int32.toInt_inj.mp (q.trans (by decide))); omega) (by decide) ?_
  refine kj_iconst F dX4_exponent_50 (v := 0) (by decide) ?_
  exact kj_iret F dX4_exponent_51 (kj_pr h)
theorem cr_exponent {l : Launch} {D : va_G} {tys : List (ClassId × FieldType)} {S : Type} {w : S → va_W} {z : S} {x0 : Int32} {x1 : Int32} {x2 : Int32} {o : Int32} (h : fr_exponent x0 x1 x2 = some o) : kj_Mi l yX4_exponent wsX4_exponent rm_X4_exponent D tys w z [.int x0, .int x1, .int x2] (o, z) :=
  fun sz => kj_start (by decide) rfl (Nat.le_of_ble_eq_true rfl) rfl fun p e s m args below meth c hsz F => jr_exponent F h
/-! X4_countUnder -/
abbrev rm_X4_countUnder : Room := { frames := 1, cells := 0, slots := 0, locals := 23 }
theorem in_X4_countUnder_X4 : ∀ w ∈ u_ws RX4 TX4 4, w ∈ wsX4_countUnder := by decide +kernel
def fr_countUnder_72 (n : Nat) (x1 : Int32) (x2 : Int32) (x3 : Int32) (x4 : Int32) (z : kr_S) : Option ((Int32 × Int32 × Int32 × Int32 × kr_S) ⊕ (Int32 × Int32 × Int32 × kr_S)) :=
  some (.inl (x1, x2, x3, (x4 + 1), z))
def fr_countUnder_33 (n : Nat) (x1 : Int32) (x2 : Int32) (x3 : Int32) (x4 : Int32) (z : kr_S) : Option ((Int32 × Int32 × Int32 × Int32 × kr_S) ⊕ (Int32 × Int32 × Int32 × kr_S)) :=
  if x2 < x4 then
  some (.inr (x1, x2, x3, z))
  else
  (kr_rd n z x2).bind fun v1 =>
  (kr_rd n z x4).bind fun v2 =>
  (fr_covers v1 v2).bind fun o3 =>
  if o3 = 0 then
  fr_countUnder_72 n x1 x2 x3 x4 z
  else
  (kr_ix (x1 - (1 : Int32))).bind fun k4 =>
  (kr_ru n z k4 x4).bind fun v5 =>
  fr_countUnder_72 n x1 x2 (x3 + v5) x4 z
def lr_countUnder_33 (n : Nat) (fu : Nat) (x1 : Int32) (x2 : Int32) (x3 : Int32) (x4 : Int32) (z : kr_S) : Option (Int32 × Int32 × Int32 × kr_S) :=
  kj_it (fun (s : (Int32 × Int32 × Int32 × Int32 × kr_S)) => fr_countUnder_33 n (s.1) (s.2.1) (s.2.2.1) (s.2.2.2.1) (s.2.2.2.2)) fu (x1, x2, x3, x4, z)
def fr_countUnder_19 (n : Nat) (x1 : Int32) (x2 : Int32) (z : kr_S) : Option ((Int32 × Int32 × kr_S) ⊕ (Int32 × kr_S)) :=
  if (nI n) ≤ x2 then
  some (.inr (x1, z))
  else
  (lr_countUnder_33 n 5000 x1 x2 (0 : Int32) (0 : Int32) z).bind fun r1 =>
  (kr_ix (r1.1)).bind fun k2 =>
  (kr_wu n (r1.2.2.2) k2 (r1.2.1) (r1.2.2.1)).bind fun z3 =>
  some (.inl ((r1.1), ((r1.2.1) + 1), z3))
def lr_countUnder_19 (n : Nat) (fu : Nat) (x1 : Int32) (x2 : Int32) (z : kr_S) : Option (Int32 × kr_S) :=
  kj_it (fun (s : (Int32 × Int32 × kr_S)) => fr_countUnder_19 n (s.1) (s.2.1) (s.2.2)) fu (x1, x2, z)
def fr_countUnder_12 (n : Nat) (x1 : Int32) (z : kr_S) : Option ((Int32 × kr_S) ⊕ kr_S) :=
  if (4 : Int32) < x1 then
  some (.inr z)
  else
  (lr_countUnder_19 n 5000 x1 (0 : Int32) z).bind fun r1 =>
  some (.inl (((r1.1) + 1), (r1.2)))
def lr_countUnder_12 (n : Nat) (fu : Nat) (x1 : Int32) (z : kr_S) : Option kr_S :=
  kj_it (fun (s : (Int32 × kr_S)) => fr_countUnder_12 n (s.1) (s.2)) fu (x1, z)
def fr_countUnder (n : Nat) (z : kr_S) : Option kr_S :=
  (kr_ix (0 : Int32)).bind fun k1 =>
  (fj_fill_53178 n (1 : Int32) (z.2.1 k1)).bind fun o2 =>
  (lr_countUnder_12 n 5000 (1 : Int32) (z.1, va_up z.2.1 k1 o2, z.2.2)).bind fun r3 =>
  some (r3)
set_option maxRecDepth 20000 in
theorem jr_countUnder_72 {p : Program} {l : Launch} {e : Env} {s : State} {m : MethodId} {args : Array Value} {below : List Frame} {meth : Method} {c : Code} {A : Nat → Prop} {D : va_G} {cA : Nat → ClassId} {a0 n : Nat} {q : Nat → Nat} {X Y : va_W} {Q : State → Prop} (F : kj_Fx p s m args meth c cX4_countUnder 5 wsX4_countUnder RX4 none D (kx_T cA) A) {x1 : Int32} {x2 : Int32} {x3 : Int32} {x4 : Int32} {z : kr_S} {o : ((Int32 × Int32 × Int32 × Int32 × kr_S) ⊕ (Int32 × Int32 × Int32 × kr_S))} (h : fr_countUnder_72 n x1 x2 x3 x4 z = some o) (kb : ∀ (a0' : Int32) (a1' : Int32) (a2' : Int32) (a3' : Int32) (a4' : kr_S), o = .inl (a0', a1', a2', a3', a4') → kj_J p l e rm_X4_countUnder s m args below meth c 0 0 Q 5 D A ((kr_W cA a0 q n X Y) a4') 33 [(0, .ref a0), (1, .int a0'), (2, .int a1'), (3, .int a2'), (4, .int a3')] []) (ke0 : ∀ (a0' : Int32) (a1' : Int32) (a2' : Int32) (a3' : kr_S), o = .inr (a0', a1', a2', a3') → kj_J p l e rm_X4_countUnder s m args below meth c 0 0 Q 5 D A ((kr_W cA a0 q n X Y) a3') 78 [(0, .ref a0), (1, .int a0'), (2, .int a1'), (3, .int a2')] []) : kj_J p l e rm_X4_countUnder s m args below meth c 0 0 Q 5 D A ((kr_W cA a0 q n X Y) z) 72 [(0, .ref a0), (1, .int x1), (2, .int x2), (3, .int x3), (4, .int x4)] [] := by
  unfold fr_countUnder_72 at h
  refine kj_iinc F dX4_countUnder_72 4 rfl (v := 1) (by decide) (by decide) (lv' := [(4, .int (x4 + 1)), (0, .ref a0), (1, .int x1), (2, .int x2), (3, .int x3)]) rfl ?_
  refine kj_goto F dX4_countUnder_75 (tgt := 33) (by decide) ?_
  refine kj_J.sub [1, 2, 3, 4, 0] rfl ?_
  exact kb x1 x2 x3 (x4 + 1) z (Option.some.inj h).symm
set_option maxRecDepth 20000 in
theorem jr_countUnder_33 {p : Program} {l : Launch} {e : Env} {s : State} {m : MethodId} {args : Array Value} {below : List Frame} {meth : Method} {c : Code} {A : Nat → Prop} {D : va_G} {cA : Nat → ClassId} {a0 n : Nat} {q : Nat → Nat} {X Y : va_W} {Q : State → Prop} (F : kj_Fx p s m args meth c cX4_countUnder 5 wsX4_countUnder RX4 none D (kx_T cA) A) {x1 : Int32} {x2 : Int32} {x3 : Int32} {x4 : Int32} {z : kr_S} {o : ((Int32 × Int32 × Int32 × Int32 × kr_S) ⊕ (Int32 × Int32 × Int32 × kr_S))} (h : fr_countUnder_33 n x1 x2 x3 x4 z = some o) (kb : ∀ (a0' : Int32) (a1' : Int32) (a2' : Int32) (a3' : Int32) (a4' : kr_S), o = .inl (a0', a1', a2', a3', a4') → kj_J p l e rm_X4_countUnder s m args below meth c 0 0 Q 5 D A ((kr_W cA a0 q n X Y) a4') 33 [(0, .ref a0), (1, .int a0'), (2, .int a1'), (3, .int a2'), (4, .int a3')] []) (ke0 : ∀ (a0' : Int32) (a1' : Int32) (a2' : Int32) (a3' : kr_S), o = .inr (a0', a1', a2', a3') → kj_J p l e rm_X4_countUnder s m args below meth c 0 0 Q 5 D A ((kr_W cA a0 q n X Y) a3') 78 [(0, .ref a0), (1, .int a0'), (2, .int a1'), (3, .int a2')] []) : kj_J p l e rm_X4_countUnder s m args below meth c 0 0 Q 5 D A ((kr_W cA a0 q n X Y) z) 33 [(0, .ref a0), (1, .int x1), (2, .int x2), (3, .int x3), (4, .int x4)] [] := by
  unfold fr_countUnder_33 at h
  refine kj_iload F dX4_countUnder_33 4 rfl ?_
  refine kj_iload_n F dX4_countUnder_35 2 rfl rfl ?_
  refine kj_icmp_gt F dX4_countUnder_36 (tgt := 78) (by decide) h (fun hc h => ?_) (fun hc h => ?_)
  · refine kj_J.sub [0, 1, 2, 3] rfl ?_
    exact ke0 x1 x2 x3 z (Option.some.inj h).symm
  · refine kj_aload_n F dX4_countUnder_39 0 rfl rfl ?_
    refine kr_get F dX4_countUnder_40 in_X4_countUnder_X4 0 (by decide) (by decide +kernel) rfl rfl ?_
    refine kj_iload_n F dX4_countUnder_43 2 rfl rfl ?_
    refine kr_rald F dX4_countUnder_44 h (fun v1 h => ?_)
    refine kj_aload_n F dX4_countUnder_45 0 rfl rfl ?_
    refine kr_get F dX4_countUnder_46 in_X4_countUnder_X4 0 (by decide) (by decide +kernel) rfl rfl ?_
    refine kj_iload F dX4_countUnder_49 4 rfl ?_
    refine kr_rald F dX4_countUnder_51 h (fun v2 h => ?_)
    refine kj_cSip (As := [.int v1, .int v2]) (rest := []) F dX4_countUnder_52 h (fun o h1 => cr_covers (w := (kr_W cA a0 q n X Y)) h1) (va_cwS 2 F.2.2.2.2.1 gX4_countUnder_X4_covers rfl rfl rfl (by decide +kernel) ⟨Nat.le_of_ble_eq_true rfl, Nat.le_of_ble_eq_true rfl⟩) rfl rfl (Nat.le_of_ble_eq_true rfl) ⟨Nat.zero_le _, Nat.zero_le _⟩ (fun o3 h => ?_)
    refine kj_if_eq F dX4_countUnder_55 (tgt := 72) (by decide) h (fun hc h => ?_) (fun hc h => ?_)
    · exact jr_countUnder_72 F h kb ke0
    · refine kj_iload_n F dX4_countUnder_58 3 rfl rfl ?_
      refine kj_aload_n F dX4_countUnder_59 0 rfl rfl ?_
      refine kr_get F dX4_countUnder_60 in_X4_countUnder_X4 1 (by decide) (by decide +kernel) rfl rfl ?_
      refine kj_iload_n F dX4_countUnder_63 1 rfl rfl ?_
      refine kj_iconst F dX4_countUnder_64 (v := 1) (by decide) ?_
      refine kj_isub F dX4_countUnder_65 ?_
      refine kr_oald F dX4_countUnder_66 h (fun k4 hk4 h => ?_)
      refine kj_iload F dX4_countUnder_67 4 rfl ?_
      refine kr_uald F dX4_countUnder_69 k4 hk4 h (fun v5 h => ?_)
      refine kj_iadd F dX4_countUnder_70 ?_
      refine kj_istore_n F dX4_countUnder_71 (lv' := [(3, .int (x3 + v5)), (0, .ref a0), (1, .int x1), (2, .int x2), (4, .int x4)]) rfl (by decide) rfl ?_
      refine kj_J.sub [1, 2, 3, 0, 4] rfl ?_
      exact jr_countUnder_72 F h kb ke0
theorem jlr_countUnder_33 {p : Program} {l : Launch} {e : Env} {s : State} {m : MethodId} {args : Array Value} {below : List Frame} {meth : Method} {c : Code} {A : Nat → Prop} {D : va_G} {cA : Nat → ClassId} {a0 n : Nat} {q : Nat → Nat} {X Y : va_W} {Q : State → Prop} (F : kj_Fx p s m args meth c cX4_countUnder 5 wsX4_countUnder RX4 none D (kx_T cA) A) {fu : Nat} {x1 : Int32} {x2 : Int32} {x3 : Int32} {x4 : Int32} {z : kr_S} {r : (Int32 × Int32 × Int32 × kr_S)} (h : lr_countUnder_33 n fu x1 x2 x3 x4 z = some r) (ke : kj_J p l e rm_X4_countUnder s m args below meth c 0 0 Q 5 D A ((kr_W cA a0 q n X Y) (r.2.2.2)) 78 [(0, .ref a0), (1, .int (r.1)), (2, .int (r.2.1)), (3, .int (r.2.2.1))] []) : kj_J p l e rm_X4_countUnder s m args below meth c 0 0 Q 5 D A ((kr_W cA a0 q n X Y) z) 33 [(0, .ref a0), (1, .int x1), (2, .int x2), (3, .int x3), (4, .int x4)] [] :=
  kj_it_J (Wh := fun (u : (Int32 × Int32 × Int32 × Int32 × kr_S)) => kj_J p l e rm_X4_countUnder s m args below meth c 0 0 Q 5 D A ((kr_W cA a0 q n X Y) (u.2.2.2.2)) 33 [(0, .ref a0), (1, .int (u.1)), (2, .int (u.2.1)), (3, .int (u.2.2.1)), (4, .int (u.2.2.2.1))] []) (We := fun r => kj_J p l e rm_X4_countUnder s m args below meth c 0 0 Q 5 D A ((kr_W cA a0 q n X Y) (r.2.2.2)) 78 [(0, .ref a0), (1, .int (r.1)), (2, .int (r.2.1)), (3, .int (r.2.2.1))] []) (fun u o h kb ke => jr_countUnder_33 F h (fun a0' a1' a2' a3' a4' e => kb (a0', a1', a2', a3', a4') e) (fun a0' a1' a2' a3' e => ke (a0', a1', a2', a3') e)) fu (x1, x2, x3, x4, z) r h ke
set_option maxRecDepth 20000 in
theorem jr_countUnder_19 {p : Program} {l : Launch} {e : Env} {s : State} {m : MethodId} {args : Array Value} {below : List Frame} {meth : Method} {c : Code} {A : Nat → Prop} {D : va_G} {cA : Nat → ClassId} {a0 n : Nat} {q : Nat → Nat} {X Y : va_W} {Q : State → Prop} (F : kj_Fx p s m args meth c cX4_countUnder 5 wsX4_countUnder RX4 none D (kx_T cA) A) {x1 : Int32} {x2 : Int32} {z : kr_S} {o : ((Int32 × Int32 × kr_S) ⊕ (Int32 × kr_S))} (h : fr_countUnder_19 n x1 x2 z = some o) (kb : ∀ (a0' : Int32) (a1' : Int32) (a2' : kr_S), o = .inl (a0', a1', a2') → kj_J p l e rm_X4_countUnder s m args below meth c 0 0 Q 5 D A ((kr_W cA a0 q n X Y) a2') 19 [(0, .ref a0), (1, .int a0'), (2, .int a1')] []) (ke0 : ∀ (a0' : Int32) (a1' : kr_S), o = .inr (a0', a1') → kj_J p l e rm_X4_countUnder s m args below meth c 0 0 Q 5 D A ((kr_W cA a0 q n X Y) a1') 93 [(0, .ref a0), (1, .int a0')] []) : kj_J p l e rm_X4_countUnder s m args below meth c 0 0 Q 5 D A ((kr_W cA a0 q n X Y) z) 19 [(0, .ref a0), (1, .int x1), (2, .int x2)] [] := by
  unfold fr_countUnder_19 at h
  refine kj_iload_n F dX4_countUnder_19 2 rfl rfl ?_
  refine kj_aload_n F dX4_countUnder_20 0 rfl rfl ?_
  refine kr_get F dX4_countUnder_21 in_X4_countUnder_X4 0 (by decide) (by decide +kernel) rfl rfl ?_
  refine kr_rlen F dX4_countUnder_24 ?_
  refine kj_icmp_ge F dX4_countUnder_25 (tgt := 93) (by decide) h (fun hc h => ?_) (fun hc h => ?_)
  · refine kj_J.sub [0, 1] rfl ?_
    exact ke0 x1 z (Option.some.inj h).symm
  · refine kj_iconst F dX4_countUnder_28 (v := 0) (by decide) ?_
    refine kj_istore_n F dX4_countUnder_29 (lv' := [(3, .int (0 : Int32)), (0, .ref a0), (1, .int x1), (2, .int x2)]) rfl (by decide) rfl ?_
    refine kj_iconst F dX4_countUnder_30 (v := 0) (by decide) ?_
    refine kj_istore F dX4_countUnder_31 (lv' := [(4, .int (0 : Int32)), (3, .int (0 : Int32)), (0, .ref a0), (1, .int x1), (2, .int x2)]) (by decide) rfl ?_
    refine kj_J.sub [2, 3, 4, 1, 0] rfl ?_
    refine kj_bn h (fun r1 h1 h => ?_)
    refine jlr_countUnder_33 F h1 ?_
    refine kj_aload_n F dX4_countUnder_78 0 rfl rfl ?_
    refine kr_get F dX4_countUnder_79 in_X4_countUnder_X4 1 (by decide) (by decide +kernel) rfl rfl ?_
    refine kj_iload_n F dX4_countUnder_82 1 rfl rfl ?_
    refine kr_oald F dX4_countUnder_83 h (fun k2 hk2 h => ?_)
    refine kj_iload_n F dX4_countUnder_84 2 rfl rfl ?_
    refine kj_iload_n F dX4_countUnder_85 3 rfl rfl ?_
    refine kr_uast F dX4_countUnder_86 k2 hk2 h (fun z3 h => ?_)
    refine kj_iinc F dX4_countUnder_87 2 rfl (v := 1) (by decide) (by decide) (lv' := [(2, .int ((r1.2.1) + 1)), (0, .ref a0), (1, .int (r1.1)), (3, .int (r1.2.2.1))]) rfl ?_
    refine kj_goto F dX4_countUnder_90 (tgt := 19) (by decide) ?_
    refine kj_J.sub [1, 2, 0] rfl ?_
    exact kb (r1.1) ((r1.2.1) + 1) z3 (Option.some.inj h).symm
theorem jlr_countUnder_19 {p : Program} {l : Launch} {e : Env} {s : State} {m : MethodId} {args : Array Value} {below : List Frame} {meth : Method} {c : Code} {A : Nat → Prop} {D : va_G} {cA : Nat → ClassId} {a0 n : Nat} {q : Nat → Nat} {X Y : va_W} {Q : State → Prop} (F : kj_Fx p s m args meth c cX4_countUnder 5 wsX4_countUnder RX4 none D (kx_T cA) A) {fu : Nat} {x1 : Int32} {x2 : Int32} {z : kr_S} {r : (Int32 × kr_S)} (h : lr_countUnder_19 n fu x1 x2 z = some r) (ke : kj_J p l e rm_X4_countUnder s m args below meth c 0 0 Q 5 D A ((kr_W cA a0 q n X Y) (r.2)) 93 [(0, .ref a0), (1, .int (r.1))] []) : kj_J p l e rm_X4_countUnder s m args below meth c 0 0 Q 5 D A ((kr_W cA a0 q n X Y) z) 19 [(0, .ref a0), (1, .int x1), (2, .int x2)] [] :=
  kj_it_J (Wh := fun (u : (Int32 × Int32 × kr_S)) => kj_J p l e rm_X4_countUnder s m args below meth c 0 0 Q 5 D A ((kr_W cA a0 q n X Y) (u.2.2)) 19 [(0, .ref a0), (1, .int (u.1)), (2, .int (u.2.1))] []) (We := fun r => kj_J p l e rm_X4_countUnder s m args below meth c 0 0 Q 5 D A ((kr_W cA a0 q n X Y) (r.2)) 93 [(0, .ref a0), (1, .int (r.1))] []) (fun u o h kb ke => jr_countUnder_19 F h (fun a0' a1' a2' e => kb (a0', a1', a2') e) (fun a0' a1' e => ke (a0', a1') e)) fu (x1, x2, z) r h ke
set_option maxRecDepth 20000 in
theorem jr_countUnder_12 {p : Program} {l : Launch} {e : Env} {s : State} {m : MethodId} {args : Array Value} {below : List Frame} {meth : Method} {c : Code} {A : Nat → Prop} {D : va_G} {cA : Nat → ClassId} {a0 n : Nat} {q : Nat → Nat} {X Y : va_W} {Q : State → Prop} (F : kj_Fx p s m args meth c cX4_countUnder 5 wsX4_countUnder RX4 none D (kx_T cA) A) {x1 : Int32} {z : kr_S} {o : ((Int32 × kr_S) ⊕ kr_S)} (h : fr_countUnder_12 n x1 z = some o) (kb : ∀ (a0' : Int32) (a1' : kr_S), o = .inl (a0', a1') → kj_J p l e rm_X4_countUnder s m args below meth c 0 0 Q 5 D A ((kr_W cA a0 q n X Y) a1') 12 [(0, .ref a0), (1, .int a0')] []) (ke0 : ∀ (a0' : kr_S), o = .inr a0' → kj_J p l e rm_X4_countUnder s m args below meth c 0 0 Q 5 D A ((kr_W cA a0 q n X Y) a0') 99 [] []) : kj_J p l e rm_X4_countUnder s m args below meth c 0 0 Q 5 D A ((kr_W cA a0 q n X Y) z) 12 [(0, .ref a0), (1, .int x1)] [] := by
  unfold fr_countUnder_12 at h
  refine kj_iload_n F dX4_countUnder_12 1 rfl rfl ?_
  refine kj_iconst F dX4_countUnder_13 (v := 4) (by decide) ?_
  refine kj_icmp_gt F dX4_countUnder_14 (tgt := 99) (by decide) h (fun hc h => ?_) (fun hc h => ?_)
  · refine kj_J.sub [] rfl ?_
    exact ke0 z (Option.some.inj h).symm
  · refine kj_iconst F dX4_countUnder_17 (v := 0) (by decide) ?_
    refine kj_istore_n F dX4_countUnder_18 (lv' := [(2, .int (0 : Int32)), (0, .ref a0), (1, .int x1)]) rfl (by decide) rfl ?_
    refine kj_J.sub [1, 2, 0] rfl ?_
    refine kj_bn h (fun r1 h1 h => ?_)
    refine jlr_countUnder_19 F h1 ?_
    refine kj_iinc F dX4_countUnder_93 1 rfl (v := 1) (by decide) (by decide) (lv' := [(1, .int ((r1.1) + 1)), (0, .ref a0)]) rfl ?_
    refine kj_goto F dX4_countUnder_96 (tgt := 12) (by decide) ?_
    refine kj_J.sub [1, 0] rfl ?_
    exact kb ((r1.1) + 1) (r1.2) (Option.some.inj h).symm
theorem jlr_countUnder_12 {p : Program} {l : Launch} {e : Env} {s : State} {m : MethodId} {args : Array Value} {below : List Frame} {meth : Method} {c : Code} {A : Nat → Prop} {D : va_G} {cA : Nat → ClassId} {a0 n : Nat} {q : Nat → Nat} {X Y : va_W} {Q : State → Prop} (F : kj_Fx p s m args meth c cX4_countUnder 5 wsX4_countUnder RX4 none D (kx_T cA) A) {fu : Nat} {x1 : Int32} {z : kr_S} {r : kr_S} (h : lr_countUnder_12 n fu x1 z = some r) (ke : kj_J p l e rm_X4_countUnder s m args below meth c 0 0 Q 5 D A ((kr_W cA a0 q n X Y) (r)) 99 [] []) : kj_J p l e rm_X4_countUnder s m args below meth c 0 0 Q 5 D A ((kr_W cA a0 q n X Y) z) 12 [(0, .ref a0), (1, .int x1)] [] :=
  kj_it_J (Wh := fun (u : (Int32 × kr_S)) => kj_J p l e rm_X4_countUnder s m args below meth c 0 0 Q 5 D A ((kr_W cA a0 q n X Y) (u.2)) 12 [(0, .ref a0), (1, .int (u.1))] []) (We := fun r => kj_J p l e rm_X4_countUnder s m args below meth c 0 0 Q 5 D A ((kr_W cA a0 q n X Y) (r)) 99 [] []) (fun u o h kb ke => jr_countUnder_12 F h (fun a0' a1' e => kb (a0', a1') e) (fun a0' e => ke a0' e)) fu (x1, z) r h ke
set_option maxRecDepth 20000 in
theorem jr_countUnder {p : Program} {l : Launch} {e : Env} {s : State} {m : MethodId} {args : Array Value} {below : List Frame} {meth : Method} {c : Code} {A : Nat → Prop} {D : va_G} {cA : Nat → ClassId} {a0 n : Nat} {q : Nat → Nat} {X Y : va_W} (F : kj_Fx p s m args meth c cX4_countUnder 5 wsX4_countUnder RX4 none D (kx_T cA) A) {z : kr_S} {o : kr_S} (h : fr_countUnder n z = some o) : kj_J p l e rm_X4_countUnder s m args below meth c 0 0 (MQ below (kj_Qv D (kx_T cA) A (kr_W cA a0 q n X Y) o) args s 0 0 A) 5 D A ((kr_W cA a0 q n X Y) z) 0 [(0, .ref a0)] [] := by
  unfold fr_countUnder at h
  refine kj_aload_n F dX4_countUnder_0 0 rfl rfl ?_
  refine kr_get F dX4_countUnder_1 in_X4_countUnder_X4 1 (by decide) (by decide +kernel) rfl rfl ?_
  refine kj_iconst F dX4_countUnder_4 (v := 0) (by decide) ?_
  refine kr_oald F dX4_countUnder_5 h (fun k1 hk1 h => ?_)
  refine kj_iconst F dX4_countUnder_6 (v := 1) (by decide) ?_
  refine kj_cast (kr_lensU (cA := cA) (a0 := a0) (q := q) (n := n) (X := X) (Y := Y) z hk1).1 ?_
  refine kj_cSv (w := (fun f => kr_W cA a0 q n X Y (z.1, va_up z.2.1 k1 f, z.2.2))) (As := [.ref (q (k1 + 2)), .int (1 : Int32)]) (rest := []) F dX4_countUnder_7 h (fun o h1 => cj_fill_53178 (t0 := 0) (kr_lensU (cA := cA) (a0 := a0) (q := q) (n := n) (X := X) (Y := Y) z hk1).2.1 (kr_lensU (cA := cA) (a0 := a0) (q := q) (n := n) (X := X) (Y := Y) z hk1).2.2 rfl h1) (va_cwS 2 F.2.2.2.2.1 gX4_countUnder_J7_fill_53178 rfl rfl rfl (by decide +kernel) ⟨Nat.le_of_ble_eq_true rfl, Nat.le_of_ble_eq_true rfl⟩) rfl rfl (Nat.le_of_ble_eq_true rfl) ⟨Nat.zero_le _, Nat.zero_le _⟩ (fun o2 h => ?_)
  refine kj_iconst F dX4_countUnder_10 (v := 1) (by decide) ?_
  refine kj_istore_n F dX4_countUnder_11 (lv' := [(1, .int (1 : Int32)), (0, .ref a0)]) rfl (by decide) rfl ?_
  refine kj_J.sub [1, 0] rfl ?_
  refine kj_bn h (fun r3 h1 h => ?_)
  refine jlr_countUnder_12 F h1 ?_
  exact kj_vret F dX4_countUnder_99 h
theorem cr_countUnder {l : Launch} {D : va_G} {cA : Nat → ClassId} {a0 n : Nat} {q : Nat → Nat} {X Y : va_W} {z : kr_S} {o : kr_S} (h : fr_countUnder n z = some o) : kj_Mv l yX4_countUnder wsX4_countUnder rm_X4_countUnder D (kx_T cA) (kr_W cA a0 q n X Y) z [.ref a0] o :=
  fun sz => kj_start (by decide) rfl (Nat.le_of_ble_eq_true rfl) rfl fun p e s m args below meth c hsz F => jr_countUnder F h
/-! X4_heapsWith -/
abbrev rm_X4_heapsWith : Room := { frames := 0, cells := 0, slots := 0, locals := 0 }
theorem in_X4_heapsWith_X4 : ∀ w ∈ u_ws RX4 TX4 4, w ∈ wsX4_heapsWith := by decide +kernel
def fr_heapsWith (n : Nat) (x1 : Int32) (z : kr_S) : Option (Int32 × kr_S) :=
  (kr_ix x1).bind fun k1 =>
  (kr_ru n z k1 ((nI n) - (1 : Int32))).bind fun v2 =>
  some (v2, z)
set_option maxRecDepth 20000 in
theorem jr_heapsWith {p : Program} {l : Launch} {e : Env} {s : State} {m : MethodId} {args : Array Value} {below : List Frame} {meth : Method} {c : Code} {A : Nat → Prop} {D : va_G} {cA : Nat → ClassId} {a0 n : Nat} {q : Nat → Nat} {X Y : va_W} (F : kj_Fx p s m args meth c cX4_heapsWith 2 wsX4_heapsWith RX4 (some .int) D (kx_T cA) A) {x1 : Int32} {z : kr_S} {o : (Int32 × kr_S)} (h : fr_heapsWith n x1 z = some o) : kj_J p l e rm_X4_heapsWith s m args below meth c 0 0 (MQ below (kj_Qi D (kx_T cA) A (kr_W cA a0 q n X Y) o) args s 0 0 A) 2 D A ((kr_W cA a0 q n X Y) z) 0 [(0, .ref a0), (1, .int x1)] [] := by
  unfold fr_heapsWith at h
  refine kj_aload_n F dX4_heapsWith_0 0 rfl rfl ?_
  refine kr_get F dX4_heapsWith_1 in_X4_heapsWith_X4 1 (by decide) (by decide +kernel) rfl rfl ?_
  refine kj_iload_n F dX4_heapsWith_4 1 rfl rfl ?_
  refine kr_oald F dX4_heapsWith_5 h (fun k1 hk1 h => ?_)
  refine kj_aload_n F dX4_heapsWith_6 0 rfl rfl ?_
  refine kr_get F dX4_heapsWith_7 in_X4_heapsWith_X4 0 (by decide) (by decide +kernel) rfl rfl ?_
  refine kr_rlen F dX4_heapsWith_10 ?_
  refine kj_iconst F dX4_heapsWith_11 (v := 1) (by decide) ?_
  refine kj_isub F dX4_heapsWith_12 ?_
  refine kr_uald F dX4_heapsWith_13 k1 hk1 h (fun v2 h => ?_)
  exact kj_iret F dX4_heapsWith_14 h
theorem cr_heapsWith {l : Launch} {D : va_G} {cA : Nat → ClassId} {a0 n : Nat} {q : Nat → Nat} {X Y : va_W} {x1 : Int32} {z : kr_S} {o : (Int32 × kr_S)} (h : fr_heapsWith n x1 z = some o) : kj_Mi l yX4_heapsWith wsX4_heapsWith rm_X4_heapsWith D (kx_T cA) (kr_W cA a0 q n X Y) z [.ref a0, .int x1] o :=
  fun sz => kj_start (by decide) rfl (Nat.le_of_ble_eq_true rfl) rfl fun p e s m args below meth c hsz F => jr_heapsWith F h
/-! X4_numberOf -/
abbrev rm_X4_numberOf : Room := { frames := 1, cells := 0, slots := 0, locals := 22 }
theorem in_X4_numberOf_X4 : ∀ w ∈ u_ws RX4 TX4 4, w ∈ wsX4_numberOf := by decide +kernel
def fr_numberOf_93 (n : Nat) (x1 : Int32) (x2 : Int64) (x4 : Int32) (x5 : Int32) (x6 : Int32) (x7 : Int32) (x8 : Int32) (z : kr_S) : Option ((Int32 × Int64 × Int32 × Int32 × Int32 × Int32 × Int32 × kr_S) ⊕ (Int32 × Int64 × Int32 × Int32 × Int32 × kr_S)) :=
  some (.inl (x1, x2, x4, x5, x6, x7, (x8 + 1), z))
def fr_numberOf_37 (n : Nat) (x1 : Int32) (x2 : Int64) (x4 : Int32) (x5 : Int32) (x6 : Int32) (x7 : Int32) (x8 : Int32) (z : kr_S) : Option ((Int32 × Int64 × Int32 × Int32 × Int32 × Int32 × Int32 × kr_S) ⊕ (Int32 × Int64 × Int32 × Int32 × Int32 × kr_S)) :=
  if (nI n) ≤ x8 then
  some (.inr (x1, x2, x4, x6, x7, z))
  else
  (kr_rd n z x8).bind fun v1 =>
  if x7 ≤ v1 then
  some (.inr (x1, x2, x4, x6, x7, z))
  else
  (kr_rd n z x8).bind fun v2 =>
  (fr_covers x5 v2).bind fun o3 =>
  if o3 = 0 then
  fr_numberOf_93 n x1 x2 x4 x5 x6 x7 x8 z
  else
  (kr_ix ((x1 - (1 : Int32)) - x6)).bind fun k4 =>
  (kr_ru n z k4 x8).bind fun v5 =>
  fr_numberOf_93 n x1 x2 (x4 + v5) x5 x6 x7 x8 z
def lr_numberOf_37 (n : Nat) (fu : Nat) (x1 : Int32) (x2 : Int64) (x4 : Int32) (x5 : Int32) (x6 : Int32) (x7 : Int32) (x8 : Int32) (z : kr_S) : Option (Int32 × Int64 × Int32 × Int32 × Int32 × kr_S) :=
  kj_it (fun (s : (Int32 × Int64 × Int32 × Int32 × Int32 × Int32 × Int32 × kr_S)) => fr_numberOf_37 n (s.1) (s.2.1) (s.2.2.1) (s.2.2.2.1) (s.2.2.2.2.1) (s.2.2.2.2.2.1) (s.2.2.2.2.2.2.1) (s.2.2.2.2.2.2.2)) fu (x1, x2, x4, x5, x6, x7, x8, z)
def fr_numberOf_99 (n : Nat) (x1 : Int32) (x2 : Int64) (x4 : Int32) (x6 : Int32) (x7 : Int32) (z : kr_S) : Option ((Int32 × Int64 × Int32 × Int32 × Int32 × kr_S) ⊕ (Int32 × kr_S)) :=
  some (.inl (x1, x2, x4, x7, (x6 + 1), z))
def fr_numberOf_20 (n : Nat) (x1 : Int32) (x2 : Int64) (x4 : Int32) (x5 : Int32) (x6 : Int32) (z : kr_S) : Option ((Int32 × Int64 × Int32 × Int32 × Int32 × kr_S) ⊕ (Int32 × kr_S)) :=
  if x1 ≤ x6 then
  some (.inr (x4, z))
  else
  (fx_rowIn x2 x6).bind fun o1 =>
  (lr_numberOf_37 n 5000 x1 x2 x4 x5 x6 o1 (0 : Int32) z).bind fun r2 =>
  fr_numberOf_99 n (r2.1) (r2.2.1) (r2.2.2.1) (r2.2.2.2.1) (r2.2.2.2.2.1) (r2.2.2.2.2.2)
def lr_numberOf_20 (n : Nat) (fu : Nat) (x1 : Int32) (x2 : Int64) (x4 : Int32) (x5 : Int32) (x6 : Int32) (z : kr_S) : Option (Int32 × kr_S) :=
  kj_it (fun (s : (Int32 × Int64 × Int32 × Int32 × Int32 × kr_S)) => fr_numberOf_20 n (s.1) (s.2.1) (s.2.2.1) (s.2.2.2.1) (s.2.2.2.2.1) (s.2.2.2.2.2)) fu (x1, x2, x4, x5, x6, z)
def fr_numberOf (n : Nat) (x1 : Int32) (x2 : Int64) (z : kr_S) : Option (Int32 × kr_S) :=
  (kr_rd n z ((nI n) - (1 : Int32))).bind fun v1 =>
  (lr_numberOf_20 n 5000 x1 x2 (0 : Int32) v1 (0 : Int32) z).bind fun r2 =>
  some ((r2.1), (r2.2))
set_option maxRecDepth 20000 in
theorem jr_numberOf_93 {p : Program} {l : Launch} {e : Env} {s : State} {m : MethodId} {args : Array Value} {below : List Frame} {meth : Method} {c : Code} {A : Nat → Prop} {D : va_G} {cA : Nat → ClassId} {a0 n : Nat} {q : Nat → Nat} {X Y : va_W} {Q : State → Prop} (F : kj_Fx p s m args meth c cX4_numberOf 9 wsX4_numberOf RX4 (some .int) D (kx_T cA) A) {x1 : Int32} {x2 : Int64} {x4 : Int32} {x5 : Int32} {x6 : Int32} {x7 : Int32} {x8 : Int32} {z : kr_S} {o : ((Int32 × Int64 × Int32 × Int32 × Int32 × Int32 × Int32 × kr_S) ⊕ (Int32 × Int64 × Int32 × Int32 × Int32 × kr_S))} (h : fr_numberOf_93 n x1 x2 x4 x5 x6 x7 x8 z = some o) (kb : ∀ (a0' : Int32) (a1' : Int64) (a2' : Int32) (a3' : Int32) (a4' : Int32) (a5' : Int32) (a6' : Int32) (a7' : kr_S), o = .inl (a0', a1', a2', a3', a4', a5', a6', a7') → kj_J p l e rm_X4_numberOf s m args below meth c 0 0 Q 9 D A ((kr_W cA a0 q n X Y) a7') 37 [(0, .ref a0), (1, .int a0'), (2, .long a1'), (4, .int a2'), (5, .int a3'), (6, .int a4'), (7, .int a5'), (8, .int a6')] []) (ke0 : ∀ (a0' : Int32) (a1' : Int64) (a2' : Int32) (a3' : Int32) (a4' : Int32) (a5' : kr_S), o = .inr (a0', a1', a2', a3', a4', a5') → kj_J p l e rm_X4_numberOf s m args below meth c 0 0 Q 9 D A ((kr_W cA a0 q n X Y) a5') 99 [(0, .ref a0), (1, .int a0'), (2, .long a1'), (4, .int a2'), (6, .int a3'), (7, .int a4')] []) : kj_J p l e rm_X4_numberOf s m args below meth c 0 0 Q 9 D A ((kr_W cA a0 q n X Y) z) 93 [(0, .ref a0), (1, .int x1), (2, .long x2), (4, .int x4), (5, .int x5), (6, .int x6), (7, .int x7), (8, .int x8)] [] := by
  unfold fr_numberOf_93 at h
  refine kj_iinc F dX4_numberOf_93 7 rfl (v := 1) (by decide) (by decide) (lv' := [(8, .int (x8 + 1)), (0, .ref a0), (1, .int x1), (2, .long x2), (4, .int x4), (5, .int x5), (6, .int x6), (7, .int x7)]) rfl ?_
  refine kj_goto F dX4_numberOf_96 (tgt := 37) (by decide) ?_
  refine kj_J.sub [1, 2, 3, 4, 5, 6, 7, 0] rfl ?_
  exact kb x1 x2 x4 x5 x6 x7 (x8 + 1) z (Option.some.inj h).symm
set_option maxRecDepth 20000 in
theorem jr_numberOf_37 {p : Program} {l : Launch} {e : Env} {s : State} {m : MethodId} {args : Array Value} {below : List Frame} {meth : Method} {c : Code} {A : Nat → Prop} {D : va_G} {cA : Nat → ClassId} {a0 n : Nat} {q : Nat → Nat} {X Y : va_W} {Q : State → Prop} (F : kj_Fx p s m args meth c cX4_numberOf 9 wsX4_numberOf RX4 (some .int) D (kx_T cA) A) {x1 : Int32} {x2 : Int64} {x4 : Int32} {x5 : Int32} {x6 : Int32} {x7 : Int32} {x8 : Int32} {z : kr_S} {o : ((Int32 × Int64 × Int32 × Int32 × Int32 × Int32 × Int32 × kr_S) ⊕ (Int32 × Int64 × Int32 × Int32 × Int32 × kr_S))} (h : fr_numberOf_37 n x1 x2 x4 x5 x6 x7 x8 z = some o) (kb : ∀ (a0' : Int32) (a1' : Int64) (a2' : Int32) (a3' : Int32) (a4' : Int32) (a5' : Int32) (a6' : Int32) (a7' : kr_S), o = .inl (a0', a1', a2', a3', a4', a5', a6', a7') → kj_J p l e rm_X4_numberOf s m args below meth c 0 0 Q 9 D A ((kr_W cA a0 q n X Y) a7') 37 [(0, .ref a0), (1, .int a0'), (2, .long a1'), (4, .int a2'), (5, .int a3'), (6, .int a4'), (7, .int a5'), (8, .int a6')] []) (ke0 : ∀ (a0' : Int32) (a1' : Int64) (a2' : Int32) (a3' : Int32) (a4' : Int32) (a5' : kr_S), o = .inr (a0', a1', a2', a3', a4', a5') → kj_J p l e rm_X4_numberOf s m args below meth c 0 0 Q 9 D A ((kr_W cA a0 q n X Y) a5') 99 [(0, .ref a0), (1, .int a0'), (2, .long a1'), (4, .int a2'), (6, .int a3'), (7, .int a4')] []) : kj_J p l e rm_X4_numberOf s m args below meth c 0 0 Q 9 D A ((kr_W cA a0 q n X Y) z) 37 [(0, .ref a0), (1, .int x1), (2, .long x2), (4, .int x4), (5, .int x5), (6, .int x6), (7, .int x7), (8, .int x8)] [] := by
  unfold fr_numberOf_37 at h
  refine kj_iload F dX4_numberOf_37 7 rfl ?_
  refine kj_aload_n F dX4_numberOf_39 0 rfl rfl ?_
  refine kr_get F dX4_numberOf_40 in_X4_numberOf_X4 0 (by decide) (by decide +kernel) rfl rfl ?_
  refine kr_rlen F dX4_numberOf_43 ?_
  refine kj_icmp_ge F dX4_numberOf_44 (tgt := 99) (by decide) h (fun hc h => ?_) (fun hc h => ?_)
  · refine kj_J.sub [0, 1, 2, 3, 5, 6] rfl ?_
    exact ke0 x1 x2 x4 x6 x7 z (Option.some.inj h).symm
  · refine kj_aload_n F dX4_numberOf_47 0 rfl rfl ?_
    refine kr_get F dX4_numberOf_48 in_X4_numberOf_X4 0 (by decide) (by decide +kernel) rfl rfl ?_
    refine kj_iload F dX4_numberOf_51 7 rfl ?_
    refine kr_rald F dX4_numberOf_53 h (fun v1 h => ?_)
    refine kj_iload F dX4_numberOf_54 6 rfl ?_
    refine kj_icmp_ge F dX4_numberOf_56 (tgt := 99) (by decide) h (fun hc h => ?_) (fun hc h => ?_)
    · refine kj_J.sub [0, 1, 2, 3, 5, 6] rfl ?_
      exact ke0 x1 x2 x4 x6 x7 z (Option.some.inj h).symm
    · refine kj_iload F dX4_numberOf_59 4 rfl ?_
      refine kj_aload_n F dX4_numberOf_61 0 rfl rfl ?_
      refine kr_get F dX4_numberOf_62 in_X4_numberOf_X4 0 (by decide) (by decide +kernel) rfl rfl ?_
      refine kj_iload F dX4_numberOf_65 7 rfl ?_
      refine kr_rald F dX4_numberOf_67 h (fun v2 h => ?_)
      refine kj_cSip (As := [.int x5, .int v2]) (rest := []) F dX4_numberOf_68 h (fun o h1 => cr_covers (w := (kr_W cA a0 q n X Y)) h1) (va_cwS 2 F.2.2.2.2.1 gX4_numberOf_X4_covers rfl rfl rfl (by decide +kernel) ⟨Nat.le_of_ble_eq_true rfl, Nat.le_of_ble_eq_true rfl⟩) rfl rfl (Nat.le_of_ble_eq_true rfl) ⟨Nat.zero_le _, Nat.zero_le _⟩ (fun o3 h => ?_)
      refine kj_if_eq F dX4_numberOf_71 (tgt := 93) (by decide) h (fun hc h => ?_) (fun hc h => ?_)
      · exact jr_numberOf_93 F h kb ke0
      · refine kj_iload F dX4_numberOf_74 3 rfl ?_
        refine kj_aload_n F dX4_numberOf_76 0 rfl rfl ?_
        refine kr_get F dX4_numberOf_77 in_X4_numberOf_X4 1 (by decide) (by decide +kernel) rfl rfl ?_
        refine kj_iload_n F dX4_numberOf_80 1 rfl rfl ?_
        refine kj_iconst F dX4_numberOf_81 (v := 1) (by decide) ?_
        refine kj_isub F dX4_numberOf_82 ?_
        refine kj_iload F dX4_numberOf_83 5 rfl ?_
        refine kj_isub F dX4_numberOf_85 ?_
        refine kr_oald F dX4_numberOf_86 h (fun k4 hk4 h => ?_)
        refine kj_iload F dX4_numberOf_87 7 rfl ?_
        refine kr_uald F dX4_numberOf_89 k4 hk4 h (fun v5 h => ?_)
        refine kj_iadd F dX4_numberOf_90 ?_
        refine kj_istore F dX4_numberOf_91 (lv' := [(4, .int (x4 + v5)), (0, .ref a0), (1, .int x1), (2, .long x2), (5, .int x5), (6, .int x6), (7, .int x7), (8, .int x8)]) (by decide) rfl ?_
        refine kj_J.sub [1, 2, 3, 0, 4, 5, 6, 7] rfl ?_
        exact jr_numberOf_93 F h kb ke0
theorem jlr_numberOf_37 {p : Program} {l : Launch} {e : Env} {s : State} {m : MethodId} {args : Array Value} {below : List Frame} {meth : Method} {c : Code} {A : Nat → Prop} {D : va_G} {cA : Nat → ClassId} {a0 n : Nat} {q : Nat → Nat} {X Y : va_W} {Q : State → Prop} (F : kj_Fx p s m args meth c cX4_numberOf 9 wsX4_numberOf RX4 (some .int) D (kx_T cA) A) {fu : Nat} {x1 : Int32} {x2 : Int64} {x4 : Int32} {x5 : Int32} {x6 : Int32} {x7 : Int32} {x8 : Int32} {z : kr_S} {r : (Int32 × Int64 × Int32 × Int32 × Int32 × kr_S)} (h : lr_numberOf_37 n fu x1 x2 x4 x5 x6 x7 x8 z = some r) (ke : kj_J p l e rm_X4_numberOf s m args below meth c 0 0 Q 9 D A ((kr_W cA a0 q n X Y) (r.2.2.2.2.2)) 99 [(0, .ref a0), (1, .int (r.1)), (2, .long (r.2.1)), (4, .int (r.2.2.1)), (6, .int (r.2.2.2.1)), (7, .int (r.2.2.2.2.1))] []) : kj_J p l e rm_X4_numberOf s m args below meth c 0 0 Q 9 D A ((kr_W cA a0 q n X Y) z) 37 [(0, .ref a0), (1, .int x1), (2, .long x2), (4, .int x4), (5, .int x5), (6, .int x6), (7, .int x7), (8, .int x8)] [] :=
  kj_it_J (Wh := fun (u : (Int32 × Int64 × Int32 × Int32 × Int32 × Int32 × Int32 × kr_S)) => kj_J p l e rm_X4_numberOf s m args below meth c 0 0 Q 9 D A ((kr_W cA a0 q n X Y) (u.2.2.2.2.2.2.2)) 37 [(0, .ref a0), (1, .int (u.1)), (2, .long (u.2.1)), (4, .int (u.2.2.1)), (5, .int (u.2.2.2.1)), (6, .int (u.2.2.2.2.1)), (7, .int (u.2.2.2.2.2.1)), (8, .int (u.2.2.2.2.2.2.1))] []) (We := fun r => kj_J p l e rm_X4_numberOf s m args below meth c 0 0 Q 9 D A ((kr_W cA a0 q n X Y) (r.2.2.2.2.2)) 99 [(0, .ref a0), (1, .int (r.1)), (2, .long (r.2.1)), (4, .int (r.2.2.1)), (6, .int (r.2.2.2.1)), (7, .int (r.2.2.2.2.1))] []) (fun u o h kb ke => jr_numberOf_37 F h (fun a0' a1' a2' a3' a4' a5' a6' a7' e => kb (a0', a1', a2', a3', a4', a5', a6', a7') e) (fun a0' a1' a2' a3' a4' a5' e => ke (a0', a1', a2', a3', a4', a5') e)) fu (x1, x2, x4, x5, x6, x7, x8, z) r h ke
set_option maxRecDepth 20000 in
theorem jr_numberOf_99 {p : Program} {l : Launch} {e : Env} {s : State} {m : MethodId} {args : Array Value} {below : List Frame} {meth : Method} {c : Code} {A : Nat → Prop} {D : va_G} {cA : Nat → ClassId} {a0 n : Nat} {q : Nat → Nat} {X Y : va_W} {Q : State → Prop} (F : kj_Fx p s m args meth c cX4_numberOf 9 wsX4_numberOf RX4 (some .int) D (kx_T cA) A) {x1 : Int32} {x2 : Int64} {x4 : Int32} {x6 : Int32} {x7 : Int32} {z : kr_S} {o : ((Int32 × Int64 × Int32 × Int32 × Int32 × kr_S) ⊕ (Int32 × kr_S))} (h : fr_numberOf_99 n x1 x2 x4 x6 x7 z = some o) (kb : ∀ (a0' : Int32) (a1' : Int64) (a2' : Int32) (a3' : Int32) (a4' : Int32) (a5' : kr_S), o = .inl (a0', a1', a2', a3', a4', a5') → kj_J p l e rm_X4_numberOf s m args below meth c 0 0 Q 9 D A ((kr_W cA a0 q n X Y) a5') 20 [(0, .ref a0), (1, .int a0'), (2, .long a1'), (4, .int a2'), (5, .int a3'), (6, .int a4')] []) (ke0 : ∀ (a0' : Int32) (a1' : kr_S), o = .inr (a0', a1') → kj_J p l e rm_X4_numberOf s m args below meth c 0 0 Q 9 D A ((kr_W cA a0 q n X Y) a1') 109 [(4, .int a0')] []) : kj_J p l e rm_X4_numberOf s m args below meth c 0 0 Q 9 D A ((kr_W cA a0 q n X Y) z) 99 [(0, .ref a0), (1, .int x1), (2, .long x2), (4, .int x4), (6, .int x6), (7, .int x7)] [] := by
  unfold fr_numberOf_99 at h
  refine kj_iload F dX4_numberOf_99 5 rfl ?_
  refine kj_istore F dX4_numberOf_101 (lv' := [(5, .int x7), (0, .ref a0), (1, .int x1), (2, .long x2), (4, .int x4), (6, .int x6), (7, .int x7)]) (by decide) rfl ?_
  refine kj_iinc F dX4_numberOf_103 5 rfl (v := 1) (by decide) (by decide) (lv' := [(6, .int (x6 + 1)), (5, .int x7), (0, .ref a0), (1, .int x1), (2, .long x2), (4, .int x4), (7, .int x7)]) rfl ?_
  refine kj_goto F dX4_numberOf_106 (tgt := 20) (by decide) ?_
  refine kj_J.sub [2, 3, 4, 5, 1, 0] rfl ?_
  exact kb x1 x2 x4 x7 (x6 + 1) z (Option.some.inj h).symm
set_option maxRecDepth 20000 in
theorem jr_numberOf_20 {p : Program} {l : Launch} {e : Env} {s : State} {m : MethodId} {args : Array Value} {below : List Frame} {meth : Method} {c : Code} {A : Nat → Prop} {D : va_G} {cA : Nat → ClassId} {a0 n : Nat} {q : Nat → Nat} {X Y : va_W} {Q : State → Prop} (F : kj_Fx p s m args meth c cX4_numberOf 9 wsX4_numberOf RX4 (some .int) D (kx_T cA) A) {x1 : Int32} {x2 : Int64} {x4 : Int32} {x5 : Int32} {x6 : Int32} {z : kr_S} {o : ((Int32 × Int64 × Int32 × Int32 × Int32 × kr_S) ⊕ (Int32 × kr_S))} (h : fr_numberOf_20 n x1 x2 x4 x5 x6 z = some o) (kb : ∀ (a0' : Int32) (a1' : Int64) (a2' : Int32) (a3' : Int32) (a4' : Int32) (a5' : kr_S), o = .inl (a0', a1', a2', a3', a4', a5') → kj_J p l e rm_X4_numberOf s m args below meth c 0 0 Q 9 D A ((kr_W cA a0 q n X Y) a5') 20 [(0, .ref a0), (1, .int a0'), (2, .long a1'), (4, .int a2'), (5, .int a3'), (6, .int a4')] []) (ke0 : ∀ (a0' : Int32) (a1' : kr_S), o = .inr (a0', a1') → kj_J p l e rm_X4_numberOf s m args below meth c 0 0 Q 9 D A ((kr_W cA a0 q n X Y) a1') 109 [(4, .int a0')] []) : kj_J p l e rm_X4_numberOf s m args below meth c 0 0 Q 9 D A ((kr_W cA a0 q n X Y) z) 20 [(0, .ref a0), (1, .int x1), (2, .long x2), (4, .int x4), (5, .int x5), (6, .int x6)] [] := by
  unfold fr_numberOf_20 at h
  refine kj_iload F dX4_numberOf_20 5 rfl ?_
  refine kj_iload_n F dX4_numberOf_22 1 rfl rfl ?_
  refine kj_icmp_ge F dX4_numberOf_23 (tgt := 109) (by decide) h (fun hc h => ?_) (fun hc h => ?_)
  · refine kj_J.sub [3] rfl ?_
    exact ke0 x4 z (Option.some.inj h).symm
  · refine kj_lload_n F dX4_numberOf_26 2 rfl rfl ?_
    refine kj_iload F dX4_numberOf_27 5 rfl ?_
    refine kj_cSip (As := [.long x2, .int x6]) (rest := []) F dX4_numberOf_29 h (fun o h1 => cx_rowIn (w := (kr_W cA a0 q n X Y)) h1) (va_cwS 2 F.2.2.2.2.1 gX4_numberOf_X0_rowIn rfl rfl rfl (by decide +kernel) ⟨Nat.le_of_ble_eq_true rfl, Nat.le_of_ble_eq_true rfl⟩) rfl rfl (Nat.le_of_ble_eq_true rfl) ⟨Nat.zero_le _, Nat.zero_le _⟩ (fun o1 h => ?_)
    refine kj_istore F dX4_numberOf_32 (lv' := [(7, .int o1), (0, .ref a0), (1, .int x1), (2, .long x2), (4, .int x4), (5, .int x5), (6, .int x6)]) (by decide) rfl ?_
    refine kj_iconst F dX4_numberOf_34 (v := 0) (by decide) ?_
    refine kj_istore F dX4_numberOf_35 (lv' := [(8, .int (0 : Int32)), (7, .int o1), (0, .ref a0), (1, .int x1), (2, .long x2), (4, .int x4), (5, .int x5), (6, .int x6)]) (by decide) rfl ?_
    refine kj_J.sub [2, 3, 4, 5, 6, 7, 1, 0] rfl ?_
    refine kj_bn h (fun r2 h1 h => ?_)
    refine jlr_numberOf_37 F h1 ?_
    exact jr_numberOf_99 F h kb ke0
theorem jlr_numberOf_20 {p : Program} {l : Launch} {e : Env} {s : State} {m : MethodId} {args : Array Value} {below : List Frame} {meth : Method} {c : Code} {A : Nat → Prop} {D : va_G} {cA : Nat → ClassId} {a0 n : Nat} {q : Nat → Nat} {X Y : va_W} {Q : State → Prop} (F : kj_Fx p s m args meth c cX4_numberOf 9 wsX4_numberOf RX4 (some .int) D (kx_T cA) A) {fu : Nat} {x1 : Int32} {x2 : Int64} {x4 : Int32} {x5 : Int32} {x6 : Int32} {z : kr_S} {r : (Int32 × kr_S)} (h : lr_numberOf_20 n fu x1 x2 x4 x5 x6 z = some r) (ke : kj_J p l e rm_X4_numberOf s m args below meth c 0 0 Q 9 D A ((kr_W cA a0 q n X Y) (r.2)) 109 [(4, .int (r.1))] []) : kj_J p l e rm_X4_numberOf s m args below meth c 0 0 Q 9 D A ((kr_W cA a0 q n X Y) z) 20 [(0, .ref a0), (1, .int x1), (2, .long x2), (4, .int x4), (5, .int x5), (6, .int x6)] [] :=
  kj_it_J (Wh := fun (u : (Int32 × Int64 × Int32 × Int32 × Int32 × kr_S)) => kj_J p l e rm_X4_numberOf s m args below meth c 0 0 Q 9 D A ((kr_W cA a0 q n X Y) (u.2.2.2.2.2)) 20 [(0, .ref a0), (1, .int (u.1)), (2, .long (u.2.1)), (4, .int (u.2.2.1)), (5, .int (u.2.2.2.1)), (6, .int (u.2.2.2.2.1))] []) (We := fun r => kj_J p l e rm_X4_numberOf s m args below meth c 0 0 Q 9 D A ((kr_W cA a0 q n X Y) (r.2)) 109 [(4, .int (r.1))] []) (fun u o h kb ke => jr_numberOf_20 F h (fun a0' a1' a2' a3' a4' a5' e => kb (a0', a1', a2', a3', a4', a5') e) (fun a0' a1' e => ke (a0', a1') e)) fu (x1, x2, x4, x5, x6, z) r h ke
set_option maxRecDepth 20000 in
theorem jr_numberOf {p : Program} {l : Launch} {e : Env} {s : State} {m : MethodId} {args : Array Value} {below : List Frame} {meth : Method} {c : Code} {A : Nat → Prop} {D : va_G} {cA : Nat → ClassId} {a0 n : Nat} {q : Nat → Nat} {X Y : va_W} (F : kj_Fx p s m args meth c cX4_numberOf 9 wsX4_numberOf RX4 (some .int) D (kx_T cA) A) {x1 : Int32} {x2 : Int64} {z : kr_S} {o : (Int32 × kr_S)} (h : fr_numberOf n x1 x2 z = some o) : kj_J p l e rm_X4_numberOf s m args below meth c 0 0 (MQ below (kj_Qi D (kx_T cA) A (kr_W cA a0 q n X Y) o) args s 0 0 A) 9 D A ((kr_W cA a0 q n X Y) z) 0 [(0, .ref a0), (1, .int x1), (2, .long x2)] [] := by
  unfold fr_numberOf at h
  refine kj_iconst F dX4_numberOf_0 (v := 0) (by decide) ?_
  refine kj_istore F dX4_numberOf_1 (lv' := [(4, .int (0 : Int32)), (0, .ref a0), (1, .int x1), (2, .long x2)]) (by decide) rfl ?_
  refine kj_aload_n F dX4_numberOf_3 1 rfl rfl ?_
  refine kr_get F dX4_numberOf_4 in_X4_numberOf_X4 0 (by decide) (by decide +kernel) rfl rfl ?_
  refine kj_aload_n F dX4_numberOf_7 1 rfl rfl ?_
  refine kr_get F dX4_numberOf_8 in_X4_numberOf_X4 0 (by decide) (by decide +kernel) rfl rfl ?_
  refine kr_rlen F dX4_numberOf_11 ?_
  refine kj_iconst F dX4_numberOf_12 (v := 1) (by decide) ?_
  refine kj_isub F dX4_numberOf_13 ?_
  refine kr_rald F dX4_numberOf_14 h (fun v1 h => ?_)
  refine kj_istore F dX4_numberOf_15 (lv' := [(5, .int v1), (4, .int (0 : Int32)), (0, .ref a0), (1, .int x1), (2, .long x2)]) (by decide) rfl ?_
  refine kj_iconst F dX4_numberOf_17 (v := 0) (by decide) ?_
  refine kj_istore F dX4_numberOf_18 (lv' := [(6, .int (0 : Int32)), (5, .int v1), (4, .int (0 : Int32)), (0, .ref a0), (1, .int x1), (2, .long x2)]) (by decide) rfl ?_
  refine kj_J.sub [3, 4, 5, 2, 1, 0] rfl ?_
  refine kj_bn h (fun r2 h1 h => ?_)
  refine jlr_numberOf_20 F h1 ?_
  refine kj_iload F dX4_numberOf_109 0 rfl ?_
  exact kj_iret F dX4_numberOf_111 h
theorem cr_numberOf {l : Launch} {D : va_G} {cA : Nat → ClassId} {a0 n : Nat} {q : Nat → Nat} {X Y : va_W} {x1 : Int32} {x2 : Int64} {z : kr_S} {o : (Int32 × kr_S)} (h : fr_numberOf n x1 x2 z = some o) : kj_Mi l yX4_numberOf wsX4_numberOf rm_X4_numberOf D (kx_T cA) (kr_W cA a0 q n X Y) z [.ref a0, .int x1, .long x2] o :=
  fun sz => kj_start (by decide) rfl (Nat.le_of_ble_eq_true rfl) rfl fun p e s m args below meth c hsz F => jr_numberOf F h
/-! X4_cubesOf -/
abbrev rm_X4_cubesOf : Room := { frames := 1, cells := 0, slots := 0, locals := 23 }
theorem in_X4_cubesOf_X4 : ∀ w ∈ u_ws RX4 TX4 4, w ∈ wsX4_cubesOf := by decide +kernel
def fr_cubesOf_74 (n : Nat) (x1 : Int32) (x3 : Int64) (x5 : Int32) (x6 : Int32) (x7 : Int32) (x8 : Int32) (t0 : Int32) (z : kr_S) : Option ((Int32 × Int64 × Int32 × Int32 × Int32 × Int32 × kr_S) ⊕ ((Int32 × Int64 × Int32 × Int32 × Int32 × kr_S) ⊕ (Int32 × Int64 × Int32 × Int32 × Int32 × kr_S))) :=
  if t0 ≤ x5 then
  some (.inl (x1, x3, (x5 - t0), x6, x7, (x8 + 1), z))
  else
  some (.inr (.inl (x1, x3, x5, x7, x8, z)))
def fr_cubesOf_31 (n : Nat) (x1 : Int32) (x3 : Int64) (x5 : Int32) (x6 : Int32) (x7 : Int32) (x8 : Int32) (z : kr_S) : Option ((Int32 × Int64 × Int32 × Int32 × Int32 × Int32 × kr_S) ⊕ ((Int32 × Int64 × Int32 × Int32 × Int32 × kr_S) ⊕ (Int32 × Int64 × Int32 × Int32 × Int32 × kr_S))) :=
  if (nI n) ≤ x8 then
  some (.inr (.inr (x1, x3, x5, x6, x7, z)))
  else
  (kr_rd n z x8).bind fun v1 =>
  (fr_covers x6 v1).bind fun o2 =>
  if o2 = 0 then
  fr_cubesOf_74 n x1 x3 x5 x6 x7 x8 (0 : Int32) z
  else
  (kr_ix ((x1 - (1 : Int32)) - x7)).bind fun k3 =>
  (kr_ru n z k3 x8).bind fun v4 =>
  fr_cubesOf_74 n x1 x3 x5 x6 x7 x8 v4 z
def lr_cubesOf_31 (n : Nat) (fu : Nat) (x1 : Int32) (x3 : Int64) (x5 : Int32) (x6 : Int32) (x7 : Int32) (x8 : Int32) (z : kr_S) : Option ((Int32 × Int64 × Int32 × Int32 × Int32 × kr_S) ⊕ (Int32 × Int64 × Int32 × Int32 × Int32 × kr_S)) :=
  kj_it (fun (s : (Int32 × Int64 × Int32 × Int32 × Int32 × Int32 × kr_S)) => fr_cubesOf_31 n (s.1) (s.2.1) (s.2.2.1) (s.2.2.2.1) (s.2.2.2.2.1) (s.2.2.2.2.2.1) (s.2.2.2.2.2.2)) fu (x1, x3, x5, x6, x7, x8, z)
def fr_cubesOf_117 (n : Nat) (x1 : Int32) (x3 : Int64) (x5 : Int32) (x6 : Int32) (x7 : Int32) (z : kr_S) : Option ((Int32 × Int64 × Int32 × Int32 × Int32 × kr_S) ⊕ (Int64 × kr_S)) :=
  some (.inl (x1, x3, x5, x6, (x7 + 1), z))
def fr_cubesOf_22 (n : Nat) (x1 : Int32) (x3 : Int64) (x5 : Int32) (x6 : Int32) (x7 : Int32) (z : kr_S) : Option ((Int32 × Int64 × Int32 × Int32 × Int32 × kr_S) ⊕ (Int64 × kr_S)) :=
  if x1 ≤ x7 then
  some (.inr (x3, z))
  else
  (lr_cubesOf_31 n 5000 x1 x3 x5 x6 x7 (0 : Int32) z).bind fun r1 => kj_se r1 (fun a2 => (kr_rd n (a2.2.2.2.2.2) (a2.2.2.2.2.1)).bind fun v4 =>
  (fx_withRow (a2.2.1) (a2.2.2.2.1) v4).bind fun o5 =>
  fr_cubesOf_117 n (a2.1) o5 (a2.2.2.1) v4 (a2.2.2.2.1) (a2.2.2.2.2.2)) (fun b3 => fr_cubesOf_117 n (b3.1) (b3.2.1) (b3.2.2.1) (b3.2.2.2.1) (b3.2.2.2.2.1) (b3.2.2.2.2.2))
def lr_cubesOf_22 (n : Nat) (fu : Nat) (x1 : Int32) (x3 : Int64) (x5 : Int32) (x6 : Int32) (x7 : Int32) (z : kr_S) : Option (Int64 × kr_S) :=
  kj_it (fun (s : (Int32 × Int64 × Int32 × Int32 × Int32 × kr_S)) => fr_cubesOf_22 n (s.1) (s.2.1) (s.2.2.1) (s.2.2.2.1) (s.2.2.2.2.1) (s.2.2.2.2.2)) fu (x1, x3, x5, x6, x7, z)
def fr_cubesOf (n : Nat) (x1 : Int32) (x2 : Int32) (z : kr_S) : Option (Int64 × kr_S) :=
  (kr_rd n z ((nI n) - (1 : Int32))).bind fun v1 =>
  (lr_cubesOf_22 n 5000 x1 (0 : Int64) x2 v1 (0 : Int32) z).bind fun r2 =>
  some ((r2.1), (r2.2))
set_option maxRecDepth 20000 in
theorem jr_cubesOf_74 {p : Program} {l : Launch} {e : Env} {s : State} {m : MethodId} {args : Array Value} {below : List Frame} {meth : Method} {c : Code} {A : Nat → Prop} {D : va_G} {cA : Nat → ClassId} {a0 n : Nat} {q : Nat → Nat} {X Y : va_W} {Q : State → Prop} (F : kj_Fx p s m args meth c cX4_cubesOf 10 wsX4_cubesOf RX4 (some .long) D (kx_T cA) A) {x1 : Int32} {x3 : Int64} {x5 : Int32} {x6 : Int32} {x7 : Int32} {x8 : Int32} {t0 : Int32} {z : kr_S} {o : ((Int32 × Int64 × Int32 × Int32 × Int32 × Int32 × kr_S) ⊕ ((Int32 × Int64 × Int32 × Int32 × Int32 × kr_S) ⊕ (Int32 × Int64 × Int32 × Int32 × Int32 × kr_S)))} (h : fr_cubesOf_74 n x1 x3 x5 x6 x7 x8 t0 z = some o) (kb : ∀ (a0' : Int32) (a1' : Int64) (a2' : Int32) (a3' : Int32) (a4' : Int32) (a5' : Int32) (a6' : kr_S), o = .inl (a0', a1', a2', a3', a4', a5', a6') → kj_J p l e rm_X4_cubesOf s m args below meth c 0 0 Q 10 D A ((kr_W cA a0 q n X Y) a6') 31 [(0, .ref a0), (1, .int a0'), (3, .long a1'), (5, .int a2'), (6, .int a3'), (7, .int a4'), (8, .int a5')] []) (ke0 : ∀ (a0' : Int32) (a1' : Int64) (a2' : Int32) (a3' : Int32) (a4' : Int32) (a5' : kr_S), o = .inr (.inl (a0', a1', a2', a3', a4', a5')) → kj_J p l e rm_X4_cubesOf s m args below meth c 0 0 Q 10 D A ((kr_W cA a0 q n X Y) a5') 83 [(0, .ref a0), (1, .int a0'), (3, .long a1'), (5, .int a2'), (7, .int a3'), (8, .int a4')] []) (ke1 : ∀ (a0' : Int32) (a1' : Int64) (a2' : Int32) (a3' : Int32) (a4' : Int32) (a5' : kr_S), o = .inr (.inr (a0', a1', a2', a3', a4', a5')) → kj_J p l e rm_X4_cubesOf s m args below meth c 0 0 Q 10 D A ((kr_W cA a0 q n X Y) a5') 117 [(0, .ref a0), (1, .int a0'), (3, .long a1'), (5, .int a2'), (6, .int a3'), (7, .int a4')] []) : kj_J p l e rm_X4_cubesOf s m args below meth c 0 0 Q 10 D A ((kr_W cA a0 q n X Y) z) 74 [(0, .ref a0), (1, .int x1), (3, .long x3), (5, .int x5), (6, .int x6), (7, .int x7), (8, .int x8)] [.int t0] := by
  unfold fr_cubesOf_74 at h
  refine kj_istore F dX4_cubesOf_74 (lv' := [(9, .int t0), (0, .ref a0), (1, .int x1), (3, .long x3), (5, .int x5), (6, .int x6), (7, .int x7), (8, .int x8)]) (by decide) rfl ?_
  refine kj_iload F dX4_cubesOf_76 4 rfl ?_
  refine kj_iload F dX4_cubesOf_78 0 rfl ?_
  refine kj_icmp_ge F dX4_cubesOf_80 (tgt := 104) (by decide) h (fun hc h => ?_) (fun hc h => ?_)
  · refine kj_iload F dX4_cubesOf_104 4 rfl ?_
    refine kj_iload F dX4_cubesOf_106 0 rfl ?_
    refine kj_isub F dX4_cubesOf_108 ?_
    refine kj_istore F dX4_cubesOf_109 (lv' := [(5, .int (x5 - t0)), (9, .int t0), (0, .ref a0), (1, .int x1), (3, .long x3), (6, .int x6), (7, .int x7), (8, .int x8)]) (by decide) rfl ?_
    refine kj_iinc F dX4_cubesOf_111 7 rfl (v := 1) (by decide) (by decide) (lv' := [(8, .int (x8 + 1)), (5, .int (x5 - t0)), (9, .int t0), (0, .ref a0), (1, .int x1), (3, .long x3), (6, .int x6), (7, .int x7)]) rfl ?_
    refine kj_goto F dX4_cubesOf_114 (tgt := 31) (by decide) ?_
    refine kj_J.sub [3, 4, 5, 1, 6, 7, 0] rfl ?_
    exact kb x1 x3 (x5 - t0) x6 x7 (x8 + 1) z (Option.some.inj h).symm
  · refine kj_J.sub [1, 2, 3, 4, 6, 7] rfl ?_
    exact ke0 x1 x3 x5 x7 x8 z (Option.some.inj h).symm
set_option maxRecDepth 20000 in
theorem jr_cubesOf_31 {p : Program} {l : Launch} {e : Env} {s : State} {m : MethodId} {args : Array Value} {below : List Frame} {meth : Method} {c : Code} {A : Nat → Prop} {D : va_G} {cA : Nat → ClassId} {a0 n : Nat} {q : Nat → Nat} {X Y : va_W} {Q : State → Prop} (F : kj_Fx p s m args meth c cX4_cubesOf 10 wsX4_cubesOf RX4 (some .long) D (kx_T cA) A) {x1 : Int32} {x3 : Int64} {x5 : Int32} {x6 : Int32} {x7 : Int32} {x8 : Int32} {z : kr_S} {o : ((Int32 × Int64 × Int32 × Int32 × Int32 × Int32 × kr_S) ⊕ ((Int32 × Int64 × Int32 × Int32 × Int32 × kr_S) ⊕ (Int32 × Int64 × Int32 × Int32 × Int32 × kr_S)))} (h : fr_cubesOf_31 n x1 x3 x5 x6 x7 x8 z = some o) (kb : ∀ (a0' : Int32) (a1' : Int64) (a2' : Int32) (a3' : Int32) (a4' : Int32) (a5' : Int32) (a6' : kr_S), o = .inl (a0', a1', a2', a3', a4', a5', a6') → kj_J p l e rm_X4_cubesOf s m args below meth c 0 0 Q 10 D A ((kr_W cA a0 q n X Y) a6') 31 [(0, .ref a0), (1, .int a0'), (3, .long a1'), (5, .int a2'), (6, .int a3'), (7, .int a4'), (8, .int a5')] []) (ke0 : ∀ (a0' : Int32) (a1' : Int64) (a2' : Int32) (a3' : Int32) (a4' : Int32) (a5' : kr_S), o = .inr (.inl (a0', a1', a2', a3', a4', a5')) → kj_J p l e rm_X4_cubesOf s m args below meth c 0 0 Q 10 D A ((kr_W cA a0 q n X Y) a5') 83 [(0, .ref a0), (1, .int a0'), (3, .long a1'), (5, .int a2'), (7, .int a3'), (8, .int a4')] []) (ke1 : ∀ (a0' : Int32) (a1' : Int64) (a2' : Int32) (a3' : Int32) (a4' : Int32) (a5' : kr_S), o = .inr (.inr (a0', a1', a2', a3', a4', a5')) → kj_J p l e rm_X4_cubesOf s m args below meth c 0 0 Q 10 D A ((kr_W cA a0 q n X Y) a5') 117 [(0, .ref a0), (1, .int a0'), (3, .long a1'), (5, .int a2'), (6, .int a3'), (7, .int a4')] []) : kj_J p l e rm_X4_cubesOf s m args below meth c 0 0 Q 10 D A ((kr_W cA a0 q n X Y) z) 31 [(0, .ref a0), (1, .int x1), (3, .long x3), (5, .int x5), (6, .int x6), (7, .int x7), (8, .int x8)] [] := by
  unfold fr_cubesOf_31 at h
  refine kj_iload F dX4_cubesOf_31 6 rfl ?_
  refine kj_aload_n F dX4_cubesOf_33 0 rfl rfl ?_
  refine kr_get F dX4_cubesOf_34 in_X4_cubesOf_X4 0 (by decide) (by decide +kernel) rfl rfl ?_
  refine kr_rlen F dX4_cubesOf_37 ?_
  refine kj_icmp_ge F dX4_cubesOf_38 (tgt := 117) (by decide) h (fun hc h => ?_) (fun hc h => ?_)
  · refine kj_J.sub [0, 1, 2, 3, 4, 5] rfl ?_
    exact ke1 x1 x3 x5 x6 x7 z (Option.some.inj h).symm
  · refine kj_iload F dX4_cubesOf_41 4 rfl ?_
    refine kj_aload_n F dX4_cubesOf_43 0 rfl rfl ?_
    refine kr_get F dX4_cubesOf_44 in_X4_cubesOf_X4 0 (by decide) (by decide +kernel) rfl rfl ?_
    refine kj_iload F dX4_cubesOf_47 6 rfl ?_
    refine kr_rald F dX4_cubesOf_49 h (fun v1 h => ?_)
    refine kj_cSip (As := [.int x6, .int v1]) (rest := []) F dX4_cubesOf_50 h (fun o h1 => cr_covers (w := (kr_W cA a0 q n X Y)) h1) (va_cwS 2 F.2.2.2.2.1 gX4_cubesOf_X4_covers rfl rfl rfl (by decide +kernel) ⟨Nat.le_of_ble_eq_true rfl, Nat.le_of_ble_eq_true rfl⟩) rfl rfl (Nat.le_of_ble_eq_true rfl) ⟨Nat.zero_le _, Nat.zero_le _⟩ (fun o2 h => ?_)
    refine kj_if_eq F dX4_cubesOf_53 (tgt := 73) (by decide) h (fun hc h => ?_) (fun hc h => ?_)
    · refine kj_iconst F dX4_cubesOf_73 (v := 0) (by decide) ?_
      exact jr_cubesOf_74 F h kb ke0 ke1
    · refine kj_aload_n F dX4_cubesOf_56 0 rfl rfl ?_
      refine kr_get F dX4_cubesOf_57 in_X4_cubesOf_X4 1 (by decide) (by decide +kernel) rfl rfl ?_
      refine kj_iload_n F dX4_cubesOf_60 1 rfl rfl ?_
      refine kj_iconst F dX4_cubesOf_61 (v := 1) (by decide) ?_
      refine kj_isub F dX4_cubesOf_62 ?_
      refine kj_iload F dX4_cubesOf_63 5 rfl ?_
      refine kj_isub F dX4_cubesOf_65 ?_
      refine kr_oald F dX4_cubesOf_66 h (fun k3 hk3 h => ?_)
      refine kj_iload F dX4_cubesOf_67 6 rfl ?_
      refine kr_uald F dX4_cubesOf_69 k3 hk3 h (fun v4 h => ?_)
      refine kj_goto F dX4_cubesOf_70 (tgt := 74) (by decide) ?_
      exact jr_cubesOf_74 F h kb ke0 ke1
theorem jlr_cubesOf_31 {p : Program} {l : Launch} {e : Env} {s : State} {m : MethodId} {args : Array Value} {below : List Frame} {meth : Method} {c : Code} {A : Nat → Prop} {D : va_G} {cA : Nat → ClassId} {a0 n : Nat} {q : Nat → Nat} {X Y : va_W} {Q : State → Prop} (F : kj_Fx p s m args meth c cX4_cubesOf 10 wsX4_cubesOf RX4 (some .long) D (kx_T cA) A) {fu : Nat} {x1 : Int32} {x3 : Int64} {x5 : Int32} {x6 : Int32} {x7 : Int32} {x8 : Int32} {z : kr_S} {r : ((Int32 × Int64 × Int32 × Int32 × Int32 × kr_S) ⊕ (Int32 × Int64 × Int32 × Int32 × Int32 × kr_S))} (h : lr_cubesOf_31 n fu x1 x3 x5 x6 x7 x8 z = some r) (ke : (∀ a, r = (.inl a) → kj_J p l e rm_X4_cubesOf s m args below meth c 0 0 Q 10 D A ((kr_W cA a0 q n X Y) (a.2.2.2.2.2)) 83 [(0, .ref a0), (1, .int (a.1)), (3, .long (a.2.1)), (5, .int (a.2.2.1)), (7, .int (a.2.2.2.1)), (8, .int (a.2.2.2.2.1))] []) ∧ (∀ a, r = (.inr a) → kj_J p l e rm_X4_cubesOf s m args below meth c 0 0 Q 10 D A ((kr_W cA a0 q n X Y) (a.2.2.2.2.2)) 117 [(0, .ref a0), (1, .int (a.1)), (3, .long (a.2.1)), (5, .int (a.2.2.1)), (6, .int (a.2.2.2.1)), (7, .int (a.2.2.2.2.1))] [])) : kj_J p l e rm_X4_cubesOf s m args below meth c 0 0 Q 10 D A ((kr_W cA a0 q n X Y) z) 31 [(0, .ref a0), (1, .int x1), (3, .long x3), (5, .int x5), (6, .int x6), (7, .int x7), (8, .int x8)] [] :=
  kj_it_J (Wh := fun (u : (Int32 × Int64 × Int32 × Int32 × Int32 × Int32 × kr_S)) => kj_J p l e rm_X4_cubesOf s m args below meth c 0 0 Q 10 D A ((kr_W cA a0 q n X Y) (u.2.2.2.2.2.2)) 31 [(0, .ref a0), (1, .int (u.1)), (3, .long (u.2.1)), (5, .int (u.2.2.1)), (6, .int (u.2.2.2.1)), (7, .int (u.2.2.2.2.1)), (8, .int (u.2.2.2.2.2.1))] []) (We := fun r => (∀ a, r = (.inl a) → kj_J p l e rm_X4_cubesOf s m args below meth c 0 0 Q 10 D A ((kr_W cA a0 q n X Y) (a.2.2.2.2.2)) 83 [(0, .ref a0), (1, .int (a.1)), (3, .long (a.2.1)), (5, .int (a.2.2.1)), (7, .int (a.2.2.2.1)), (8, .int (a.2.2.2.2.1))] []) ∧ (∀ a, r = (.inr a) → kj_J p l e rm_X4_cubesOf s m args below meth c 0 0 Q 10 D A ((kr_W cA a0 q n X Y) (a.2.2.2.2.2)) 117 [(0, .ref a0), (1, .int (a.1)), (3, .long (a.2.1)), (5, .int (a.2.2.1)), (6, .int (a.2.2.2.1)), (7, .int (a.2.2.2.2.1))] [])) (fun u o h kb ke => jr_cubesOf_31 F h (fun a0' a1' a2' a3' a4' a5' a6' e => kb (a0', a1', a2', a3', a4', a5', a6') e) (fun a0' a1' a2' a3' a4' a5' e => (ke (.inl (a0', a1', a2', a3', a4', a5')) e).1 (a0', a1', a2', a3', a4', a5') rfl) (fun a0' a1' a2' a3' a4' a5' e => (ke (.inr (a0', a1', a2', a3', a4', a5')) e).2 (a0', a1', a2', a3', a4', a5') rfl)) fu (x1, x3, x5, x6, x7, x8, z) r h ke
set_option maxRecDepth 20000 in
theorem jr_cubesOf_117 {p : Program} {l : Launch} {e : Env} {s : State} {m : MethodId} {args : Array Value} {below : List Frame} {meth : Method} {c : Code} {A : Nat → Prop} {D : va_G} {cA : Nat → ClassId} {a0 n : Nat} {q : Nat → Nat} {X Y : va_W} {Q : State → Prop} (F : kj_Fx p s m args meth c cX4_cubesOf 10 wsX4_cubesOf RX4 (some .long) D (kx_T cA) A) {x1 : Int32} {x3 : Int64} {x5 : Int32} {x6 : Int32} {x7 : Int32} {z : kr_S} {o : ((Int32 × Int64 × Int32 × Int32 × Int32 × kr_S) ⊕ (Int64 × kr_S))} (h : fr_cubesOf_117 n x1 x3 x5 x6 x7 z = some o) (kb : ∀ (a0' : Int32) (a1' : Int64) (a2' : Int32) (a3' : Int32) (a4' : Int32) (a5' : kr_S), o = .inl (a0', a1', a2', a3', a4', a5') → kj_J p l e rm_X4_cubesOf s m args below meth c 0 0 Q 10 D A ((kr_W cA a0 q n X Y) a5') 22 [(0, .ref a0), (1, .int a0'), (3, .long a1'), (5, .int a2'), (6, .int a3'), (7, .int a4')] []) (ke0 : ∀ (a0' : Int64) (a1' : kr_S), o = .inr (a0', a1') → kj_J p l e rm_X4_cubesOf s m args below meth c 0 0 Q 10 D A ((kr_W cA a0 q n X Y) a1') 123 [(3, .long a0')] []) : kj_J p l e rm_X4_cubesOf s m args below meth c 0 0 Q 10 D A ((kr_W cA a0 q n X Y) z) 117 [(0, .ref a0), (1, .int x1), (3, .long x3), (5, .int x5), (6, .int x6), (7, .int x7)] [] := by
  unfold fr_cubesOf_117 at h
  refine kj_iinc F dX4_cubesOf_117 5 rfl (v := 1) (by decide) (by decide) (lv' := [(7, .int (x7 + 1)), (0, .ref a0), (1, .int x1), (3, .long x3), (5, .int x5), (6, .int x6)]) rfl ?_
  refine kj_goto F dX4_cubesOf_120 (tgt := 22) (by decide) ?_
  refine kj_J.sub [1, 2, 3, 4, 5, 0] rfl ?_
  exact kb x1 x3 x5 x6 (x7 + 1) z (Option.some.inj h).symm
set_option maxRecDepth 20000 in
theorem jr_cubesOf_22 {p : Program} {l : Launch} {e : Env} {s : State} {m : MethodId} {args : Array Value} {below : List Frame} {meth : Method} {c : Code} {A : Nat → Prop} {D : va_G} {cA : Nat → ClassId} {a0 n : Nat} {q : Nat → Nat} {X Y : va_W} {Q : State → Prop} (F : kj_Fx p s m args meth c cX4_cubesOf 10 wsX4_cubesOf RX4 (some .long) D (kx_T cA) A) {x1 : Int32} {x3 : Int64} {x5 : Int32} {x6 : Int32} {x7 : Int32} {z : kr_S} {o : ((Int32 × Int64 × Int32 × Int32 × Int32 × kr_S) ⊕ (Int64 × kr_S))} (h : fr_cubesOf_22 n x1 x3 x5 x6 x7 z = some o) (kb : ∀ (a0' : Int32) (a1' : Int64) (a2' : Int32) (a3' : Int32) (a4' : Int32) (a5' : kr_S), o = .inl (a0', a1', a2', a3', a4', a5') → kj_J p l e rm_X4_cubesOf s m args below meth c 0 0 Q 10 D A ((kr_W cA a0 q n X Y) a5') 22 [(0, .ref a0), (1, .int a0'), (3, .long a1'), (5, .int a2'), (6, .int a3'), (7, .int a4')] []) (ke0 : ∀ (a0' : Int64) (a1' : kr_S), o = .inr (a0', a1') → kj_J p l e rm_X4_cubesOf s m args below meth c 0 0 Q 10 D A ((kr_W cA a0 q n X Y) a1') 123 [(3, .long a0')] []) : kj_J p l e rm_X4_cubesOf s m args below meth c 0 0 Q 10 D A ((kr_W cA a0 q n X Y) z) 22 [(0, .ref a0), (1, .int x1), (3, .long x3), (5, .int x5), (6, .int x6), (7, .int x7)] [] := by
  unfold fr_cubesOf_22 at h
  refine kj_iload F dX4_cubesOf_22 5 rfl ?_
  refine kj_iload_n F dX4_cubesOf_24 1 rfl rfl ?_
  refine kj_icmp_ge F dX4_cubesOf_25 (tgt := 123) (by decide) h (fun hc h => ?_) (fun hc h => ?_)
  · refine kj_J.sub [2] rfl ?_
    exact ke0 x3 z (Option.some.inj h).symm
  · refine kj_iconst F dX4_cubesOf_28 (v := 0) (by decide) ?_
    refine kj_istore F dX4_cubesOf_29 (lv' := [(8, .int (0 : Int32)), (0, .ref a0), (1, .int x1), (3, .long x3), (5, .int x5), (6, .int x6), (7, .int x7)]) (by decide) rfl ?_
    refine kj_J.sub [1, 2, 3, 4, 5, 6, 0] rfl ?_
    refine kj_bn h (fun r1 h1 h => ?_)
    refine jlr_cubesOf_31 F h1 ?_
    refine ⟨fun a2 e => ?_, fun b3 e => ?_⟩
    · subst e
      refine kj_seL h (fun h => ?_)
      refine kj_aload_n F dX4_cubesOf_83 0 rfl rfl ?_
      refine kr_get F dX4_cubesOf_84 in_X4_cubesOf_X4 0 (by decide) (by decide +kernel) rfl rfl ?_
      refine kj_iload F dX4_cubesOf_87 5 rfl ?_
      refine kr_rald F dX4_cubesOf_89 h (fun v4 h => ?_)
      refine kj_istore F dX4_cubesOf_90 (lv' := [(6, .int v4), (0, .ref a0), (1, .int (a2.1)), (3, .long (a2.2.1)), (5, .int (a2.2.2.1)), (7, .int (a2.2.2.2.1)), (8, .int (a2.2.2.2.2.1))]) (by decide) rfl ?_
      refine kj_lload_n F dX4_cubesOf_92 3 rfl rfl ?_
      refine kj_iload F dX4_cubesOf_93 5 rfl ?_
      refine kj_iload F dX4_cubesOf_95 0 rfl ?_
      refine kj_cSlp (As := [.long (a2.2.1), .int (a2.2.2.2.1), .int v4]) (rest := []) F dX4_cubesOf_97 h (fun o h1 => cx_withRow (w := (kr_W cA a0 q n X Y)) h1) (va_cwS 3 F.2.2.2.2.1 gX4_cubesOf_X0_withRow rfl rfl rfl (by decide +kernel) ⟨Nat.le_of_ble_eq_true rfl, Nat.le_of_ble_eq_true rfl⟩) rfl rfl (Nat.le_of_ble_eq_true rfl) ⟨Nat.zero_le _, Nat.zero_le _⟩ (fun o5 h => ?_)
      refine kj_lstore_n F dX4_cubesOf_100 (lv' := [(3, .long o5), (6, .int v4), (0, .ref a0), (1, .int (a2.1)), (5, .int (a2.2.2.1)), (7, .int (a2.2.2.2.1)), (8, .int (a2.2.2.2.2.1))]) rfl (by decide) rfl ?_
      refine kj_goto F dX4_cubesOf_101 (tgt := 117) (by decide) ?_
      refine kj_J.sub [2, 3, 0, 4, 1, 5] rfl ?_
      exact jr_cubesOf_117 F h kb ke0
    · subst e
      refine kj_seR h (fun h => ?_)
      exact jr_cubesOf_117 F h kb ke0
theorem jlr_cubesOf_22 {p : Program} {l : Launch} {e : Env} {s : State} {m : MethodId} {args : Array Value} {below : List Frame} {meth : Method} {c : Code} {A : Nat → Prop} {D : va_G} {cA : Nat → ClassId} {a0 n : Nat} {q : Nat → Nat} {X Y : va_W} {Q : State → Prop} (F : kj_Fx p s m args meth c cX4_cubesOf 10 wsX4_cubesOf RX4 (some .long) D (kx_T cA) A) {fu : Nat} {x1 : Int32} {x3 : Int64} {x5 : Int32} {x6 : Int32} {x7 : Int32} {z : kr_S} {r : (Int64 × kr_S)} (h : lr_cubesOf_22 n fu x1 x3 x5 x6 x7 z = some r) (ke : kj_J p l e rm_X4_cubesOf s m args below meth c 0 0 Q 10 D A ((kr_W cA a0 q n X Y) (r.2)) 123 [(3, .long (r.1))] []) : kj_J p l e rm_X4_cubesOf s m args below meth c 0 0 Q 10 D A ((kr_W cA a0 q n X Y) z) 22 [(0, .ref a0), (1, .int x1), (3, .long x3), (5, .int x5), (6, .int x6), (7, .int x7)] [] :=
  kj_it_J (Wh := fun (u : (Int32 × Int64 × Int32 × Int32 × Int32 × kr_S)) => kj_J p l e rm_X4_cubesOf s m args below meth c 0 0 Q 10 D A ((kr_W cA a0 q n X Y) (u.2.2.2.2.2)) 22 [(0, .ref a0), (1, .int (u.1)), (3, .long (u.2.1)), (5, .int (u.2.2.1)), (6, .int (u.2.2.2.1)), (7, .int (u.2.2.2.2.1))] []) (We := fun r => kj_J p l e rm_X4_cubesOf s m args below meth c 0 0 Q 10 D A ((kr_W cA a0 q n X Y) (r.2)) 123 [(3, .long (r.1))] []) (fun u o h kb ke => jr_cubesOf_22 F h (fun a0' a1' a2' a3' a4' a5' e => kb (a0', a1', a2', a3', a4', a5') e) (fun a0' a1' e => ke (a0', a1') e)) fu (x1, x3, x5, x6, x7, z) r h ke
set_option maxRecDepth 20000 in
theorem jr_cubesOf {p : Program} {l : Launch} {e : Env} {s : State} {m : MethodId} {args : Array Value} {below : List Frame} {meth : Method} {c : Code} {A : Nat → Prop} {D : va_G} {cA : Nat → ClassId} {a0 n : Nat} {q : Nat → Nat} {X Y : va_W} (F : kj_Fx p s m args meth c cX4_cubesOf 10 wsX4_cubesOf RX4 (some .long) D (kx_T cA) A) {x1 : Int32} {x2 : Int32} {z : kr_S} {o : (Int64 × kr_S)} (h : fr_cubesOf n x1 x2 z = some o) : kj_J p l e rm_X4_cubesOf s m args below meth c 0 0 (MQ below (kj_Ql D (kx_T cA) A (kr_W cA a0 q n X Y) o) args s 0 0 A) 10 D A ((kr_W cA a0 q n X Y) z) 0 [(0, .ref a0), (1, .int x1), (2, .int x2)] [] := by
  unfold fr_cubesOf at h
  refine kj_lconst F dX4_cubesOf_0 (v := 0) (by decide) ?_
  refine kj_lstore_n F dX4_cubesOf_1 (lv' := [(3, .long (0 : Int64)), (0, .ref a0), (1, .int x1), (2, .int x2)]) rfl (by decide) rfl ?_
  refine kj_iload_n F dX4_cubesOf_2 3 rfl rfl ?_
  refine kj_istore F dX4_cubesOf_3 (lv' := [(5, .int x2), (3, .long (0 : Int64)), (0, .ref a0), (1, .int x1), (2, .int x2)]) (by decide) rfl ?_
  refine kj_aload_n F dX4_cubesOf_5 2 rfl rfl ?_
  refine kr_get F dX4_cubesOf_6 in_X4_cubesOf_X4 0 (by decide) (by decide +kernel) rfl rfl ?_
  refine kj_aload_n F dX4_cubesOf_9 2 rfl rfl ?_
  refine kr_get F dX4_cubesOf_10 in_X4_cubesOf_X4 0 (by decide) (by decide +kernel) rfl rfl ?_
  refine kr_rlen F dX4_cubesOf_13 ?_
  refine kj_iconst F dX4_cubesOf_14 (v := 1) (by decide) ?_
  refine kj_isub F dX4_cubesOf_15 ?_
  refine kr_rald F dX4_cubesOf_16 h (fun v1 h => ?_)
  refine kj_istore F dX4_cubesOf_17 (lv' := [(6, .int v1), (5, .int x2), (3, .long (0 : Int64)), (0, .ref a0), (1, .int x1), (2, .int x2)]) (by decide) rfl ?_
  refine kj_iconst F dX4_cubesOf_19 (v := 0) (by decide) ?_
  refine kj_istore F dX4_cubesOf_20 (lv' := [(7, .int (0 : Int32)), (6, .int v1), (5, .int x2), (3, .long (0 : Int64)), (0, .ref a0), (1, .int x1), (2, .int x2)]) (by decide) rfl ?_
  refine kj_J.sub [4, 5, 3, 2, 1, 0] rfl ?_
  refine kj_bn h (fun r2 h1 h => ?_)
  refine jlr_cubesOf_22 F h1 ?_
  refine kj_lload_n F dX4_cubesOf_123 0 rfl rfl ?_
  exact kj_lret F dX4_cubesOf_124 h
theorem cr_cubesOf {l : Launch} {D : va_G} {cA : Nat → ClassId} {a0 n : Nat} {q : Nat → Nat} {X Y : va_W} {x1 : Int32} {x2 : Int32} {z : kr_S} {o : (Int64 × kr_S)} (h : fr_cubesOf n x1 x2 z = some o) : kj_Ml l yX4_cubesOf wsX4_cubesOf rm_X4_cubesOf D (kx_T cA) (kr_W cA a0 q n X Y) z [.ref a0, .int x1, .int x2] o :=
  fun sz => kj_start (by decide) rfl (Nat.le_of_ble_eq_true rfl) rfl fun p e s m args below meth c hsz F => jr_cubesOf F h
/-! X4_beginWithFullRow -/
abbrev rm_X4_beginWithFullRow : Room := { frames := 1, cells := 0, slots := 0, locals := 24 }
theorem in_X4_beginWithFullRow_X4 : ∀ w ∈ u_ws RX4 TX4 4, w ∈ wsX4_beginWithFullRow := by decide +kernel
def fr_beginWithFullRow (n : Nat) (z : kr_S) : Option kr_S :=
  (fj_fill_d0a16 n (0 : Int64) (z.2.2 0)).bind fun o1 =>
  (kr_wl n (z.1, z.2.1, va_up z.2.2 0 o1) 0 ((nI n) - (1 : Int32)) (1 : Int64)).bind fun z2 =>
  some z2
set_option maxRecDepth 20000 in
theorem jr_beginWithFullRow {p : Program} {l : Launch} {e : Env} {s : State} {m : MethodId} {args : Array Value} {below : List Frame} {meth : Method} {c : Code} {A : Nat → Prop} {D : va_G} {cA : Nat → ClassId} {a0 n : Nat} {q : Nat → Nat} {X Y : va_W} (F : kj_Fx p s m args meth c cX4_beginWithFullRow 1 wsX4_beginWithFullRow RX4 none D (kx_T cA) A) {z : kr_S} {o : kr_S} (h : fr_beginWithFullRow n z = some o) : kj_J p l e rm_X4_beginWithFullRow s m args below meth c 0 0 (MQ below (kj_Qv D (kx_T cA) A (kr_W cA a0 q n X Y) o) args s 0 0 A) 1 D A ((kr_W cA a0 q n X Y) z) 0 [(0, .ref a0)] [] := by
  unfold fr_beginWithFullRow at h
  refine kj_aload_n F dX4_beginWithFullRow_0 0 rfl rfl ?_
  refine kr_get F dX4_beginWithFullRow_1 in_X4_beginWithFullRow_X4 2 (by decide) (by decide +kernel) rfl rfl ?_
  refine kj_lconst F dX4_beginWithFullRow_4 (v := 0) (by decide) ?_
  refine kj_cast (kr_lensJ (cA := cA) (a0 := a0) (q := q) (n := n) (X := X) (Y := Y) z (k := 0) (by decide)).1 ?_
  refine kj_cSv (w := (fun f => kr_W cA a0 q n X Y (z.1, z.2.1, va_up z.2.2 0 f))) (As := [.ref (q (0 + 7)), .long (0 : Int64)]) (rest := []) F dX4_beginWithFullRow_5 h (fun o h1 => cj_fill_d0a16 (t0 := 1) (kr_lensJ (cA := cA) (a0 := a0) (q := q) (n := n) (X := X) (Y := Y) z (k := 0) (by decide)).2.1 (kr_lensJ (cA := cA) (a0 := a0) (q := q) (n := n) (X := X) (Y := Y) z (k := 0) (by decide)).2.2 rfl h1) (va_cwS 2 F.2.2.2.2.1 gX4_beginWithFullRow_J7_fill_d0a16 rfl rfl rfl (by decide +kernel) ⟨Nat.le_of_ble_eq_true rfl, Nat.le_of_ble_eq_true rfl⟩) rfl rfl (Nat.le_of_ble_eq_true rfl) ⟨Nat.zero_le _, Nat.zero_le _⟩ (fun o1 h => ?_)
  refine kj_aload_n F dX4_beginWithFullRow_8 0 rfl rfl ?_
  refine kr_get F dX4_beginWithFullRow_9 in_X4_beginWithFullRow_X4 2 (by decide) (by decide +kernel) rfl rfl ?_
  refine kj_aload_n F dX4_beginWithFullRow_12 0 rfl rfl ?_
  refine kr_get F dX4_beginWithFullRow_13 in_X4_beginWithFullRow_X4 2 (by decide) (by decide +kernel) rfl rfl ?_
  refine kr_nlen F dX4_beginWithFullRow_16 0 (by decide) ?_
  refine kj_iconst F dX4_beginWithFullRow_17 (v := 1) (by decide) ?_
  refine kj_isub F dX4_beginWithFullRow_18 ?_
  refine kj_lconst F dX4_beginWithFullRow_19 (v := 1) (by decide) ?_
  refine kr_last F dX4_beginWithFullRow_20 0 (by decide) h (fun z2 h => ?_)
  exact kj_vret F dX4_beginWithFullRow_21 h
theorem cr_beginWithFullRow {l : Launch} {D : va_G} {cA : Nat → ClassId} {a0 n : Nat} {q : Nat → Nat} {X Y : va_W} {z : kr_S} {o : kr_S} (h : fr_beginWithFullRow n z = some o) : kj_Mv l yX4_beginWithFullRow wsX4_beginWithFullRow rm_X4_beginWithFullRow D (kx_T cA) (kr_W cA a0 q n X Y) z [.ref a0] o :=
  fun sz => kj_start (by decide) rfl (Nat.le_of_ble_eq_true rfl) rfl fun p e s m args below meth c hsz F => jr_beginWithFullRow F h
/-! X4_sumOfOthersAbove -/
abbrev rm_X4_sumOfOthersAbove : Room := { frames := 1, cells := 0, slots := 0, locals := 21 }
theorem in_X4_sumOfOthersAbove_X4 : ∀ w ∈ u_ws RX4 TX4 4, w ∈ wsX4_sumOfOthersAbove := by decide +kernel
def fr_sumOfOthersAbove_46 (n : Nat) (x1 : Int32) (x2 : Int64) (x4 : Int32) (z : kr_S) : Option ((Int32 × Int64 × Int32 × kr_S) ⊕ (Int64 × kr_S)) :=
  some (.inl (x1, x2, (x4 + 1), z))
def fr_sumOfOthersAbove_7 (n : Nat) (x1 : Int32) (x2 : Int64) (x4 : Int32) (z : kr_S) : Option ((Int32 × Int64 × Int32 × kr_S) ⊕ (Int64 × kr_S)) :=
  if (nI n) ≤ x4 then
  some (.inr (x2, z))
  else
  (kr_rd n z x4).bind fun v1 =>
  (kr_rd n z x1).bind fun v2 =>
  (fr_covers v1 v2).bind fun o3 =>
  if o3 = 0 then
  fr_sumOfOthersAbove_46 n x1 x2 x4 z
  else
  (kr_rl n z 0 x4).bind fun v4 =>
  fr_sumOfOthersAbove_46 n x1 (x2 + v4) x4 z
def lr_sumOfOthersAbove_7 (n : Nat) (fu : Nat) (x1 : Int32) (x2 : Int64) (x4 : Int32) (z : kr_S) : Option (Int64 × kr_S) :=
  kj_it (fun (s : (Int32 × Int64 × Int32 × kr_S)) => fr_sumOfOthersAbove_7 n (s.1) (s.2.1) (s.2.2.1) (s.2.2.2)) fu (x1, x2, x4, z)
def fr_sumOfOthersAbove (n : Nat) (x1 : Int32) (z : kr_S) : Option (Int64 × kr_S) :=
  (lr_sumOfOthersAbove_7 n 5000 x1 (0 : Int64) (x1 + (1 : Int32)) z).bind fun r1 =>
  some ((r1.1), (r1.2))
set_option maxRecDepth 20000 in
theorem jr_sumOfOthersAbove_46 {p : Program} {l : Launch} {e : Env} {s : State} {m : MethodId} {args : Array Value} {below : List Frame} {meth : Method} {c : Code} {A : Nat → Prop} {D : va_G} {cA : Nat → ClassId} {a0 n : Nat} {q : Nat → Nat} {X Y : va_W} {Q : State → Prop} (F : kj_Fx p s m args meth c cX4_sumOfOthersAbove 5 wsX4_sumOfOthersAbove RX4 (some .long) D (kx_T cA) A) {x1 : Int32} {x2 : Int64} {x4 : Int32} {z : kr_S} {o : ((Int32 × Int64 × Int32 × kr_S) ⊕ (Int64 × kr_S))} (h : fr_sumOfOthersAbove_46 n x1 x2 x4 z = some o) (kb : ∀ (a0' : Int32) (a1' : Int64) (a2' : Int32) (a3' : kr_S), o = .inl (a0', a1', a2', a3') → kj_J p l e rm_X4_sumOfOthersAbove s m args below meth c 0 0 Q 5 D A ((kr_W cA a0 q n X Y) a3') 7 [(0, .ref a0), (1, .int a0'), (2, .long a1'), (4, .int a2')] []) (ke0 : ∀ (a0' : Int64) (a1' : kr_S), o = .inr (a0', a1') → kj_J p l e rm_X4_sumOfOthersAbove s m args below meth c 0 0 Q 5 D A ((kr_W cA a0 q n X Y) a1') 52 [(2, .long a0')] []) : kj_J p l e rm_X4_sumOfOthersAbove s m args below meth c 0 0 Q 5 D A ((kr_W cA a0 q n X Y) z) 46 [(0, .ref a0), (1, .int x1), (2, .long x2), (4, .int x4)] [] := by
  unfold fr_sumOfOthersAbove_46 at h
  refine kj_iinc F dX4_sumOfOthersAbove_46 3 rfl (v := 1) (by decide) (by decide) (lv' := [(4, .int (x4 + 1)), (0, .ref a0), (1, .int x1), (2, .long x2)]) rfl ?_
  refine kj_goto F dX4_sumOfOthersAbove_49 (tgt := 7) (by decide) ?_
  refine kj_J.sub [1, 2, 3, 0] rfl ?_
  exact kb x1 x2 (x4 + 1) z (Option.some.inj h).symm
set_option maxRecDepth 20000 in
theorem jr_sumOfOthersAbove_7 {p : Program} {l : Launch} {e : Env} {s : State} {m : MethodId} {args : Array Value} {below : List Frame} {meth : Method} {c : Code} {A : Nat → Prop} {D : va_G} {cA : Nat → ClassId} {a0 n : Nat} {q : Nat → Nat} {X Y : va_W} {Q : State → Prop} (F : kj_Fx p s m args meth c cX4_sumOfOthersAbove 5 wsX4_sumOfOthersAbove RX4 (some .long) D (kx_T cA) A) {x1 : Int32} {x2 : Int64} {x4 : Int32} {z : kr_S} {o : ((Int32 × Int64 × Int32 × kr_S) ⊕ (Int64 × kr_S))} (h : fr_sumOfOthersAbove_7 n x1 x2 x4 z = some o) (kb : ∀ (a0' : Int32) (a1' : Int64) (a2' : Int32) (a3' : kr_S), o = .inl (a0', a1', a2', a3') → kj_J p l e rm_X4_sumOfOthersAbove s m args below meth c 0 0 Q 5 D A ((kr_W cA a0 q n X Y) a3') 7 [(0, .ref a0), (1, .int a0'), (2, .long a1'), (4, .int a2')] []) (ke0 : ∀ (a0' : Int64) (a1' : kr_S), o = .inr (a0', a1') → kj_J p l e rm_X4_sumOfOthersAbove s m args below meth c 0 0 Q 5 D A ((kr_W cA a0 q n X Y) a1') 52 [(2, .long a0')] []) : kj_J p l e rm_X4_sumOfOthersAbove s m args below meth c 0 0 Q 5 D A ((kr_W cA a0 q n X Y) z) 7 [(0, .ref a0), (1, .int x1), (2, .long x2), (4, .int x4)] [] := by
  unfold fr_sumOfOthersAbove_7 at h
  refine kj_iload F dX4_sumOfOthersAbove_7 3 rfl ?_
  refine kj_aload_n F dX4_sumOfOthersAbove_9 0 rfl rfl ?_
  refine kr_get F dX4_sumOfOthersAbove_10 in_X4_sumOfOthersAbove_X4 0 (by decide) (by decide +kernel) rfl rfl ?_
  refine kr_rlen F dX4_sumOfOthersAbove_13 ?_
  refine kj_icmp_ge F dX4_sumOfOthersAbove_14 (tgt := 52) (by decide) h (fun hc h => ?_) (fun hc h => ?_)
  · refine kj_J.sub [2] rfl ?_
    exact ke0 x2 z (Option.some.inj h).symm
  · refine kj_aload_n F dX4_sumOfOthersAbove_17 0 rfl rfl ?_
    refine kr_get F dX4_sumOfOthersAbove_18 in_X4_sumOfOthersAbove_X4 0 (by decide) (by decide +kernel) rfl rfl ?_
    refine kj_iload F dX4_sumOfOthersAbove_21 3 rfl ?_
    refine kr_rald F dX4_sumOfOthersAbove_23 h (fun v1 h => ?_)
    refine kj_aload_n F dX4_sumOfOthersAbove_24 0 rfl rfl ?_
    refine kr_get F dX4_sumOfOthersAbove_25 in_X4_sumOfOthersAbove_X4 0 (by decide) (by decide +kernel) rfl rfl ?_
    refine kj_iload_n F dX4_sumOfOthersAbove_28 1 rfl rfl ?_
    refine kr_rald F dX4_sumOfOthersAbove_29 h (fun v2 h => ?_)
    refine kj_cSip (As := [.int v1, .int v2]) (rest := []) F dX4_sumOfOthersAbove_30 h (fun o h1 => cr_covers (w := (kr_W cA a0 q n X Y)) h1) (va_cwS 2 F.2.2.2.2.1 gX4_sumOfOthersAbove_X4_covers rfl rfl rfl (by decide +kernel) ⟨Nat.le_of_ble_eq_true rfl, Nat.le_of_ble_eq_true rfl⟩) rfl rfl (Nat.le_of_ble_eq_true rfl) ⟨Nat.zero_le _, Nat.zero_le _⟩ (fun o3 h => ?_)
    refine kj_if_eq F dX4_sumOfOthersAbove_33 (tgt := 46) (by decide) h (fun hc h => ?_) (fun hc h => ?_)
    · exact jr_sumOfOthersAbove_46 F h kb ke0
    · refine kj_lload_n F dX4_sumOfOthersAbove_36 2 rfl rfl ?_
      refine kj_aload_n F dX4_sumOfOthersAbove_37 0 rfl rfl ?_
      refine kr_get F dX4_sumOfOthersAbove_38 in_X4_sumOfOthersAbove_X4 2 (by decide) (by decide +kernel) rfl rfl ?_
      refine kj_iload F dX4_sumOfOthersAbove_41 3 rfl ?_
      refine kr_lald F dX4_sumOfOthersAbove_43 0 (by decide) h (fun v4 h => ?_)
      refine kj_ladd F dX4_sumOfOthersAbove_44 ?_
      refine kj_lstore_n F dX4_sumOfOthersAbove_45 (lv' := [(2, .long (x2 + v4)), (0, .ref a0), (1, .int x1), (4, .int x4)]) rfl (by decide) rfl ?_
      refine kj_J.sub [1, 2, 0, 3] rfl ?_
      exact jr_sumOfOthersAbove_46 F h kb ke0
theorem jlr_sumOfOthersAbove_7 {p : Program} {l : Launch} {e : Env} {s : State} {m : MethodId} {args : Array Value} {below : List Frame} {meth : Method} {c : Code} {A : Nat → Prop} {D : va_G} {cA : Nat → ClassId} {a0 n : Nat} {q : Nat → Nat} {X Y : va_W} {Q : State → Prop} (F : kj_Fx p s m args meth c cX4_sumOfOthersAbove 5 wsX4_sumOfOthersAbove RX4 (some .long) D (kx_T cA) A) {fu : Nat} {x1 : Int32} {x2 : Int64} {x4 : Int32} {z : kr_S} {r : (Int64 × kr_S)} (h : lr_sumOfOthersAbove_7 n fu x1 x2 x4 z = some r) (ke : kj_J p l e rm_X4_sumOfOthersAbove s m args below meth c 0 0 Q 5 D A ((kr_W cA a0 q n X Y) (r.2)) 52 [(2, .long (r.1))] []) : kj_J p l e rm_X4_sumOfOthersAbove s m args below meth c 0 0 Q 5 D A ((kr_W cA a0 q n X Y) z) 7 [(0, .ref a0), (1, .int x1), (2, .long x2), (4, .int x4)] [] :=
  kj_it_J (Wh := fun (u : (Int32 × Int64 × Int32 × kr_S)) => kj_J p l e rm_X4_sumOfOthersAbove s m args below meth c 0 0 Q 5 D A ((kr_W cA a0 q n X Y) (u.2.2.2)) 7 [(0, .ref a0), (1, .int (u.1)), (2, .long (u.2.1)), (4, .int (u.2.2.1))] []) (We := fun r => kj_J p l e rm_X4_sumOfOthersAbove s m args below meth c 0 0 Q 5 D A ((kr_W cA a0 q n X Y) (r.2)) 52 [(2, .long (r.1))] []) (fun u o h kb ke => jr_sumOfOthersAbove_7 F h (fun a0' a1' a2' a3' e => kb (a0', a1', a2', a3') e) (fun a0' a1' e => ke (a0', a1') e)) fu (x1, x2, x4, z) r h ke
set_option maxRecDepth 20000 in
theorem jr_sumOfOthersAbove {p : Program} {l : Launch} {e : Env} {s : State} {m : MethodId} {args : Array Value} {below : List Frame} {meth : Method} {c : Code} {A : Nat → Prop} {D : va_G} {cA : Nat → ClassId} {a0 n : Nat} {q : Nat → Nat} {X Y : va_W} (F : kj_Fx p s m args meth c cX4_sumOfOthersAbove 5 wsX4_sumOfOthersAbove RX4 (some .long) D (kx_T cA) A) {x1 : Int32} {z : kr_S} {o : (Int64 × kr_S)} (h : fr_sumOfOthersAbove n x1 z = some o) : kj_J p l e rm_X4_sumOfOthersAbove s m args below meth c 0 0 (MQ below (kj_Ql D (kx_T cA) A (kr_W cA a0 q n X Y) o) args s 0 0 A) 5 D A ((kr_W cA a0 q n X Y) z) 0 [(0, .ref a0), (1, .int x1)] [] := by
  unfold fr_sumOfOthersAbove at h
  refine kj_lconst F dX4_sumOfOthersAbove_0 (v := 0) (by decide) ?_
  refine kj_lstore_n F dX4_sumOfOthersAbove_1 (lv' := [(2, .long (0 : Int64)), (0, .ref a0), (1, .int x1)]) rfl (by decide) rfl ?_
  refine kj_iload_n F dX4_sumOfOthersAbove_2 2 rfl rfl ?_
  refine kj_iconst F dX4_sumOfOthersAbove_3 (v := 1) (by decide) ?_
  refine kj_iadd F dX4_sumOfOthersAbove_4 ?_
  refine kj_istore F dX4_sumOfOthersAbove_5 (lv' := [(4, .int (x1 + (1 : Int32))), (2, .long (0 : Int64)), (0, .ref a0), (1, .int x1)]) (by decide) rfl ?_
  refine kj_J.sub [2, 3, 1, 0] rfl ?_
  refine kj_bn h (fun r1 h1 h => ?_)
  refine jlr_sumOfOthersAbove_7 F h1 ?_
  refine kj_lload_n F dX4_sumOfOthersAbove_52 0 rfl rfl ?_
  exact kj_lret F dX4_sumOfOthersAbove_53 h
theorem cr_sumOfOthersAbove {l : Launch} {D : va_G} {cA : Nat → ClassId} {a0 n : Nat} {q : Nat → Nat} {X Y : va_W} {x1 : Int32} {z : kr_S} {o : (Int64 × kr_S)} (h : fr_sumOfOthersAbove n x1 z = some o) : kj_Ml l yX4_sumOfOthersAbove wsX4_sumOfOthersAbove rm_X4_sumOfOthersAbove D (kx_T cA) (kr_W cA a0 q n X Y) z [.ref a0, .int x1] o :=
  fun sz => kj_start (by decide) rfl (Nat.le_of_ble_eq_true rfl) rfl fun p e s m args below meth c hsz F => jr_sumOfOthersAbove F h
/-! X4_goToNextRow -/
abbrev rm_X4_goToNextRow : Room := { frames := 1, cells := 0, slots := 0, locals := 60 }
theorem in_X4_goToNextRow_X4 : ∀ w ∈ u_ws RX4 TX4 4, w ∈ wsX4_goToNextRow := by decide +kernel
def fr_goToNextRow (n : Nat) (z : kr_S) : Option kr_S :=
  (kr_cp n z (0 : Int32) (0 : Int32) (nI n)).bind fun z1 =>
  some z1
set_option maxRecDepth 20000 in
theorem jr_goToNextRow {p : Program} {l : Launch} {e : Env} {s : State} {m : MethodId} {args : Array Value} {below : List Frame} {meth : Method} {c : Code} {A : Nat → Prop} {D : va_G} {cA : Nat → ClassId} {a0 n : Nat} {q : Nat → Nat} {X Y : va_W} (F : kj_Fx p s m args meth c cX4_goToNextRow 1 wsX4_goToNextRow RX4 none D (kx_T cA) A) {z : kr_S} {o : kr_S} (h : fr_goToNextRow n z = some o) : kj_J p l e rm_X4_goToNextRow s m args below meth c 0 0 (MQ below (kj_Qv D (kx_T cA) A (kr_W cA a0 q n X Y) o) args s 0 0 A) 1 D A ((kr_W cA a0 q n X Y) z) 0 [(0, .ref a0)] [] := by
  unfold fr_goToNextRow at h
  refine kj_aload_n F dX4_goToNextRow_0 0 rfl rfl ?_
  refine kr_get F dX4_goToNextRow_1 in_X4_goToNextRow_X4 3 (by decide) (by decide +kernel) rfl rfl ?_
  refine kj_iconst F dX4_goToNextRow_4 (v := 0) (by decide) ?_
  refine kj_aload_n F dX4_goToNextRow_5 0 rfl rfl ?_
  refine kr_get F dX4_goToNextRow_6 in_X4_goToNextRow_X4 2 (by decide) (by decide +kernel) rfl rfl ?_
  refine kj_iconst F dX4_goToNextRow_9 (v := 0) (by decide) ?_
  refine kj_aload_n F dX4_goToNextRow_10 0 rfl rfl ?_
  refine kr_get F dX4_goToNextRow_11 in_X4_goToNextRow_X4 2 (by decide) (by decide +kernel) rfl rfl ?_
  refine kr_nlen F dX4_goToNextRow_14 0 (by decide) ?_
  refine kr_copy F dX4_goToNextRow_15 (by decide +kernel) (by decide +kernel) (by decide +kernel) (by decide +kernel) (Nat.le_of_ble_eq_true rfl) (by decide +kernel) h (fun z1 h => ?_)
  exact kj_vret F dX4_goToNextRow_18 h
theorem cr_goToNextRow {l : Launch} {D : va_G} {cA : Nat → ClassId} {a0 n : Nat} {q : Nat → Nat} {X Y : va_W} {z : kr_S} {o : kr_S} (h : fr_goToNextRow n z = some o) : kj_Mv l yX4_goToNextRow wsX4_goToNextRow rm_X4_goToNextRow D (kx_T cA) (kr_W cA a0 q n X Y) z [.ref a0] o :=
  fun sz => kj_start (by decide) rfl (Nat.le_of_ble_eq_true rfl) rfl fun p e s m args below meth c hsz F => jr_goToNextRow F h
/-! X4_sumOfAll -/
abbrev rm_X4_sumOfAll : Room := { frames := 0, cells := 0, slots := 0, locals := 0 }
theorem in_X4_sumOfAll_X4 : ∀ w ∈ u_ws RX4 TX4 4, w ∈ wsX4_sumOfAll := by decide +kernel
def fr_sumOfAll_4 (n : Nat) (x1 : Int64) (x3 : Int32) (z : kr_S) : Option ((Int64 × Int32 × kr_S) ⊕ (Int64 × kr_S)) :=
  if (nI n) ≤ x3 then
  some (.inr (x1, z))
  else
  (kr_rl n z 0 x3).bind fun v1 =>
  some (.inl ((x1 + v1), (x3 + 1), z))
def lr_sumOfAll_4 (n : Nat) (fu : Nat) (x1 : Int64) (x3 : Int32) (z : kr_S) : Option (Int64 × kr_S) :=
  kj_it (fun (s : (Int64 × Int32 × kr_S)) => fr_sumOfAll_4 n (s.1) (s.2.1) (s.2.2)) fu (x1, x3, z)
def fr_sumOfAll (n : Nat) (z : kr_S) : Option (Int64 × kr_S) :=
  (lr_sumOfAll_4 n 5000 (0 : Int64) (0 : Int32) z).bind fun r1 =>
  some ((r1.1), (r1.2))
set_option maxRecDepth 20000 in
theorem jr_sumOfAll_4 {p : Program} {l : Launch} {e : Env} {s : State} {m : MethodId} {args : Array Value} {below : List Frame} {meth : Method} {c : Code} {A : Nat → Prop} {D : va_G} {cA : Nat → ClassId} {a0 n : Nat} {q : Nat → Nat} {X Y : va_W} {Q : State → Prop} (F : kj_Fx p s m args meth c cX4_sumOfAll 4 wsX4_sumOfAll RX4 (some .long) D (kx_T cA) A) {x1 : Int64} {x3 : Int32} {z : kr_S} {o : ((Int64 × Int32 × kr_S) ⊕ (Int64 × kr_S))} (h : fr_sumOfAll_4 n x1 x3 z = some o) (kb : ∀ (a0' : Int64) (a1' : Int32) (a2' : kr_S), o = .inl (a0', a1', a2') → kj_J p l e rm_X4_sumOfAll s m args below meth c 0 0 Q 4 D A ((kr_W cA a0 q n X Y) a2') 4 [(0, .ref a0), (1, .long a0'), (3, .int a1')] []) (ke0 : ∀ (a0' : Int64) (a1' : kr_S), o = .inr (a0', a1') → kj_J p l e rm_X4_sumOfAll s m args below meth c 0 0 Q 4 D A ((kr_W cA a0 q n X Y) a1') 28 [(1, .long a0')] []) : kj_J p l e rm_X4_sumOfAll s m args below meth c 0 0 Q 4 D A ((kr_W cA a0 q n X Y) z) 4 [(0, .ref a0), (1, .long x1), (3, .int x3)] [] := by
  unfold fr_sumOfAll_4 at h
  refine kj_iload_n F dX4_sumOfAll_4 2 rfl rfl ?_
  refine kj_aload_n F dX4_sumOfAll_5 0 rfl rfl ?_
  refine kr_get F dX4_sumOfAll_6 in_X4_sumOfAll_X4 2 (by decide) (by decide +kernel) rfl rfl ?_
  refine kr_nlen F dX4_sumOfAll_9 0 (by decide) ?_
  refine kj_icmp_ge F dX4_sumOfAll_10 (tgt := 28) (by decide) h (fun hc h => ?_) (fun hc h => ?_)
  · refine kj_J.sub [1] rfl ?_
    exact ke0 x1 z (Option.some.inj h).symm
  · refine kj_lload_n F dX4_sumOfAll_13 1 rfl rfl ?_
    refine kj_aload_n F dX4_sumOfAll_14 0 rfl rfl ?_
    refine kr_get F dX4_sumOfAll_15 in_X4_sumOfAll_X4 2 (by decide) (by decide +kernel) rfl rfl ?_
    refine kj_iload_n F dX4_sumOfAll_18 2 rfl rfl ?_
    refine kr_lald F dX4_sumOfAll_19 0 (by decide) h (fun v1 h => ?_)
    refine kj_ladd F dX4_sumOfAll_20 ?_
    refine kj_lstore_n F dX4_sumOfAll_21 (lv' := [(1, .long (x1 + v1)), (0, .ref a0), (3, .int x3)]) rfl (by decide) rfl ?_
    refine kj_iinc F dX4_sumOfAll_22 2 rfl (v := 1) (by decide) (by decide) (lv' := [(3, .int (x3 + 1)), (1, .long (x1 + v1)), (0, .ref a0)]) rfl ?_
    refine kj_goto F dX4_sumOfAll_25 (tgt := 4) (by decide) ?_
    refine kj_J.sub [2, 1, 0] rfl ?_
    exact kb (x1 + v1) (x3 + 1) z (Option.some.inj h).symm
theorem jlr_sumOfAll_4 {p : Program} {l : Launch} {e : Env} {s : State} {m : MethodId} {args : Array Value} {below : List Frame} {meth : Method} {c : Code} {A : Nat → Prop} {D : va_G} {cA : Nat → ClassId} {a0 n : Nat} {q : Nat → Nat} {X Y : va_W} {Q : State → Prop} (F : kj_Fx p s m args meth c cX4_sumOfAll 4 wsX4_sumOfAll RX4 (some .long) D (kx_T cA) A) {fu : Nat} {x1 : Int64} {x3 : Int32} {z : kr_S} {r : (Int64 × kr_S)} (h : lr_sumOfAll_4 n fu x1 x3 z = some r) (ke : kj_J p l e rm_X4_sumOfAll s m args below meth c 0 0 Q 4 D A ((kr_W cA a0 q n X Y) (r.2)) 28 [(1, .long (r.1))] []) : kj_J p l e rm_X4_sumOfAll s m args below meth c 0 0 Q 4 D A ((kr_W cA a0 q n X Y) z) 4 [(0, .ref a0), (1, .long x1), (3, .int x3)] [] :=
  kj_it_J (Wh := fun (u : (Int64 × Int32 × kr_S)) => kj_J p l e rm_X4_sumOfAll s m args below meth c 0 0 Q 4 D A ((kr_W cA a0 q n X Y) (u.2.2)) 4 [(0, .ref a0), (1, .long (u.1)), (3, .int (u.2.1))] []) (We := fun r => kj_J p l e rm_X4_sumOfAll s m args below meth c 0 0 Q 4 D A ((kr_W cA a0 q n X Y) (r.2)) 28 [(1, .long (r.1))] []) (fun u o h kb ke => jr_sumOfAll_4 F h (fun a0' a1' a2' e => kb (a0', a1', a2') e) (fun a0' a1' e => ke (a0', a1') e)) fu (x1, x3, z) r h ke
set_option maxRecDepth 20000 in
theorem jr_sumOfAll {p : Program} {l : Launch} {e : Env} {s : State} {m : MethodId} {args : Array Value} {below : List Frame} {meth : Method} {c : Code} {A : Nat → Prop} {D : va_G} {cA : Nat → ClassId} {a0 n : Nat} {q : Nat → Nat} {X Y : va_W} (F : kj_Fx p s m args meth c cX4_sumOfAll 4 wsX4_sumOfAll RX4 (some .long) D (kx_T cA) A) {z : kr_S} {o : (Int64 × kr_S)} (h : fr_sumOfAll n z = some o) : kj_J p l e rm_X4_sumOfAll s m args below meth c 0 0 (MQ below (kj_Ql D (kx_T cA) A (kr_W cA a0 q n X Y) o) args s 0 0 A) 4 D A ((kr_W cA a0 q n X Y) z) 0 [(0, .ref a0)] [] := by
  unfold fr_sumOfAll at h
  refine kj_lconst F dX4_sumOfAll_0 (v := 0) (by decide) ?_
  refine kj_lstore_n F dX4_sumOfAll_1 (lv' := [(1, .long (0 : Int64)), (0, .ref a0)]) rfl (by decide) rfl ?_
  refine kj_iconst F dX4_sumOfAll_2 (v := 0) (by decide) ?_
  refine kj_istore_n F dX4_sumOfAll_3 (lv' := [(3, .int (0 : Int32)), (1, .long (0 : Int64)), (0, .ref a0)]) rfl (by decide) rfl ?_
  refine kj_J.sub [2, 1, 0] rfl ?_
  refine kj_bn h (fun r1 h1 h => ?_)
  refine jlr_sumOfAll_4 F h1 ?_
  refine kj_lload_n F dX4_sumOfAll_28 0 rfl rfl ?_
  exact kj_lret F dX4_sumOfAll_29 h
theorem cr_sumOfAll {l : Launch} {D : va_G} {cA : Nat → ClassId} {a0 n : Nat} {q : Nat → Nat} {X Y : va_W} {z : kr_S} {o : (Int64 × kr_S)} (h : fr_sumOfAll n z = some o) : kj_Ml l yX4_sumOfAll wsX4_sumOfAll rm_X4_sumOfAll D (kx_T cA) (kr_W cA a0 q n X Y) z [.ref a0] o :=
  fun sz => kj_start (by decide) rfl (Nat.le_of_ble_eq_true rfl) rfl fun p e s m args below meth c hsz F => jr_sumOfAll F h
/-! X4_heapsBetween -/
abbrev rm_X4_heapsBetween : Room := { frames := 2, cells := 0, slots := 0, locals := 80 }
theorem in_X4_heapsBetween_X4 : ∀ w ∈ u_ws RX4 TX4 4, w ∈ wsX4_heapsBetween := by decide +kernel
def fr_heapsBetween_109 (n : Nat) (x1 : Int32) (x2 : Int64) (x4 : Int64) (x6 : Int32) (x7 : Int32) (x8 : Int32) (x9 : Int32) (t0 : Int64) (t1 : Int32) (z : kr_S) : Option ((Int32 × Int64 × Int64 × Int32 × Int32 × Int32 × Int32 × kr_S) ⊕ (Int32 × Int64 × Int64 × Int32 × kr_S)) :=
  (kr_wl n z 1 t1 t0).bind fun z1 =>
  some (.inl (x1, x2, x4, x6, x7, x8, (x9 + 1), z1))
def fr_heapsBetween_78 (n : Nat) (x1 : Int32) (x2 : Int64) (x4 : Int64) (x6 : Int32) (x7 : Int32) (x8 : Int32) (x9 : Int32) (t0 : Int32) (z : kr_S) : Option ((Int32 × Int64 × Int64 × Int32 × Int32 × Int32 × Int32 × kr_S) ⊕ (Int32 × Int64 × Int64 × Int32 × kr_S)) :=
  if t0 = 0 then
  fr_heapsBetween_109 n x1 x2 x4 x6 x7 x8 x9 (0 : Int64) x9 z
  else
  (kr_rl n z 0 x9).bind fun v1 =>
  (fr_sumOfOthersAbove n x9 z).bind fun o2 =>
  fr_heapsBetween_109 n x1 x2 x4 x6 x7 x8 x9 (v1 + (o2.1)) x9 (o2.2)
def fr_heapsBetween_77 (n : Nat) (x1 : Int32) (x2 : Int64) (x4 : Int64) (x6 : Int32) (x7 : Int32) (x8 : Int32) (x9 : Int32) (z : kr_S) : Option ((Int32 × Int64 × Int64 × Int32 × Int32 × Int32 × Int32 × kr_S) ⊕ (Int32 × Int64 × Int64 × Int32 × kr_S)) :=
  fr_heapsBetween_78 n x1 x2 x4 x6 x7 x8 x9 (0 : Int32) z
def fr_heapsBetween_33 (n : Nat) (x1 : Int32) (x2 : Int64) (x4 : Int64) (x6 : Int32) (x7 : Int32) (x8 : Int32) (x9 : Int32) (z : kr_S) : Option ((Int32 × Int64 × Int64 × Int32 × Int32 × Int32 × Int32 × kr_S) ⊕ (Int32 × Int64 × Int64 × Int32 × kr_S)) :=
  if (nI n) ≤ x9 then
  some (.inr (x1, x2, x4, x6, z))
  else
  (kr_rd n z x9).bind fun v1 =>
  (fr_covers v1 x7).bind fun o2 =>
  if o2 = 0 then
  fr_heapsBetween_77 n x1 x2 x4 x6 x7 x8 x9 z
  else
  (kr_rd n z x9).bind fun v3 =>
  (fr_covers x8 v3).bind fun o4 =>
  if o4 = 0 then
  fr_heapsBetween_77 n x1 x2 x4 x6 x7 x8 x9 z
  else
  fr_heapsBetween_78 n x1 x2 x4 x6 x7 x8 x9 (1 : Int32) z
def lr_heapsBetween_33 (n : Nat) (fu : Nat) (x1 : Int32) (x2 : Int64) (x4 : Int64) (x6 : Int32) (x7 : Int32) (x8 : Int32) (x9 : Int32) (z : kr_S) : Option (Int32 × Int64 × Int64 × Int32 × kr_S) :=
  kj_it (fun (s : (Int32 × Int64 × Int64 × Int32 × Int32 × Int32 × Int32 × kr_S)) => fr_heapsBetween_33 n (s.1) (s.2.1) (s.2.2.1) (s.2.2.2.1) (s.2.2.2.2.1) (s.2.2.2.2.2.1) (s.2.2.2.2.2.2.1) (s.2.2.2.2.2.2.2)) fu (x1, x2, x4, x6, x7, x8, x9, z)
def fr_heapsBetween_7 (n : Nat) (x1 : Int32) (x2 : Int64) (x4 : Int64) (x6 : Int32) (z : kr_S) : Option ((Int32 × Int64 × Int64 × Int32 × kr_S) ⊕ kr_S) :=
  if x1 ≤ x6 then
  some (.inr z)
  else
  (fx_rowIn x2 x6).bind fun o1 =>
  (fx_rowIn x4 x6).bind fun o2 =>
  (lr_heapsBetween_33 n 5000 x1 x2 x4 x6 o1 o2 (0 : Int32) z).bind fun r3 =>
  (fr_goToNextRow n (r3.2.2.2.2)).bind fun o4 =>
  some (.inl ((r3.1), (r3.2.1), (r3.2.2.1), ((r3.2.2.2.1) + 1), o4))
def lr_heapsBetween_7 (n : Nat) (fu : Nat) (x1 : Int32) (x2 : Int64) (x4 : Int64) (x6 : Int32) (z : kr_S) : Option kr_S :=
  kj_it (fun (s : (Int32 × Int64 × Int64 × Int32 × kr_S)) => fr_heapsBetween_7 n (s.1) (s.2.1) (s.2.2.1) (s.2.2.2.1) (s.2.2.2.2)) fu (x1, x2, x4, x6, z)
def fr_heapsBetween (n : Nat) (x1 : Int32) (x2 : Int64) (x4 : Int64) (z : kr_S) : Option (Int32 × kr_S) :=
  (fr_beginWithFullRow n z).bind fun o1 =>
  (lr_heapsBetween_7 n 5000 x1 x2 x4 (0 : Int32) o1).bind fun r2 =>
  (fr_sumOfAll n (r2)).bind fun o3 =>
  some (((o3.1)).toInt32, (o3.2))
set_option maxRecDepth 20000 in
theorem jr_heapsBetween_109 {p : Program} {l : Launch} {e : Env} {s : State} {m : MethodId} {args : Array Value} {below : List Frame} {meth : Method} {c : Code} {A : Nat → Prop} {D : va_G} {cA : Nat → ClassId} {a0 n : Nat} {q : Nat → Nat} {X Y : va_W} {Q : State → Prop} (F : kj_Fx p s m args meth c cX4_heapsBetween 11 wsX4_heapsBetween RX4 (some .int) D (kx_T cA) A) {x1 : Int32} {x2 : Int64} {x4 : Int64} {x6 : Int32} {x7 : Int32} {x8 : Int32} {x9 : Int32} {t0 : Int64} {t1 : Int32} {z : kr_S} {o : ((Int32 × Int64 × Int64 × Int32 × Int32 × Int32 × Int32 × kr_S) ⊕ (Int32 × Int64 × Int64 × Int32 × kr_S))} (h : fr_heapsBetween_109 n x1 x2 x4 x6 x7 x8 x9 t0 t1 z = some o) (kb : ∀ (a0' : Int32) (a1' : Int64) (a2' : Int64) (a3' : Int32) (a4' : Int32) (a5' : Int32) (a6' : Int32) (a7' : kr_S), o = .inl (a0', a1', a2', a3', a4', a5', a6', a7') → kj_J p l e rm_X4_heapsBetween s m args below meth c 0 0 Q 11 D A ((kr_W cA a0 q n X Y) a7') 33 [(0, .ref a0), (1, .int a0'), (2, .long a1'), (4, .long a2'), (6, .int a3'), (7, .int a4'), (8, .int a5'), (9, .int a6')] []) (ke0 : ∀ (a0' : Int32) (a1' : Int64) (a2' : Int64) (a3' : Int32) (a4' : kr_S), o = .inr (a0', a1', a2', a3', a4') → kj_J p l e rm_X4_heapsBetween s m args below meth c 0 0 Q 11 D A ((kr_W cA a0 q n X Y) a4') 116 [(0, .ref a0), (1, .int a0'), (2, .long a1'), (4, .long a2'), (6, .int a3')] []) : kj_J p l e rm_X4_heapsBetween s m args below meth c 0 0 Q 11 D A ((kr_W cA a0 q n X Y) z) 109 [(0, .ref a0), (1, .int x1), (2, .long x2), (4, .long x4), (6, .int x6), (7, .int x7), (8, .int x8), (9, .int x9)] [.long t0, .int t1, .ref (q (1 + 7))] := by
  unfold fr_heapsBetween_109 at h
  refine kr_last F dX4_heapsBetween_109 1 (by decide) h (fun z1 h => ?_)
  refine kj_iinc F dX4_heapsBetween_110 7 rfl (v := 1) (by decide) (by decide) (lv' := [(9, .int (x9 + 1)), (0, .ref a0), (1, .int x1), (2, .long x2), (4, .long x4), (6, .int x6), (7, .int x7), (8, .int x8)]) rfl ?_
  refine kj_goto F dX4_heapsBetween_113 (tgt := 33) (by decide) ?_
  refine kj_J.sub [1, 2, 3, 4, 5, 6, 7, 0] rfl ?_
  exact kb x1 x2 x4 x6 x7 x8 (x9 + 1) z1 (Option.some.inj h).symm
set_option maxRecDepth 20000 in
theorem jr_heapsBetween_78 {p : Program} {l : Launch} {e : Env} {s : State} {m : MethodId} {args : Array Value} {below : List Frame} {meth : Method} {c : Code} {A : Nat → Prop} {D : va_G} {cA : Nat → ClassId} {a0 n : Nat} {q : Nat → Nat} {X Y : va_W} {Q : State → Prop} (F : kj_Fx p s m args meth c cX4_heapsBetween 11 wsX4_heapsBetween RX4 (some .int) D (kx_T cA) A) {x1 : Int32} {x2 : Int64} {x4 : Int64} {x6 : Int32} {x7 : Int32} {x8 : Int32} {x9 : Int32} {t0 : Int32} {z : kr_S} {o : ((Int32 × Int64 × Int64 × Int32 × Int32 × Int32 × Int32 × kr_S) ⊕ (Int32 × Int64 × Int64 × Int32 × kr_S))} (h : fr_heapsBetween_78 n x1 x2 x4 x6 x7 x8 x9 t0 z = some o) (kb : ∀ (a0' : Int32) (a1' : Int64) (a2' : Int64) (a3' : Int32) (a4' : Int32) (a5' : Int32) (a6' : Int32) (a7' : kr_S), o = .inl (a0', a1', a2', a3', a4', a5', a6', a7') → kj_J p l e rm_X4_heapsBetween s m args below meth c 0 0 Q 11 D A ((kr_W cA a0 q n X Y) a7') 33 [(0, .ref a0), (1, .int a0'), (2, .long a1'), (4, .long a2'), (6, .int a3'), (7, .int a4'), (8, .int a5'), (9, .int a6')] []) (ke0 : ∀ (a0' : Int32) (a1' : Int64) (a2' : Int64) (a3' : Int32) (a4' : kr_S), o = .inr (a0', a1', a2', a3', a4') → kj_J p l e rm_X4_heapsBetween s m args below meth c 0 0 Q 11 D A ((kr_W cA a0 q n X Y) a4') 116 [(0, .ref a0), (1, .int a0'), (2, .long a1'), (4, .long a2'), (6, .int a3')] []) : kj_J p l e rm_X4_heapsBetween s m args below meth c 0 0 Q 11 D A ((kr_W cA a0 q n X Y) z) 78 [(0, .ref a0), (1, .int x1), (2, .long x2), (4, .long x4), (6, .int x6), (7, .int x7), (8, .int x8), (9, .int x9)] [.int t0] := by
  unfold fr_heapsBetween_78 at h
  refine kj_istore F dX4_heapsBetween_78 (lv' := [(10, .int t0), (0, .ref a0), (1, .int x1), (2, .long x2), (4, .long x4), (6, .int x6), (7, .int x7), (8, .int x8), (9, .int x9)]) (by decide) rfl ?_
  refine kj_aload_n F dX4_heapsBetween_80 1 rfl rfl ?_
  refine kr_get F dX4_heapsBetween_81 in_X4_heapsBetween_X4 3 (by decide) (by decide +kernel) rfl rfl ?_
  refine kj_iload F dX4_heapsBetween_84 8 rfl ?_
  refine kj_iload F dX4_heapsBetween_86 0 rfl ?_
  refine kj_if_eq F dX4_heapsBetween_88 (tgt := 108) (by decide) h (fun hc h => ?_) (fun hc h => ?_)
  · refine kj_lconst F dX4_heapsBetween_108 (v := 0) (by decide) ?_
    refine kj_J.sub [1, 2, 3, 4, 5, 6, 7, 8] rfl ?_
    exact jr_heapsBetween_109 F h kb ke0
  · refine kj_aload_n F dX4_heapsBetween_91 1 rfl rfl ?_
    refine kr_get F dX4_heapsBetween_92 in_X4_heapsBetween_X4 2 (by decide) (by decide +kernel) rfl rfl ?_
    refine kj_iload F dX4_heapsBetween_95 8 rfl ?_
    refine kr_lald F dX4_heapsBetween_97 0 (by decide) h (fun v1 h => ?_)
    refine kj_aload_n F dX4_heapsBetween_98 1 rfl rfl ?_
    refine kj_iload F dX4_heapsBetween_99 8 rfl ?_
    refine kj_cVl (As := [.int x9]) (rest := [.long v1, .int x9, .ref (q (1 + 7))]) F dX4_heapsBetween_101 h (fun o h1 => cr_sumOfOthersAbove h1) (cwV 1 F.2.2.2.2.1 gX4_heapsBetween_X4_sumOfOthersAbove rfl rfl rfl (by decide +kernel) ⟨Nat.le_of_ble_eq_true rfl, Nat.le_of_ble_eq_true rfl⟩) _ (kr_pos (j := 0) rfl) rfl rfl rfl rfl (Nat.le_of_ble_eq_true rfl) ⟨Nat.zero_le _, Nat.zero_le _⟩ (fun o2 h => ?_)
    refine kj_ladd F dX4_heapsBetween_104 ?_
    refine kj_goto F dX4_heapsBetween_105 (tgt := 109) (by decide) ?_
    refine kj_J.sub [1, 2, 3, 4, 5, 6, 7, 8] rfl ?_
    exact jr_heapsBetween_109 F h kb ke0
set_option maxRecDepth 20000 in
theorem jr_heapsBetween_77 {p : Program} {l : Launch} {e : Env} {s : State} {m : MethodId} {args : Array Value} {below : List Frame} {meth : Method} {c : Code} {A : Nat → Prop} {D : va_G} {cA : Nat → ClassId} {a0 n : Nat} {q : Nat → Nat} {X Y : va_W} {Q : State → Prop} (F : kj_Fx p s m args meth c cX4_heapsBetween 11 wsX4_heapsBetween RX4 (some .int) D (kx_T cA) A) {x1 : Int32} {x2 : Int64} {x4 : Int64} {x6 : Int32} {x7 : Int32} {x8 : Int32} {x9 : Int32} {z : kr_S} {o : ((Int32 × Int64 × Int64 × Int32 × Int32 × Int32 × Int32 × kr_S) ⊕ (Int32 × Int64 × Int64 × Int32 × kr_S))} (h : fr_heapsBetween_77 n x1 x2 x4 x6 x7 x8 x9 z = some o) (kb : ∀ (a0' : Int32) (a1' : Int64) (a2' : Int64) (a3' : Int32) (a4' : Int32) (a5' : Int32) (a6' : Int32) (a7' : kr_S), o = .inl (a0', a1', a2', a3', a4', a5', a6', a7') → kj_J p l e rm_X4_heapsBetween s m args below meth c 0 0 Q 11 D A ((kr_W cA a0 q n X Y) a7') 33 [(0, .ref a0), (1, .int a0'), (2, .long a1'), (4, .long a2'), (6, .int a3'), (7, .int a4'), (8, .int a5'), (9, .int a6')] []) (ke0 : ∀ (a0' : Int32) (a1' : Int64) (a2' : Int64) (a3' : Int32) (a4' : kr_S), o = .inr (a0', a1', a2', a3', a4') → kj_J p l e rm_X4_heapsBetween s m args below meth c 0 0 Q 11 D A ((kr_W cA a0 q n X Y) a4') 116 [(0, .ref a0), (1, .int a0'), (2, .long a1'), (4, .long a2'), (6, .int a3')] []) : kj_J p l e rm_X4_heapsBetween s m args below meth c 0 0 Q 11 D A ((kr_W cA a0 q n X Y) z) 77 [(0, .ref a0), (1, .int x1), (2, .long x2), (4, .long x4), (6, .int x6), (7, .int x7), (8, .int x8), (9, .int x9)] [] := by
  unfold fr_heapsBetween_77 at h
  refine kj_iconst F dX4_heapsBetween_77 (v := 0) (by decide) ?_
  exact jr_heapsBetween_78 F h kb ke0
set_option maxRecDepth 20000 in
theorem jr_heapsBetween_33 {p : Program} {l : Launch} {e : Env} {s : State} {m : MethodId} {args : Array Value} {below : List Frame} {meth : Method} {c : Code} {A : Nat → Prop} {D : va_G} {cA : Nat → ClassId} {a0 n : Nat} {q : Nat → Nat} {X Y : va_W} {Q : State → Prop} (F : kj_Fx p s m args meth c cX4_heapsBetween 11 wsX4_heapsBetween RX4 (some .int) D (kx_T cA) A) {x1 : Int32} {x2 : Int64} {x4 : Int64} {x6 : Int32} {x7 : Int32} {x8 : Int32} {x9 : Int32} {z : kr_S} {o : ((Int32 × Int64 × Int64 × Int32 × Int32 × Int32 × Int32 × kr_S) ⊕ (Int32 × Int64 × Int64 × Int32 × kr_S))} (h : fr_heapsBetween_33 n x1 x2 x4 x6 x7 x8 x9 z = some o) (kb : ∀ (a0' : Int32) (a1' : Int64) (a2' : Int64) (a3' : Int32) (a4' : Int32) (a5' : Int32) (a6' : Int32) (a7' : kr_S), o = .inl (a0', a1', a2', a3', a4', a5', a6', a7') → kj_J p l e rm_X4_heapsBetween s m args below meth c 0 0 Q 11 D A ((kr_W cA a0 q n X Y) a7') 33 [(0, .ref a0), (1, .int a0'), (2, .long a1'), (4, .long a2'), (6, .int a3'), (7, .int a4'), (8, .int a5'), (9, .int a6')] []) (ke0 : ∀ (a0' : Int32) (a1' : Int64) (a2' : Int64) (a3' : Int32) (a4' : kr_S), o = .inr (a0', a1', a2', a3', a4') → kj_J p l e rm_X4_heapsBetween s m args below meth c 0 0 Q 11 D A ((kr_W cA a0 q n X Y) a4') 116 [(0, .ref a0), (1, .int a0'), (2, .long a1'), (4, .long a2'), (6, .int a3')] []) : kj_J p l e rm_X4_heapsBetween s m args below meth c 0 0 Q 11 D A ((kr_W cA a0 q n X Y) z) 33 [(0, .ref a0), (1, .int x1), (2, .long x2), (4, .long x4), (6, .int x6), (7, .int x7), (8, .int x8), (9, .int x9)] [] := by
  unfold fr_heapsBetween_33 at h
  refine kj_iload F dX4_heapsBetween_33 7 rfl ?_
  refine kj_aload_n F dX4_heapsBetween_35 0 rfl rfl ?_
  refine kr_get F dX4_heapsBetween_36 in_X4_heapsBetween_X4 0 (by decide) (by decide +kernel) rfl rfl ?_
  refine kr_rlen F dX4_heapsBetween_39 ?_
  refine kj_icmp_ge F dX4_heapsBetween_40 (tgt := 116) (by decide) h (fun hc h => ?_) (fun hc h => ?_)
  · refine kj_J.sub [0, 1, 2, 3, 4] rfl ?_
    exact ke0 x1 x2 x4 x6 z (Option.some.inj h).symm
  · refine kj_aload_n F dX4_heapsBetween_43 0 rfl rfl ?_
    refine kr_get F dX4_heapsBetween_44 in_X4_heapsBetween_X4 0 (by decide) (by decide +kernel) rfl rfl ?_
    refine kj_iload F dX4_heapsBetween_47 7 rfl ?_
    refine kr_rald F dX4_heapsBetween_49 h (fun v1 h => ?_)
    refine kj_iload F dX4_heapsBetween_50 5 rfl ?_
    refine kj_cSip (As := [.int v1, .int x7]) (rest := []) F dX4_heapsBetween_52 h (fun o h1 => cr_covers (w := (kr_W cA a0 q n X Y)) h1) (va_cwS 2 F.2.2.2.2.1 gX4_heapsBetween_X4_covers rfl rfl rfl (by decide +kernel) ⟨Nat.le_of_ble_eq_true rfl, Nat.le_of_ble_eq_true rfl⟩) rfl rfl (Nat.le_of_ble_eq_true rfl) ⟨Nat.zero_le _, Nat.zero_le _⟩ (fun o2 h => ?_)
    refine kj_if_eq F dX4_heapsBetween_55 (tgt := 77) (by decide) h (fun hc h => ?_) (fun hc h => ?_)
    · exact jr_heapsBetween_77 F h kb ke0
    · refine kj_iload F dX4_heapsBetween_58 6 rfl ?_
      refine kj_aload_n F dX4_heapsBetween_60 0 rfl rfl ?_
      refine kr_get F dX4_heapsBetween_61 in_X4_heapsBetween_X4 0 (by decide) (by decide +kernel) rfl rfl ?_
      refine kj_iload F dX4_heapsBetween_64 7 rfl ?_
      refine kr_rald F dX4_heapsBetween_66 h (fun v3 h => ?_)
      refine kj_cSip (As := [.int x8, .int v3]) (rest := []) F dX4_heapsBetween_67 h (fun o h1 => cr_covers (w := (kr_W cA a0 q n X Y)) h1) (va_cwS 2 F.2.2.2.2.1 gX4_heapsBetween_X4_covers rfl rfl rfl (by decide +kernel) ⟨Nat.le_of_ble_eq_true rfl, Nat.le_of_ble_eq_true rfl⟩) rfl rfl (Nat.le_of_ble_eq_true rfl) ⟨Nat.zero_le _, Nat.zero_le _⟩ (fun o4 h => ?_)
      refine kj_if_eq F dX4_heapsBetween_70 (tgt := 77) (by decide) h (fun hc h => ?_) (fun hc h => ?_)
      · exact jr_heapsBetween_77 F h kb ke0
      · refine kj_iconst F dX4_heapsBetween_73 (v := 1) (by decide) ?_
        refine kj_goto F dX4_heapsBetween_74 (tgt := 78) (by decide) ?_
        exact jr_heapsBetween_78 F h kb ke0
theorem jlr_heapsBetween_33 {p : Program} {l : Launch} {e : Env} {s : State} {m : MethodId} {args : Array Value} {below : List Frame} {meth : Method} {c : Code} {A : Nat → Prop} {D : va_G} {cA : Nat → ClassId} {a0 n : Nat} {q : Nat → Nat} {X Y : va_W} {Q : State → Prop} (F : kj_Fx p s m args meth c cX4_heapsBetween 11 wsX4_heapsBetween RX4 (some .int) D (kx_T cA) A) {fu : Nat} {x1 : Int32} {x2 : Int64} {x4 : Int64} {x6 : Int32} {x7 : Int32} {x8 : Int32} {x9 : Int32} {z : kr_S} {r : (Int32 × Int64 × Int64 × Int32 × kr_S)} (h : lr_heapsBetween_33 n fu x1 x2 x4 x6 x7 x8 x9 z = some r) (ke : kj_J p l e rm_X4_heapsBetween s m args below meth c 0 0 Q 11 D A ((kr_W cA a0 q n X Y) (r.2.2.2.2)) 116 [(0, .ref a0), (1, .int (r.1)), (2, .long (r.2.1)), (4, .long (r.2.2.1)), (6, .int (r.2.2.2.1))] []) : kj_J p l e rm_X4_heapsBetween s m args below meth c 0 0 Q 11 D A ((kr_W cA a0 q n X Y) z) 33 [(0, .ref a0), (1, .int x1), (2, .long x2), (4, .long x4), (6, .int x6), (7, .int x7), (8, .int x8), (9, .int x9)] [] :=
  kj_it_J (Wh := fun (u : (Int32 × Int64 × Int64 × Int32 × Int32 × Int32 × Int32 × kr_S)) => kj_J p l e rm_X4_heapsBetween s m args below meth c 0 0 Q 11 D A ((kr_W cA a0 q n X Y) (u.2.2.2.2.2.2.2)) 33 [(0, .ref a0), (1, .int (u.1)), (2, .long (u.2.1)), (4, .long (u.2.2.1)), (6, .int (u.2.2.2.1)), (7, .int (u.2.2.2.2.1)), (8, .int (u.2.2.2.2.2.1)), (9, .int (u.2.2.2.2.2.2.1))] []) (We := fun r => kj_J p l e rm_X4_heapsBetween s m args below meth c 0 0 Q 11 D A ((kr_W cA a0 q n X Y) (r.2.2.2.2)) 116 [(0, .ref a0), (1, .int (r.1)), (2, .long (r.2.1)), (4, .long (r.2.2.1)), (6, .int (r.2.2.2.1))] []) (fun u o h kb ke => jr_heapsBetween_33 F h (fun a0' a1' a2' a3' a4' a5' a6' a7' e => kb (a0', a1', a2', a3', a4', a5', a6', a7') e) (fun a0' a1' a2' a3' a4' e => ke (a0', a1', a2', a3', a4') e)) fu (x1, x2, x4, x6, x7, x8, x9, z) r h ke
set_option maxRecDepth 20000 in
theorem jr_heapsBetween_7 {p : Program} {l : Launch} {e : Env} {s : State} {m : MethodId} {args : Array Value} {below : List Frame} {meth : Method} {c : Code} {A : Nat → Prop} {D : va_G} {cA : Nat → ClassId} {a0 n : Nat} {q : Nat → Nat} {X Y : va_W} {Q : State → Prop} (F : kj_Fx p s m args meth c cX4_heapsBetween 11 wsX4_heapsBetween RX4 (some .int) D (kx_T cA) A) {x1 : Int32} {x2 : Int64} {x4 : Int64} {x6 : Int32} {z : kr_S} {o : ((Int32 × Int64 × Int64 × Int32 × kr_S) ⊕ kr_S)} (h : fr_heapsBetween_7 n x1 x2 x4 x6 z = some o) (kb : ∀ (a0' : Int32) (a1' : Int64) (a2' : Int64) (a3' : Int32) (a4' : kr_S), o = .inl (a0', a1', a2', a3', a4') → kj_J p l e rm_X4_heapsBetween s m args below meth c 0 0 Q 11 D A ((kr_W cA a0 q n X Y) a4') 7 [(0, .ref a0), (1, .int a0'), (2, .long a1'), (4, .long a2'), (6, .int a3')] []) (ke0 : ∀ (a0' : kr_S), o = .inr a0' → kj_J p l e rm_X4_heapsBetween s m args below meth c 0 0 Q 11 D A ((kr_W cA a0 q n X Y) a0') 126 [(0, .ref a0)] []) : kj_J p l e rm_X4_heapsBetween s m args below meth c 0 0 Q 11 D A ((kr_W cA a0 q n X Y) z) 7 [(0, .ref a0), (1, .int x1), (2, .long x2), (4, .long x4), (6, .int x6)] [] := by
  unfold fr_heapsBetween_7 at h
  refine kj_iload F dX4_heapsBetween_7 4 rfl ?_
  refine kj_iload_n F dX4_heapsBetween_9 1 rfl rfl ?_
  refine kj_icmp_ge F dX4_heapsBetween_10 (tgt := 126) (by decide) h (fun hc h => ?_) (fun hc h => ?_)
  · refine kj_J.sub [0] rfl ?_
    exact ke0 z (Option.some.inj h).symm
  · refine kj_lload_n F dX4_heapsBetween_13 2 rfl rfl ?_
    refine kj_iload F dX4_heapsBetween_14 4 rfl ?_
    refine kj_cSip (As := [.long x2, .int x6]) (rest := []) F dX4_heapsBetween_16 h (fun o h1 => cx_rowIn (w := (kr_W cA a0 q n X Y)) h1) (va_cwS 2 F.2.2.2.2.1 gX4_heapsBetween_X0_rowIn rfl rfl rfl (by decide +kernel) ⟨Nat.le_of_ble_eq_true rfl, Nat.le_of_ble_eq_true rfl⟩) rfl rfl (Nat.le_of_ble_eq_true rfl) ⟨Nat.zero_le _, Nat.zero_le _⟩ (fun o1 h => ?_)
    refine kj_istore F dX4_heapsBetween_19 (lv' := [(7, .int o1), (0, .ref a0), (1, .int x1), (2, .long x2), (4, .long x4), (6, .int x6)]) (by decide) rfl ?_
    refine kj_lload F dX4_heapsBetween_21 4 rfl ?_
    refine kj_iload F dX4_heapsBetween_23 5 rfl ?_
    refine kj_cSip (As := [.long x4, .int x6]) (rest := []) F dX4_heapsBetween_25 h (fun o h1 => cx_rowIn (w := (kr_W cA a0 q n X Y)) h1) (va_cwS 2 F.2.2.2.2.1 gX4_heapsBetween_X0_rowIn rfl rfl rfl (by decide +kernel) ⟨Nat.le_of_ble_eq_true rfl, Nat.le_of_ble_eq_true rfl⟩) rfl rfl (Nat.le_of_ble_eq_true rfl) ⟨Nat.zero_le _, Nat.zero_le _⟩ (fun o2 h => ?_)
    refine kj_istore F dX4_heapsBetween_28 (lv' := [(8, .int o2), (7, .int o1), (0, .ref a0), (1, .int x1), (2, .long x2), (4, .long x4), (6, .int x6)]) (by decide) rfl ?_
    refine kj_iconst F dX4_heapsBetween_30 (v := 0) (by decide) ?_
    refine kj_istore F dX4_heapsBetween_31 (lv' := [(9, .int (0 : Int32)), (8, .int o2), (7, .int o1), (0, .ref a0), (1, .int x1), (2, .long x2), (4, .long x4), (6, .int x6)]) (by decide) rfl ?_
    refine kj_J.sub [3, 4, 5, 6, 7, 2, 1, 0] rfl ?_
    refine kj_bn h (fun r3 h1 h => ?_)
    refine jlr_heapsBetween_33 F h1 ?_
    refine kj_aload_n F dX4_heapsBetween_116 0 rfl rfl ?_
    refine kj_cVv (As := []) (rest := []) F dX4_heapsBetween_117 h (fun o h1 => cr_goToNextRow h1) (cwV 0 F.2.2.2.2.1 gX4_heapsBetween_X4_goToNextRow rfl rfl rfl (by decide +kernel) ⟨Nat.le_of_ble_eq_true rfl, Nat.le_of_ble_eq_true rfl⟩) _ (kr_pos (j := 0) rfl) rfl rfl rfl rfl (Nat.le_of_ble_eq_true rfl) ⟨Nat.zero_le _, Nat.zero_le _⟩ (fun o4 h => ?_)
    refine kj_iinc F dX4_heapsBetween_120 4 rfl (v := 1) (by decide) (by decide) (lv' := [(6, .int ((r3.2.2.2.1) + 1)), (0, .ref a0), (1, .int (r3.1)), (2, .long (r3.2.1)), (4, .long (r3.2.2.1))]) rfl ?_
    refine kj_goto F dX4_heapsBetween_123 (tgt := 7) (by decide) ?_
    refine kj_J.sub [1, 2, 3, 4, 0] rfl ?_
    exact kb (r3.1) (r3.2.1) (r3.2.2.1) ((r3.2.2.2.1) + 1) o4 (Option.some.inj h).symm
theorem jlr_heapsBetween_7 {p : Program} {l : Launch} {e : Env} {s : State} {m : MethodId} {args : Array Value} {below : List Frame} {meth : Method} {c : Code} {A : Nat → Prop} {D : va_G} {cA : Nat → ClassId} {a0 n : Nat} {q : Nat → Nat} {X Y : va_W} {Q : State → Prop} (F : kj_Fx p s m args meth c cX4_heapsBetween 11 wsX4_heapsBetween RX4 (some .int) D (kx_T cA) A) {fu : Nat} {x1 : Int32} {x2 : Int64} {x4 : Int64} {x6 : Int32} {z : kr_S} {r : kr_S} (h : lr_heapsBetween_7 n fu x1 x2 x4 x6 z = some r) (ke : kj_J p l e rm_X4_heapsBetween s m args below meth c 0 0 Q 11 D A ((kr_W cA a0 q n X Y) (r)) 126 [(0, .ref a0)] []) : kj_J p l e rm_X4_heapsBetween s m args below meth c 0 0 Q 11 D A ((kr_W cA a0 q n X Y) z) 7 [(0, .ref a0), (1, .int x1), (2, .long x2), (4, .long x4), (6, .int x6)] [] :=
  kj_it_J (Wh := fun (u : (Int32 × Int64 × Int64 × Int32 × kr_S)) => kj_J p l e rm_X4_heapsBetween s m args below meth c 0 0 Q 11 D A ((kr_W cA a0 q n X Y) (u.2.2.2.2)) 7 [(0, .ref a0), (1, .int (u.1)), (2, .long (u.2.1)), (4, .long (u.2.2.1)), (6, .int (u.2.2.2.1))] []) (We := fun r => kj_J p l e rm_X4_heapsBetween s m args below meth c 0 0 Q 11 D A ((kr_W cA a0 q n X Y) (r)) 126 [(0, .ref a0)] []) (fun u o h kb ke => jr_heapsBetween_7 F h (fun a0' a1' a2' a3' a4' e => kb (a0', a1', a2', a3', a4') e) (fun a0' e => ke a0' e)) fu (x1, x2, x4, x6, z) r h ke
set_option maxRecDepth 20000 in
theorem jr_heapsBetween {p : Program} {l : Launch} {e : Env} {s : State} {m : MethodId} {args : Array Value} {below : List Frame} {meth : Method} {c : Code} {A : Nat → Prop} {D : va_G} {cA : Nat → ClassId} {a0 n : Nat} {q : Nat → Nat} {X Y : va_W} (F : kj_Fx p s m args meth c cX4_heapsBetween 11 wsX4_heapsBetween RX4 (some .int) D (kx_T cA) A) {x1 : Int32} {x2 : Int64} {x4 : Int64} {z : kr_S} {o : (Int32 × kr_S)} (h : fr_heapsBetween n x1 x2 x4 z = some o) : kj_J p l e rm_X4_heapsBetween s m args below meth c 0 0 (MQ below (kj_Qi D (kx_T cA) A (kr_W cA a0 q n X Y) o) args s 0 0 A) 11 D A ((kr_W cA a0 q n X Y) z) 0 [(0, .ref a0), (1, .int x1), (2, .long x2), (4, .long x4)] [] := by
  unfold fr_heapsBetween at h
  refine kj_aload_n F dX4_heapsBetween_0 0 rfl rfl ?_
  refine kj_cVv (As := []) (rest := []) F dX4_heapsBetween_1 h (fun o h1 => cr_beginWithFullRow h1) (cwV 0 F.2.2.2.2.1 gX4_heapsBetween_X4_beginWithFullRow rfl rfl rfl (by decide +kernel) ⟨Nat.le_of_ble_eq_true rfl, Nat.le_of_ble_eq_true rfl⟩) _ (kr_pos (j := 0) rfl) rfl rfl rfl rfl (Nat.le_of_ble_eq_true rfl) ⟨Nat.zero_le _, Nat.zero_le _⟩ (fun o1 h => ?_)
  refine kj_iconst F dX4_heapsBetween_4 (v := 0) (by decide) ?_
  refine kj_istore F dX4_heapsBetween_5 (lv' := [(6, .int (0 : Int32)), (0, .ref a0), (1, .int x1), (2, .long x2), (4, .long x4)]) (by decide) rfl ?_
  refine kj_J.sub [1, 2, 3, 4, 0] rfl ?_
  refine kj_bn h (fun r2 h1 h => ?_)
  refine jlr_heapsBetween_7 F h1 ?_
  refine kj_aload_n F dX4_heapsBetween_126 0 rfl rfl ?_
  refine kj_cVl (As := []) (rest := []) F dX4_heapsBetween_127 h (fun o h1 => cr_sumOfAll h1) (cwV 0 F.2.2.2.2.1 gX4_heapsBetween_X4_sumOfAll rfl rfl rfl (by decide +kernel) ⟨Nat.le_of_ble_eq_true rfl, Nat.le_of_ble_eq_true rfl⟩) _ (kr_pos (j := 0) rfl) rfl rfl rfl rfl (Nat.le_of_ble_eq_true rfl) ⟨Nat.zero_le _, Nat.zero_le _⟩ (fun o3 h => ?_)
  refine kj_l2i F dX4_heapsBetween_130 ?_
  exact kj_iret F dX4_heapsBetween_131 h
theorem cr_heapsBetween {l : Launch} {D : va_G} {cA : Nat → ClassId} {a0 n : Nat} {q : Nat → Nat} {X Y : va_W} {x1 : Int32} {x2 : Int64} {x4 : Int64} {z : kr_S} {o : (Int32 × kr_S)} (h : fr_heapsBetween n x1 x2 x4 z = some o) : kj_Mi l yX4_heapsBetween wsX4_heapsBetween rm_X4_heapsBetween D (kx_T cA) (kr_W cA a0 q n X Y) z [.ref a0, .int x1, .long x2, .long x4] o :=
  fun sz => kj_start (by decide) rfl (Nat.le_of_ble_eq_true rfl) rfl fun p e s m args below meth c hsz F => jr_heapsBetween F h
/-! X4_sumOfWeights -/
abbrev rm_X4_sumOfWeights : Room := { frames := 3, cells := 0, slots := 0, locals := 80 }
theorem in_X4_sumOfWeights_X4 : ∀ w ∈ u_ws RX4 TX4 4, w ∈ wsX4_sumOfWeights := by decide +kernel
def fr_sumOfWeights_56 (n : Nat) (x1 : Int32) (x2 : Int32) (x3 : Int32) (x4 : Int32) (x5 : Int32) (x6 : Int64) (t0 : Int64) (z : kr_S) : Option ((Int32 × Int32 × Int32 × Int32 × Int32 × kr_S) ⊕ (Int32 × Int32 × Int32 × Int32 × kr_S)) :=
  (fr_sumOfOthersAbove n x5 z).bind fun o1 =>
  if ((1000000007) : Int64) = 0 then none else
  if ((1000000007) : Int64) = 0 then none else
  (kr_rl n (o1.2) 0 x5).bind fun v2 =>
  if ((1000000007) : Int64) = 0 then none else
  (kr_wl n (o1.2) 1 x5 ((((((o1.1) - (o1.1) / ((1000000007) : Int64) * ((1000000007) : Int64)) * x6) - (((o1.1) - (o1.1) / ((1000000007) : Int64) * ((1000000007) : Int64)) * x6) / ((1000000007) : Int64) * ((1000000007) : Int64)) + (v2 * t0)) - (((((o1.1) - (o1.1) / ((1000000007) : Int64) * ((1000000007) : Int64)) * x6) - (((o1.1) - (o1.1) / ((1000000007) : Int64) * ((1000000007) : Int64)) * x6) / ((1000000007) : Int64) * ((1000000007) : Int64)) + (v2 * t0)) / ((1000000007) : Int64) * ((1000000007) : Int64))).bind fun z3 =>
  some (.inl (x1, x2, x3, x4, (x5 + 1), z3))
def fr_sumOfWeights_16 (n : Nat) (x1 : Int32) (x2 : Int32) (x3 : Int32) (x4 : Int32) (x5 : Int32) (z : kr_S) : Option ((Int32 × Int32 × Int32 × Int32 × Int32 × kr_S) ⊕ (Int32 × Int32 × Int32 × Int32 × kr_S)) :=
  if (nI n) ≤ x5 then
  some (.inr (x1, x2, x3, x4, z))
  else
  (kr_rd n z x5).bind fun v1 =>
  (fr_exponent x2 v1 x4).bind fun o2 =>
  (fr_power x3 o2).bind fun o3 =>
  if x2 = (4 : Int32) then
  fr_sumOfWeights_56 n x1 x2 x3 x4 x5 o3 (1 : Int64) z
  else
  fr_sumOfWeights_56 n x1 x2 x3 x4 x5 o3 o3 z
def lr_sumOfWeights_16 (n : Nat) (fu : Nat) (x1 : Int32) (x2 : Int32) (x3 : Int32) (x4 : Int32) (x5 : Int32) (z : kr_S) : Option (Int32 × Int32 × Int32 × Int32 × kr_S) :=
  kj_it (fun (s : (Int32 × Int32 × Int32 × Int32 × Int32 × kr_S)) => fr_sumOfWeights_16 n (s.1) (s.2.1) (s.2.2.1) (s.2.2.2.1) (s.2.2.2.2.1) (s.2.2.2.2.2)) fu (x1, x2, x3, x4, x5, z)
def fr_sumOfWeights_7 (n : Nat) (x1 : Int32) (x2 : Int32) (x3 : Int32) (x4 : Int32) (z : kr_S) : Option ((Int32 × Int32 × Int32 × Int32 × kr_S) ⊕ kr_S) :=
  if x1 ≤ x4 then
  some (.inr z)
  else
  (lr_sumOfWeights_16 n 5000 x1 x2 x3 x4 (0 : Int32) z).bind fun r1 =>
  (fr_goToNextRow n (r1.2.2.2.2)).bind fun o2 =>
  some (.inl ((r1.1), (r1.2.1), (r1.2.2.1), ((r1.2.2.2.1) + 1), o2))
def lr_sumOfWeights_7 (n : Nat) (fu : Nat) (x1 : Int32) (x2 : Int32) (x3 : Int32) (x4 : Int32) (z : kr_S) : Option kr_S :=
  kj_it (fun (s : (Int32 × Int32 × Int32 × Int32 × kr_S)) => fr_sumOfWeights_7 n (s.1) (s.2.1) (s.2.2.1) (s.2.2.2.1) (s.2.2.2.2)) fu (x1, x2, x3, x4, z)
def fr_sumOfWeights (n : Nat) (x1 : Int32) (x2 : Int32) (x3 : Int32) (z : kr_S) : Option (Int32 × kr_S) :=
  (fr_beginWithFullRow n z).bind fun o1 =>
  (lr_sumOfWeights_7 n 5000 x1 x2 x3 (0 : Int32) o1).bind fun r2 =>
  (fr_sumOfAll n (r2)).bind fun o3 =>
  if ((1000000007) : Int64) = 0 then none else
  some ((((o3.1) - (o3.1) / ((1000000007) : Int64) * ((1000000007) : Int64))).toInt32, (o3.2))
set_option maxRecDepth 20000 in
theorem jr_sumOfWeights_56 {p : Program} {l : Launch} {e : Env} {s : State} {m : MethodId} {args : Array Value} {below : List Frame} {meth : Method} {c : Code} {A : Nat → Prop} {D : va_G} {cA : Nat → ClassId} {a0 n : Nat} {q : Nat → Nat} {X Y : va_W} {Q : State → Prop} (F : kj_Fx p s m args meth c cX4_sumOfWeights 12 wsX4_sumOfWeights RX4 (some .int) D (kx_T cA) A) {x1 : Int32} {x2 : Int32} {x3 : Int32} {x4 : Int32} {x5 : Int32} {x6 : Int64} {t0 : Int64} {z : kr_S} {o : ((Int32 × Int32 × Int32 × Int32 × Int32 × kr_S) ⊕ (Int32 × Int32 × Int32 × Int32 × kr_S))} (h : fr_sumOfWeights_56 n x1 x2 x3 x4 x5 x6 t0 z = some o) (kb : ∀ (a0' : Int32) (a1' : Int32) (a2' : Int32) (a3' : Int32) (a4' : Int32) (a5' : kr_S), o = .inl (a0', a1', a2', a3', a4', a5') → kj_J p l e rm_X4_sumOfWeights s m args below meth c 0 0 Q 12 D A ((kr_W cA a0 q n X Y) a5') 16 [(0, .ref a0), (1, .int a0'), (2, .int a1'), (3, .int a2'), (4, .int a3'), (5, .int a4')] []) (ke0 : ∀ (a0' : Int32) (a1' : Int32) (a2' : Int32) (a3' : Int32) (a4' : kr_S), o = .inr (a0', a1', a2', a3', a4') → kj_J p l e rm_X4_sumOfWeights s m args below meth c 0 0 Q 12 D A ((kr_W cA a0 q n X Y) a4') 107 [(0, .ref a0), (1, .int a0'), (2, .int a1'), (3, .int a2'), (4, .int a3')] []) : kj_J p l e rm_X4_sumOfWeights s m args below meth c 0 0 Q 12 D A ((kr_W cA a0 q n X Y) z) 56 [(0, .ref a0), (1, .int x1), (2, .int x2), (3, .int x3), (4, .int x4), (5, .int x5), (6, .long x6)] [.long t0] := by
  unfold fr_sumOfWeights_56 at h
  refine kj_lstore F dX4_sumOfWeights_56 (lv' := [(8, .long t0), (0, .ref a0), (1, .int x1), (2, .int x2), (3, .int x3), (4, .int x4), (5, .int x5), (6, .long x6)]) (by decide) rfl ?_
  refine kj_aload_n F dX4_sumOfWeights_58 1 rfl rfl ?_
  refine kj_iload F dX4_sumOfWeights_59 6 rfl ?_
  refine kj_cVl (As := [.int x5]) (rest := []) F dX4_sumOfWeights_61 h (fun o h1 => cr_sumOfOthersAbove h1) (cwV 1 F.2.2.2.2.1 gX4_sumOfWeights_X4_sumOfOthersAbove rfl rfl rfl (by decide +kernel) ⟨Nat.le_of_ble_eq_true rfl, Nat.le_of_ble_eq_true rfl⟩) _ (kr_pos (j := 0) rfl) rfl rfl rfl rfl (Nat.le_of_ble_eq_true rfl) ⟨Nat.zero_le _, Nat.zero_le _⟩ (fun o1 h => ?_)
  refine kj_ldc2 F dX4_sumOfWeights_64 (v := (1000000007)) (by decide +kernel) ?_
  refine kj_lrem F dX4_sumOfWeights_67 h (fun h => ?_)
  refine kj_lload F dX4_sumOfWeights_68 7 rfl ?_
  refine kj_lmul F dX4_sumOfWeights_70 ?_
  refine kj_ldc2 F dX4_sumOfWeights_71 (v := (1000000007)) (by decide +kernel) ?_
  refine kj_lrem F dX4_sumOfWeights_74 h (fun h => ?_)
  refine kj_lstore F dX4_sumOfWeights_75 (lv' := [(10, .long ((((o1.1) - (o1.1) / ((1000000007) : Int64) * ((1000000007) : Int64)) * x6) - (((o1.1) - (o1.1) / ((1000000007) : Int64) * ((1000000007) : Int64)) * x6) / ((1000000007) : Int64) * ((1000000007) : Int64))), (8, .long t0), (0, .ref a0), (1, .int x1), (2, .int x2), (3, .int x3), (4, .int x4), (5, .int x5), (6, .long x6)]) (by decide) rfl ?_
  refine kj_aload_n F dX4_sumOfWeights_77 2 rfl rfl ?_
  refine kr_get F dX4_sumOfWeights_78 in_X4_sumOfWeights_X4 3 (by decide) (by decide +kernel) rfl rfl ?_
  refine kj_iload F dX4_sumOfWeights_81 7 rfl ?_
  refine kj_lload F dX4_sumOfWeights_83 0 rfl ?_
  refine kj_aload_n F dX4_sumOfWeights_85 2 rfl rfl ?_
  refine kr_get F dX4_sumOfWeights_86 in_X4_sumOfWeights_X4 2 (by decide) (by decide +kernel) rfl rfl ?_
  refine kj_iload F dX4_sumOfWeights_89 7 rfl ?_
  refine kr_lald F dX4_sumOfWeights_91 0 (by decide) h (fun v2 h => ?_)
  refine kj_lload F dX4_sumOfWeights_92 1 rfl ?_
  refine kj_lmul F dX4_sumOfWeights_94 ?_
  refine kj_ladd F dX4_sumOfWeights_95 ?_
  refine kj_ldc2 F dX4_sumOfWeights_96 (v := (1000000007)) (by decide +kernel) ?_
  refine kj_lrem F dX4_sumOfWeights_99 h (fun h => ?_)
  refine kr_last F dX4_sumOfWeights_100 1 (by decide) h (fun z3 h => ?_)
  refine kj_iinc F dX4_sumOfWeights_101 7 rfl (v := 1) (by decide) (by decide) (lv' := [(5, .int (x5 + 1)), (10, .long ((((o1.1) - (o1.1) / ((1000000007) : Int64) * ((1000000007) : Int64)) * x6) - (((o1.1) - (o1.1) / ((1000000007) : Int64) * ((1000000007) : Int64)) * x6) / ((1000000007) : Int64) * ((1000000007) : Int64))), (8, .long t0), (0, .ref a0), (1, .int x1), (2, .int x2), (3, .int x3), (4, .int x4), (6, .long x6)]) rfl ?_
  refine kj_goto F dX4_sumOfWeights_104 (tgt := 16) (by decide) ?_
  refine kj_J.sub [3, 4, 5, 6, 7, 0] rfl ?_
  exact kb x1 x2 x3 x4 (x5 + 1) z3 (Option.some.inj h).symm
set_option maxRecDepth 20000 in
theorem jr_sumOfWeights_16 {p : Program} {l : Launch} {e : Env} {s : State} {m : MethodId} {args : Array Value} {below : List Frame} {meth : Method} {c : Code} {A : Nat → Prop} {D : va_G} {cA : Nat → ClassId} {a0 n : Nat} {q : Nat → Nat} {X Y : va_W} {Q : State → Prop} (F : kj_Fx p s m args meth c cX4_sumOfWeights 12 wsX4_sumOfWeights RX4 (some .int) D (kx_T cA) A) {x1 : Int32} {x2 : Int32} {x3 : Int32} {x4 : Int32} {x5 : Int32} {z : kr_S} {o : ((Int32 × Int32 × Int32 × Int32 × Int32 × kr_S) ⊕ (Int32 × Int32 × Int32 × Int32 × kr_S))} (h : fr_sumOfWeights_16 n x1 x2 x3 x4 x5 z = some o) (kb : ∀ (a0' : Int32) (a1' : Int32) (a2' : Int32) (a3' : Int32) (a4' : Int32) (a5' : kr_S), o = .inl (a0', a1', a2', a3', a4', a5') → kj_J p l e rm_X4_sumOfWeights s m args below meth c 0 0 Q 12 D A ((kr_W cA a0 q n X Y) a5') 16 [(0, .ref a0), (1, .int a0'), (2, .int a1'), (3, .int a2'), (4, .int a3'), (5, .int a4')] []) (ke0 : ∀ (a0' : Int32) (a1' : Int32) (a2' : Int32) (a3' : Int32) (a4' : kr_S), o = .inr (a0', a1', a2', a3', a4') → kj_J p l e rm_X4_sumOfWeights s m args below meth c 0 0 Q 12 D A ((kr_W cA a0 q n X Y) a4') 107 [(0, .ref a0), (1, .int a0'), (2, .int a1'), (3, .int a2'), (4, .int a3')] []) : kj_J p l e rm_X4_sumOfWeights s m args below meth c 0 0 Q 12 D A ((kr_W cA a0 q n X Y) z) 16 [(0, .ref a0), (1, .int x1), (2, .int x2), (3, .int x3), (4, .int x4), (5, .int x5)] [] := by
  unfold fr_sumOfWeights_16 at h
  refine kj_iload F dX4_sumOfWeights_16 5 rfl ?_
  refine kj_aload_n F dX4_sumOfWeights_18 0 rfl rfl ?_
  refine kr_get F dX4_sumOfWeights_19 in_X4_sumOfWeights_X4 0 (by decide) (by decide +kernel) rfl rfl ?_
  refine kr_rlen F dX4_sumOfWeights_22 ?_
  refine kj_icmp_ge F dX4_sumOfWeights_23 (tgt := 107) (by decide) h (fun hc h => ?_) (fun hc h => ?_)
  · refine kj_J.sub [0, 1, 2, 3, 4] rfl ?_
    exact ke0 x1 x2 x3 x4 z (Option.some.inj h).symm
  · refine kj_iload_n F dX4_sumOfWeights_26 3 rfl rfl ?_
    refine kj_iload_n F dX4_sumOfWeights_27 2 rfl rfl ?_
    refine kj_aload_n F dX4_sumOfWeights_28 0 rfl rfl ?_
    refine kr_get F dX4_sumOfWeights_29 in_X4_sumOfWeights_X4 0 (by decide) (by decide +kernel) rfl rfl ?_
    refine kj_iload F dX4_sumOfWeights_32 5 rfl ?_
    refine kr_rald F dX4_sumOfWeights_34 h (fun v1 h => ?_)
    refine kj_iload F dX4_sumOfWeights_35 4 rfl ?_
    refine kj_cSip (As := [.int x2, .int v1, .int x4]) (rest := [.int x3]) F dX4_sumOfWeights_37 h (fun o h1 => cr_exponent (w := (kr_W cA a0 q n X Y)) h1) (va_cwS 3 F.2.2.2.2.1 gX4_sumOfWeights_X4_exponent rfl rfl rfl (by decide +kernel) ⟨Nat.le_of_ble_eq_true rfl, Nat.le_of_ble_eq_true rfl⟩) rfl rfl (Nat.le_of_ble_eq_true rfl) ⟨Nat.zero_le _, Nat.zero_le _⟩ (fun o2 h => ?_)
    refine kj_cSlp (As := [.int x3, .int o2]) (rest := []) F dX4_sumOfWeights_40 h (fun o h1 => cr_power (w := (kr_W cA a0 q n X Y)) h1) (va_cwS 2 F.2.2.2.2.1 gX4_sumOfWeights_X4_power rfl rfl rfl (by decide +kernel) ⟨Nat.le_of_ble_eq_true rfl, Nat.le_of_ble_eq_true rfl⟩) rfl rfl (Nat.le_of_ble_eq_true rfl) ⟨Nat.zero_le _, Nat.zero_le _⟩ (fun o3 h => ?_)
    refine kj_lstore F dX4_sumOfWeights_43 (lv' := [(6, .long o3), (0, .ref a0), (1, .int x1), (2, .int x2), (3, .int x3), (4, .int x4), (5, .int x5)]) (by decide) rfl ?_
    refine kj_iload_n F dX4_sumOfWeights_45 3 rfl rfl ?_
    refine kj_iconst F dX4_sumOfWeights_46 (v := 4) (by decide) ?_
    refine kj_icmp_ne F dX4_sumOfWeights_47 (tgt := 54) (by decide) h (fun hc h => ?_) (fun hc h => ?_)
    · refine kj_lconst F dX4_sumOfWeights_50 (v := 1) (by decide) ?_
      refine kj_goto F dX4_sumOfWeights_51 (tgt := 56) (by decide) ?_
      refine kj_J.sub [1, 2, 3, 4, 5, 6, 0] rfl ?_
      exact jr_sumOfWeights_56 F h kb ke0
    · refine kj_lload F dX4_sumOfWeights_54 0 rfl ?_
      refine kj_J.sub [1, 2, 3, 4, 5, 6, 0] rfl ?_
      exact jr_sumOfWeights_56 F h kb ke0
theorem jlr_sumOfWeights_16 {p : Program} {l : Launch} {e : Env} {s : State} {m : MethodId} {args : Array Value} {below : List Frame} {meth : Method} {c : Code} {A : Nat → Prop} {D : va_G} {cA : Nat → ClassId} {a0 n : Nat} {q : Nat → Nat} {X Y : va_W} {Q : State → Prop} (F : kj_Fx p s m args meth c cX4_sumOfWeights 12 wsX4_sumOfWeights RX4 (some .int) D (kx_T cA) A) {fu : Nat} {x1 : Int32} {x2 : Int32} {x3 : Int32} {x4 : Int32} {x5 : Int32} {z : kr_S} {r : (Int32 × Int32 × Int32 × Int32 × kr_S)} (h : lr_sumOfWeights_16 n fu x1 x2 x3 x4 x5 z = some r) (ke : kj_J p l e rm_X4_sumOfWeights s m args below meth c 0 0 Q 12 D A ((kr_W cA a0 q n X Y) (r.2.2.2.2)) 107 [(0, .ref a0), (1, .int (r.1)), (2, .int (r.2.1)), (3, .int (r.2.2.1)), (4, .int (r.2.2.2.1))] []) : kj_J p l e rm_X4_sumOfWeights s m args below meth c 0 0 Q 12 D A ((kr_W cA a0 q n X Y) z) 16 [(0, .ref a0), (1, .int x1), (2, .int x2), (3, .int x3), (4, .int x4), (5, .int x5)] [] :=
  kj_it_J (Wh := fun (u : (Int32 × Int32 × Int32 × Int32 × Int32 × kr_S)) => kj_J p l e rm_X4_sumOfWeights s m args below meth c 0 0 Q 12 D A ((kr_W cA a0 q n X Y) (u.2.2.2.2.2)) 16 [(0, .ref a0), (1, .int (u.1)), (2, .int (u.2.1)), (3, .int (u.2.2.1)), (4, .int (u.2.2.2.1)), (5, .int (u.2.2.2.2.1))] []) (We := fun r => kj_J p l e rm_X4_sumOfWeights s m args below meth c 0 0 Q 12 D A ((kr_W cA a0 q n X Y) (r.2.2.2.2)) 107 [(0, .ref a0), (1, .int (r.1)), (2, .int (r.2.1)), (3, .int (r.2.2.1)), (4, .int (r.2.2.2.1))] []) (fun u o h kb ke => jr_sumOfWeights_16 F h (fun a0' a1' a2' a3' a4' a5' e => kb (a0', a1', a2', a3', a4', a5') e) (fun a0' a1' a2' a3' a4' e => ke (a0', a1', a2', a3', a4') e)) fu (x1, x2, x3, x4, x5, z) r h ke
set_option maxRecDepth 20000 in
theorem jr_sumOfWeights_7 {p : Program} {l : Launch} {e : Env} {s : State} {m : MethodId} {args : Array Value} {below : List Frame} {meth : Method} {c : Code} {A : Nat → Prop} {D : va_G} {cA : Nat → ClassId} {a0 n : Nat} {q : Nat → Nat} {X Y : va_W} {Q : State → Prop} (F : kj_Fx p s m args meth c cX4_sumOfWeights 12 wsX4_sumOfWeights RX4 (some .int) D (kx_T cA) A) {x1 : Int32} {x2 : Int32} {x3 : Int32} {x4 : Int32} {z : kr_S} {o : ((Int32 × Int32 × Int32 × Int32 × kr_S) ⊕ kr_S)} (h : fr_sumOfWeights_7 n x1 x2 x3 x4 z = some o) (kb : ∀ (a0' : Int32) (a1' : Int32) (a2' : Int32) (a3' : Int32) (a4' : kr_S), o = .inl (a0', a1', a2', a3', a4') → kj_J p l e rm_X4_sumOfWeights s m args below meth c 0 0 Q 12 D A ((kr_W cA a0 q n X Y) a4') 7 [(0, .ref a0), (1, .int a0'), (2, .int a1'), (3, .int a2'), (4, .int a3')] []) (ke0 : ∀ (a0' : kr_S), o = .inr a0' → kj_J p l e rm_X4_sumOfWeights s m args below meth c 0 0 Q 12 D A ((kr_W cA a0 q n X Y) a0') 117 [(0, .ref a0)] []) : kj_J p l e rm_X4_sumOfWeights s m args below meth c 0 0 Q 12 D A ((kr_W cA a0 q n X Y) z) 7 [(0, .ref a0), (1, .int x1), (2, .int x2), (3, .int x3), (4, .int x4)] [] := by
  unfold fr_sumOfWeights_7 at h
  refine kj_iload F dX4_sumOfWeights_7 4 rfl ?_
  refine kj_iload_n F dX4_sumOfWeights_9 1 rfl rfl ?_
  refine kj_icmp_ge F dX4_sumOfWeights_10 (tgt := 117) (by decide) h (fun hc h => ?_) (fun hc h => ?_)
  · refine kj_J.sub [0] rfl ?_
    exact ke0 z (Option.some.inj h).symm
  · refine kj_iconst F dX4_sumOfWeights_13 (v := 0) (by decide) ?_
    refine kj_istore F dX4_sumOfWeights_14 (lv' := [(5, .int (0 : Int32)), (0, .ref a0), (1, .int x1), (2, .int x2), (3, .int x3), (4, .int x4)]) (by decide) rfl ?_
    refine kj_J.sub [1, 2, 3, 4, 5, 0] rfl ?_
    refine kj_bn h (fun r1 h1 h => ?_)
    refine jlr_sumOfWeights_16 F h1 ?_
    refine kj_aload_n F dX4_sumOfWeights_107 0 rfl rfl ?_
    refine kj_cVv (As := []) (rest := []) F dX4_sumOfWeights_108 h (fun o h1 => cr_goToNextRow h1) (cwV 0 F.2.2.2.2.1 gX4_sumOfWeights_X4_goToNextRow rfl rfl rfl (by decide +kernel) ⟨Nat.le_of_ble_eq_true rfl, Nat.le_of_ble_eq_true rfl⟩) _ (kr_pos (j := 0) rfl) rfl rfl rfl rfl (Nat.le_of_ble_eq_true rfl) ⟨Nat.zero_le _, Nat.zero_le _⟩ (fun o2 h => ?_)
    refine kj_iinc F dX4_sumOfWeights_111 4 rfl (v := 1) (by decide) (by decide) (lv' := [(4, .int ((r1.2.2.2.1) + 1)), (0, .ref a0), (1, .int (r1.1)), (2, .int (r1.2.1)), (3, .int (r1.2.2.1))]) rfl ?_
    refine kj_goto F dX4_sumOfWeights_114 (tgt := 7) (by decide) ?_
    refine kj_J.sub [1, 2, 3, 4, 0] rfl ?_
    exact kb (r1.1) (r1.2.1) (r1.2.2.1) ((r1.2.2.2.1) + 1) o2 (Option.some.inj h).symm
theorem jlr_sumOfWeights_7 {p : Program} {l : Launch} {e : Env} {s : State} {m : MethodId} {args : Array Value} {below : List Frame} {meth : Method} {c : Code} {A : Nat → Prop} {D : va_G} {cA : Nat → ClassId} {a0 n : Nat} {q : Nat → Nat} {X Y : va_W} {Q : State → Prop} (F : kj_Fx p s m args meth c cX4_sumOfWeights 12 wsX4_sumOfWeights RX4 (some .int) D (kx_T cA) A) {fu : Nat} {x1 : Int32} {x2 : Int32} {x3 : Int32} {x4 : Int32} {z : kr_S} {r : kr_S} (h : lr_sumOfWeights_7 n fu x1 x2 x3 x4 z = some r) (ke : kj_J p l e rm_X4_sumOfWeights s m args below meth c 0 0 Q 12 D A ((kr_W cA a0 q n X Y) (r)) 117 [(0, .ref a0)] []) : kj_J p l e rm_X4_sumOfWeights s m args below meth c 0 0 Q 12 D A ((kr_W cA a0 q n X Y) z) 7 [(0, .ref a0), (1, .int x1), (2, .int x2), (3, .int x3), (4, .int x4)] [] :=
  kj_it_J (Wh := fun (u : (Int32 × Int32 × Int32 × Int32 × kr_S)) => kj_J p l e rm_X4_sumOfWeights s m args below meth c 0 0 Q 12 D A ((kr_W cA a0 q n X Y) (u.2.2.2.2)) 7 [(0, .ref a0), (1, .int (u.1)), (2, .int (u.2.1)), (3, .int (u.2.2.1)), (4, .int (u.2.2.2.1))] []) (We := fun r => kj_J p l e rm_X4_sumOfWeights s m args below meth c 0 0 Q 12 D A ((kr_W cA a0 q n X Y) (r)) 117 [(0, .ref a0)] []) (fun u o h kb ke => jr_sumOfWeights_7 F h (fun a0' a1' a2' a3' a4' e => kb (a0', a1', a2', a3', a4') e) (fun a0' e => ke a0' e)) fu (x1, x2, x3, x4, z) r h ke
set_option maxRecDepth 20000 in
theorem jr_sumOfWeights {p : Program} {l : Launch} {e : Env} {s : State} {m : MethodId} {args : Array Value} {below : List Frame} {meth : Method} {c : Code} {A : Nat → Prop} {D : va_G} {cA : Nat → ClassId} {a0 n : Nat} {q : Nat → Nat} {X Y : va_W} (F : kj_Fx p s m args meth c cX4_sumOfWeights 12 wsX4_sumOfWeights RX4 (some .int) D (kx_T cA) A) {x1 : Int32} {x2 : Int32} {x3 : Int32} {z : kr_S} {o : (Int32 × kr_S)} (h : fr_sumOfWeights n x1 x2 x3 z = some o) : kj_J p l e rm_X4_sumOfWeights s m args below meth c 0 0 (MQ below (kj_Qi D (kx_T cA) A (kr_W cA a0 q n X Y) o) args s 0 0 A) 12 D A ((kr_W cA a0 q n X Y) z) 0 [(0, .ref a0), (1, .int x1), (2, .int x2), (3, .int x3)] [] := by
  unfold fr_sumOfWeights at h
  refine kj_aload_n F dX4_sumOfWeights_0 0 rfl rfl ?_
  refine kj_cVv (As := []) (rest := []) F dX4_sumOfWeights_1 h (fun o h1 => cr_beginWithFullRow h1) (cwV 0 F.2.2.2.2.1 gX4_sumOfWeights_X4_beginWithFullRow rfl rfl rfl (by decide +kernel) ⟨Nat.le_of_ble_eq_true rfl, Nat.le_of_ble_eq_true rfl⟩) _ (kr_pos (j := 0) rfl) rfl rfl rfl rfl (Nat.le_of_ble_eq_true rfl) ⟨Nat.zero_le _, Nat.zero_le _⟩ (fun o1 h => ?_)
  refine kj_iconst F dX4_sumOfWeights_4 (v := 0) (by decide) ?_
  refine kj_istore F dX4_sumOfWeights_5 (lv' := [(4, .int (0 : Int32)), (0, .ref a0), (1, .int x1), (2, .int x2), (3, .int x3)]) (by decide) rfl ?_
  refine kj_J.sub [1, 2, 3, 4, 0] rfl ?_
  refine kj_bn h (fun r2 h1 h => ?_)
  refine jlr_sumOfWeights_7 F h1 ?_
  refine kj_aload_n F dX4_sumOfWeights_117 0 rfl rfl ?_
  refine kj_cVl (As := []) (rest := []) F dX4_sumOfWeights_118 h (fun o h1 => cr_sumOfAll h1) (cwV 0 F.2.2.2.2.1 gX4_sumOfWeights_X4_sumOfAll rfl rfl rfl (by decide +kernel) ⟨Nat.le_of_ble_eq_true rfl, Nat.le_of_ble_eq_true rfl⟩) _ (kr_pos (j := 0) rfl) rfl rfl rfl rfl (Nat.le_of_ble_eq_true rfl) ⟨Nat.zero_le _, Nat.zero_le _⟩ (fun o3 h => ?_)
  refine kj_ldc2 F dX4_sumOfWeights_121 (v := (1000000007)) (by decide +kernel) ?_
  refine kj_lrem F dX4_sumOfWeights_124 h (fun h => ?_)
  refine kj_l2i F dX4_sumOfWeights_125 ?_
  exact kj_iret F dX4_sumOfWeights_126 h
theorem cr_sumOfWeights {l : Launch} {D : va_G} {cA : Nat → ClassId} {a0 n : Nat} {q : Nat → Nat} {X Y : va_W} {x1 : Int32} {x2 : Int32} {x3 : Int32} {z : kr_S} {o : (Int32 × kr_S)} (h : fr_sumOfWeights n x1 x2 x3 z = some o) : kj_Mi l yX4_sumOfWeights wsX4_sumOfWeights rm_X4_sumOfWeights D (kx_T cA) (kr_W cA a0 q n X Y) z [.ref a0, .int x1, .int x2, .int x3] o :=
  fun sz => kj_start (by decide) rfl (Nat.le_of_ble_eq_true rfl) rfl fun p e s m args below meth c hsz F => jr_sumOfWeights F h
