/-! THE CLASS'S WORLD. z.1: ints (0 latestFault, 1 a, 2 b, 3 c, 4 length, 5 position, 6 faultNumber of the tape, 7 newest, 8 size of the past, 9 size of the kin, 10 size, 11 queued of the search); z.2.1: int arrays (0 bytes, 1 told, 2 steps, 3 queue, 4 imageKept); z.2.2.1: long arrays (0 heaps, 1 coefficients); z.2.2.2: arrays of references (0 places, 1 kept, 2 images, 3 rowsBySides, 4 members). cA: 0 int[], 1 long[], 2 boolean[], 3 Heap[], 4 Rows[], 5 int[][]. -/
abbrev kx_S : Type := (Nat → Int32) × (Nat → Nat → Int32) × (Nat → Nat → Int64) × (Nat → Nat → Option Nat)
def kx_len : Nat → Nat := fun k => match k with
  | 0 => 60
  | 1 => 16
  | 2 => 200
  | 3 => 200
  | 4 => 2
  | _ => 0
def kx_lenJ : Nat → Nat := fun k => match k with
  | 0 => 200
  | 1 => 49
  | _ => 0
def kx_lenR : Nat → Nat := fun k => match k with
  | 0 => 4
  | 1 => 48
  | 2 => 8
  | 3 => 16
  | 4 => 12
  | _ => 0
def kx_f7 (q : Nat → Nat) (z : kx_S) : List Value := [.ref (q 0), .ref (q 11), .ref (q 1), .ref (q 13), .ref (q 8), .ref (q 14), .ref (q 2), .ref (q 3), .ref (q 10), .int (z.1 0)]
def kx_f6 (q : Nat → Nat) (z : kx_S) : List Value := [.ref (q 4), .ref (q 5), .int (z.1 1), .int (z.1 2), .int (z.1 3), .int (z.1 4), .int (z.1 5), .int (z.1 6)]
def kx_f3 (q : Nat → Nat) (z : kx_S) : List Value := [.ref (q 12), .int (z.1 7), .int (z.1 8)]
def kx_f2 (q : Nat → Nat) (z : kx_S) : List Value := [.ref (q 15), .int (z.1 9)]
def kx_f5 (q : Nat → Nat) (z : kx_S) : List Value := [.ref (q 9), .ref (q 6), .ref (q 7), .int (z.1 10), .int (z.1 11)]
def kx_w (cA : Nat → ClassId) (h0 : Nat) (q : Nat → Nat) (z : kx_S) : va_W := [(h0, .inr (7, kx_f7 q z)), (q 0, .inr (6, kx_f6 q z)), (q 1, .inr (3, kx_f3 q z)), (q 2, .inr (2, kx_f2 q z)), (q 3, .inr (5, kx_f5 q z)), (q 4, .inl (cA 0, 60, .inl (z.2.1 0))), (q 5, .inl (cA 0, 16, .inl (z.2.1 1))), (q 6, .inl (cA 0, 200, .inl (z.2.1 2))), (q 7, .inl (cA 0, 200, .inl (z.2.1 3))), (q 8, .inl (cA 2, 2, .inl (z.2.1 4))), (q 9, .inl (cA 1, 200, .inr (.inl (z.2.2.1 0)))), (q 10, .inl (cA 1, 49, .inr (.inl (z.2.2.1 1)))), (q 11, .inl (cA 3, 4, .inr (.inr (.inr (.inr (z.2.2.2 0)))))), (q 12, .inl (cA 3, 48, .inr (.inr (.inr (.inr (z.2.2.2 1)))))), (q 13, .inl (cA 3, 8, .inr (.inr (.inr (.inr (z.2.2.2 2)))))), (q 14, .inl (cA 4, 16, .inr (.inr (.inr (.inr (z.2.2.2 3)))))), (q 15, .inl (cA 3, 12, .inr (.inr (.inr (.inr (z.2.2.2 4))))))]
def kx_W (cA : Nat → ClassId) (h0 : Nat) (q : Nat → Nat) (P : va_W) (z : kx_S) : va_W := kx_w cA h0 q z ++ P
def kx_T (cA : Nat → ClassId) : List (ClassId × FieldType) := [(cA 0, .int), (cA 1, .long), (cA 2, .boolean), (cA 3, .object "CornerHeaps$Heap"), (cA 4, .object "CornerHeaps$Rows"), (cA 5, .array .int)]
def kx_rd (z : kx_S) (k : Nat) (i : Int32) : Option Int32 := if i < 0 ∨ kx_len k ≤ i.toNatClampNeg then none else some (z.2.1 k i.toNatClampNeg)
def kx_wr (z : kx_S) (k : Nat) (i : Int32) (v : Int32) : Option kx_S := if i < 0 ∨ kx_len k ≤ i.toNatClampNeg then none else some (z.1, va_up z.2.1 k (upd (z.2.1 k) i.toNatClampNeg v), z.2.2)
def kx_wz (z : kx_S) (k : Nat) (i : Int32) (v : Int32) : Option kx_S := if i < 0 ∨ kx_len k ≤ i.toNatClampNeg then none else some (z.1, va_up z.2.1 k (upd (z.2.1 k) i.toNatClampNeg (vp_nar .boolean v)), z.2.2)
def kx_rl (z : kx_S) (k : Nat) (i : Int32) : Option Int64 := if i < 0 ∨ kx_lenJ k ≤ i.toNatClampNeg then none else some (z.2.2.1 k i.toNatClampNeg)
def kx_wl (z : kx_S) (k : Nat) (i : Int32) (v : Int64) : Option kx_S := if i < 0 ∨ kx_lenJ k ≤ i.toNatClampNeg then none else some (z.1, z.2.1, va_up z.2.2.1 k (vp_updL (z.2.2.1 k) i.toNatClampNeg v), z.2.2.2)
def kx_rr (z : kx_S) (k : Nat) (i : Int32) : Option (Option Nat) := if i < 0 ∨ kx_lenR k ≤ i.toNatClampNeg then none else some (z.2.2.2 k i.toNatClampNeg)
def kx_wq (z : kx_S) (k : Nat) (i : Int32) (v : Option Nat) : Option kx_S := if i < 0 ∨ kx_lenR k ≤ i.toNatClampNeg then none else some (z.1, z.2.1, z.2.2.1, va_up z.2.2.2 k (va_up (z.2.2.2 k) i.toNatClampNeg v))
def kx_pI (z : kx_S) (k : Nat) (v : Int32) : Option kx_S := some (va_up z.1 k v, z.2)
/-- what lies at an address of the pool -/
def kx_pl (P : va_W) (a : Nat) : Option va_E := (P.find? (fun x => x.1 == a)).map (·.2)
theorem kx_pl_at {P : va_W} {a : Nat} {e : va_E} (h : kx_pl P a = some e) : ∃ i : Nat, P[i]? = some (a, e) := by
  unfold kx_pl at h
  obtain ⟨x, h1, h2⟩ := Option.map_eq_some_iff.mp h
  have h3 := List.find?_some h1
  have h4 := List.mem_of_find?_eq_some h1
  obtain ⟨i, hi⟩ := List.getElem?_of_mem h4
  refine ⟨i, ?_⟩
  rw [hi]
  have h5 : x.1 = a := by simpa using h3
  rw [← h5, ← h2]
def kx_hp (P : va_W) (a : Nat) : Option (Nat × Int64) := match kx_pl P a with
  | some (.inr (1, [.ref b, .long c])) => some (b, c)
  | _ => none
def kx_bx (P : va_W) (a : Nat) : Option (Int32 × Int32 × Int32) := match kx_pl P a with
  | some (.inr (0, [.int x, .int y, .int w])) => some (x, y, w)
  | _ => none
theorem kx_hp_at {P : va_W} {a : Nat} {v : Nat × Int64} (h : kx_hp P a = some v) : ∃ i : Nat, P[i]? = some (a, .inr (1, [.ref v.1, .long v.2])) := by
  unfold kx_hp at h
  split at h
  · next b c e => cases h; exact kx_pl_at e
  · cases h
theorem kx_bx_at {P : va_W} {a : Nat} {v : Int32 × Int32 × Int32} (h : kx_bx P a = some v) : ∃ i : Nat, P[i]? = some (a, .inr (0, [.int v.1, .int v.2.1, .int v.2.2])) := by
  unfold kx_bx at h
  split at h
  · next x y w e => cases h; exact kx_pl_at e
  · cases h
theorem kx_pool {cA : Nat → ClassId} {h0 : Nat} {q : Nat → Nat} {P : va_W} {z : kx_S} {i : Nat} {x : Nat × va_E} (h : P[i]? = some x) : (kx_W cA h0 q P z)[i + 17]? = some x := by
  unfold kx_W
  rw [List.getElem?_append_right (by show 17 ≤ i + 17; omega)]
  show P[i + 17 - 17]? = _
  rw [Nat.add_sub_cancel]; exact h
theorem kx_at (cA : Nat → ClassId) (h0 : Nat) (q : Nat → Nat) (P : va_W) (z : kx_S) : ∀ k, k < 4 → (kx_W cA h0 q P z)[k + 5]? = some (q (k + 4), .inl (cA 0, kx_len k, .inl (z.2.1 k)))
  | 0, _ => rfl
  | 1, _ => rfl
  | 2, _ => rfl
  | 3, _ => rfl
  | n + 4, h => absurd h (by omega)
theorem kx_atJ (cA : Nat → ClassId) (h0 : Nat) (q : Nat → Nat) (P : va_W) (z : kx_S) : ∀ k, k < 2 → (kx_W cA h0 q P z)[k + 10]? = some (q (k + 9), .inl (cA 1, kx_lenJ k, .inr (.inl (z.2.2.1 k))))
  | 0, _ => rfl
  | 1, _ => rfl
  | n + 2, h => absurd h (by omega)
theorem kx_atR (cA : Nat → ClassId) (h0 : Nat) (q : Nat → Nat) (P : va_W) (z : kx_S) : ∀ k, k < 3 → (kx_W cA h0 q P z)[k + 12]? = some (q (k + 11), .inl (cA 3, kx_lenR k, .inr (.inr (.inr (.inr (z.2.2.2 k))))))
  | 0, _ => rfl
  | 1, _ => rfl
  | 2, _ => rfl
  | n + 3, h => absurd h (by omega)
theorem kx_set (cA : Nat → ClassId) (h0 : Nat) (q : Nat → Nat) (P : va_W) (z : kx_S) (f : Nat → Int32) : ∀ k, k < 4 → (kx_W cA h0 q P z).set (k + 5) (q (k + 4), .inl (cA 0, kx_len k, .inl f)) = kx_W cA h0 q P (z.1, va_up z.2.1 k f, z.2.2)
  | 0, _ => rfl
  | 1, _ => rfl
  | 2, _ => rfl
  | 3, _ => rfl
  | n + 4, h => absurd h (by omega)
theorem kx_setJ (cA : Nat → ClassId) (h0 : Nat) (q : Nat → Nat) (P : va_W) (z : kx_S) (f : Nat → Int64) : ∀ k, k < 2 → (kx_W cA h0 q P z).set (k + 10) (q (k + 9), .inl (cA 1, kx_lenJ k, .inr (.inl f))) = kx_W cA h0 q P (z.1, z.2.1, va_up z.2.2.1 k f, z.2.2.2)
  | 0, _ => rfl
  | 1, _ => rfl
  | n + 2, h => absurd h (by omega)
theorem kx_setR (cA : Nat → ClassId) (h0 : Nat) (q : Nat → Nat) (P : va_W) (z : kx_S) (f : Nat → Option Nat) : ∀ k, k < 3 → (kx_W cA h0 q P z).set (k + 12) (q (k + 11), .inl (cA 3, kx_lenR k, .inr (.inr (.inr (.inr f))))) = kx_W cA h0 q P (z.1, z.2.1, z.2.2.1, va_up z.2.2.2 k f)
  | 0, _ => rfl
  | 1, _ => rfl
  | 2, _ => rfl
  | n + 3, h => absurd h (by omega)
theorem kx_at4 (cA : Nat → ClassId) (h0 : Nat) (q : Nat → Nat) (P : va_W) (z : kx_S) : (kx_W cA h0 q P z)[9]? = some (q 8, .inl (cA 2, 2, .inl (z.2.1 4))) := rfl
theorem kx_set4 (cA : Nat → ClassId) (h0 : Nat) (q : Nat → Nat) (P : va_W) (z : kx_S) (f : Nat → Int32) : (kx_W cA h0 q P z).set 9 (q 8, .inl (cA 2, 2, .inl f)) = kx_W cA h0 q P (z.1, va_up z.2.1 4 f, z.2.2) := rfl
theorem kx_atB (cA : Nat → ClassId) (h0 : Nat) (q : Nat → Nat) (P : va_W) (z : kx_S) : (kx_W cA h0 q P z)[15]? = some (q 14, .inl (cA 4, 16, .inr (.inr (.inr (.inr (z.2.2.2 3)))))) := rfl
theorem kx_setB (cA : Nat → ClassId) (h0 : Nat) (q : Nat → Nat) (P : va_W) (z : kx_S) (f : Nat → Option Nat) : (kx_W cA h0 q P z).set 15 (q 14, .inl (cA 4, 16, .inr (.inr (.inr (.inr f))))) = kx_W cA h0 q P (z.1, z.2.1, z.2.2.1, va_up z.2.2.2 3 f) := rfl
theorem kx_atM (cA : Nat → ClassId) (h0 : Nat) (q : Nat → Nat) (P : va_W) (z : kx_S) : (kx_W cA h0 q P z)[16]? = some (q 15, .inl (cA 3, 12, .inr (.inr (.inr (.inr (z.2.2.2 4)))))) := rfl
theorem kx_setM (cA : Nat → ClassId) (h0 : Nat) (q : Nat → Nat) (P : va_W) (z : kx_S) (f : Nat → Option Nat) : (kx_W cA h0 q P z).set 16 (q 15, .inl (cA 3, 12, .inr (.inr (.inr (.inr f))))) = kx_W cA h0 q P (z.1, z.2.1, z.2.2.1, va_up z.2.2.2 4 f) := rfl
theorem kx_put0 (cA : Nat → ClassId) (h0 : Nat) (q : Nat → Nat) (P : va_W) (z : kx_S) (v : Int32) : (kx_W cA h0 q P z).set 0 (h0, .inr (7, (kx_f7 q z).set 9 (.int v))) = kx_W cA h0 q P (va_up z.1 0 v, z.2) := rfl
theorem kx_put1 (cA : Nat → ClassId) (h0 : Nat) (q : Nat → Nat) (P : va_W) (z : kx_S) (v : Int32) : (kx_W cA h0 q P z).set 1 (q 0, .inr (6, (kx_f6 q z).set 2 (.int v))) = kx_W cA h0 q P (va_up z.1 1 v, z.2) := rfl
theorem kx_put2 (cA : Nat → ClassId) (h0 : Nat) (q : Nat → Nat) (P : va_W) (z : kx_S) (v : Int32) : (kx_W cA h0 q P z).set 1 (q 0, .inr (6, (kx_f6 q z).set 3 (.int v))) = kx_W cA h0 q P (va_up z.1 2 v, z.2) := rfl
theorem kx_put3 (cA : Nat → ClassId) (h0 : Nat) (q : Nat → Nat) (P : va_W) (z : kx_S) (v : Int32) : (kx_W cA h0 q P z).set 1 (q 0, .inr (6, (kx_f6 q z).set 4 (.int v))) = kx_W cA h0 q P (va_up z.1 3 v, z.2) := rfl
theorem kx_put4 (cA : Nat → ClassId) (h0 : Nat) (q : Nat → Nat) (P : va_W) (z : kx_S) (v : Int32) : (kx_W cA h0 q P z).set 1 (q 0, .inr (6, (kx_f6 q z).set 5 (.int v))) = kx_W cA h0 q P (va_up z.1 4 v, z.2) := rfl
theorem kx_put5 (cA : Nat → ClassId) (h0 : Nat) (q : Nat → Nat) (P : va_W) (z : kx_S) (v : Int32) : (kx_W cA h0 q P z).set 1 (q 0, .inr (6, (kx_f6 q z).set 6 (.int v))) = kx_W cA h0 q P (va_up z.1 5 v, z.2) := rfl
theorem kx_put6 (cA : Nat → ClassId) (h0 : Nat) (q : Nat → Nat) (P : va_W) (z : kx_S) (v : Int32) : (kx_W cA h0 q P z).set 1 (q 0, .inr (6, (kx_f6 q z).set 7 (.int v))) = kx_W cA h0 q P (va_up z.1 6 v, z.2) := rfl
theorem kx_put7 (cA : Nat → ClassId) (h0 : Nat) (q : Nat → Nat) (P : va_W) (z : kx_S) (v : Int32) : (kx_W cA h0 q P z).set 2 (q 1, .inr (3, (kx_f3 q z).set 1 (.int v))) = kx_W cA h0 q P (va_up z.1 7 v, z.2) := rfl
theorem kx_put8 (cA : Nat → ClassId) (h0 : Nat) (q : Nat → Nat) (P : va_W) (z : kx_S) (v : Int32) : (kx_W cA h0 q P z).set 2 (q 1, .inr (3, (kx_f3 q z).set 2 (.int v))) = kx_W cA h0 q P (va_up z.1 8 v, z.2) := rfl
theorem kx_put9 (cA : Nat → ClassId) (h0 : Nat) (q : Nat → Nat) (P : va_W) (z : kx_S) (v : Int32) : (kx_W cA h0 q P z).set 3 (q 2, .inr (2, (kx_f2 q z).set 1 (.int v))) = kx_W cA h0 q P (va_up z.1 9 v, z.2) := rfl
theorem kx_put10 (cA : Nat → ClassId) (h0 : Nat) (q : Nat → Nat) (P : va_W) (z : kx_S) (v : Int32) : (kx_W cA h0 q P z).set 4 (q 3, .inr (5, (kx_f5 q z).set 3 (.int v))) = kx_W cA h0 q P (va_up z.1 10 v, z.2) := rfl
theorem kx_put11 (cA : Nat → ClassId) (h0 : Nat) (q : Nat → Nat) (P : va_W) (z : kx_S) (v : Int32) : (kx_W cA h0 q P z).set 4 (q 3, .inr (5, (kx_f5 q z).set 4 (.int v))) = kx_W cA h0 q P (va_up z.1 11 v, z.2) := rfl
section KX
variable {p : Program} {l : Launch} {e : Env} {R : Room} {s : State} {m : MethodId} {args : Array Value} {below : List Frame} {meth : Method} {c : Code} {cells slots : Nat} {Q : State → Prop} {cc : ByteArray} {nL : Nat} {Ts : List Cond} {own : String} {ret : Option FieldType} {D : va_G} {A : Nat → Prop} {pc : Nat} {lv : List (Nat × Value)} {rest : List Value} {cA : Nat → ClassId} {h0 : Nat} {q : Nat → Nat} {P : va_W} {z : kx_S} {β : Type} {rr : β}
theorem kx_iald (F : kj_Fx p s m args meth c cc nL Ts own ret D (kx_T cA) A) {i : Int32} {f : Int32 → Option β} (hdg : decode cc pc = .ok (.iaload, 1)) (k : Nat) (hk : k < 4) (h : (kx_rd z k i).bind f = some rr) (kk : ∀ v, f v = some rr → kj_J p l e R s m args below meth c cells slots Q nL D A (kx_W cA h0 q P z) (pc + 1) lv (.int v :: rest)) : kj_J p l e R s m args below meth c cells slots Q nL D A (kx_W cA h0 q P z) pc lv (.int i :: .ref (q (k + 4)) :: rest) :=
  kj_bn h fun v h1 h2 => kj_ifn h1 fun hc h1 => by cases h1; exact kj_iald F hdg (k + 5) 0 (kx_at cA h0 q P z k hk) rfl hc (kk _ h2)
theorem kx_iast (F : kj_Fx p s m args meth c cc nL Ts own ret D (kx_T cA) A) {i x : Int32} {f : kx_S → Option β} (hdg : decode cc pc = .ok (.iastore, 1)) (k : Nat) (hk : k < 4) (h : (kx_wr z k i x).bind f = some rr) (kk : ∀ z1, f z1 = some rr → kj_J p l e R s m args below meth c cells slots Q nL D A (kx_W cA h0 q P z1) (pc + 1) lv rest) : kj_J p l e R s m args below meth c cells slots Q nL D A (kx_W cA h0 q P z) pc lv (.int x :: .int i :: .ref (q (k + 4)) :: rest) :=
  kj_bn h fun v h1 h2 => kj_ifn h1 fun hc h1 => by cases h1; exact kj_iast F hdg (k + 5) 0 (kx_at cA h0 q P z k hk) rfl hc (kx_set cA h0 q P z _ k hk) (kk _ h2)
theorem kx_zald (F : kj_Fx p s m args meth c cc nL Ts own ret D (kx_T cA) A) {i : Int32} {f : Int32 → Option β} (hdg : decode cc pc = .ok (.baload, 1)) (h : (kx_rd z 4 i).bind f = some rr) (kk : ∀ v, f v = some rr → kj_J p l e R s m args below meth c cells slots Q nL D A (kx_W cA h0 q P z) (pc + 1) lv (.int v :: rest)) : kj_J p l e R s m args below meth c cells slots Q nL D A (kx_W cA h0 q P z) pc lv (.int i :: .ref (q 8) :: rest) :=
  kj_bn h fun v h1 h2 => kj_ifn h1 fun hc h1 => by cases h1; exact kj_zald F hdg 9 2 (kx_at4 cA h0 q P z) rfl hc (kk _ h2)
theorem kx_zast (F : kj_Fx p s m args meth c cc nL Ts own ret D (kx_T cA) A) {i x : Int32} {f : kx_S → Option β} (hdg : decode cc pc = .ok (.bastore, 1)) (h : (kx_wz z 4 i x).bind f = some rr) (kk : ∀ z1, f z1 = some rr → kj_J p l e R s m args below meth c cells slots Q nL D A (kx_W cA h0 q P z1) (pc + 1) lv rest) : kj_J p l e R s m args below meth c cells slots Q nL D A (kx_W cA h0 q P z) pc lv (.int x :: .int i :: .ref (q 8) :: rest) :=
  kj_bn h fun v h1 h2 => kj_ifn h1 fun hc h1 => by cases h1; exact kj_zast F hdg 9 2 (kx_at4 cA h0 q P z) rfl hc (kx_set4 cA h0 q P z _) (kk _ h2)
theorem kx_lald (F : kj_Fx p s m args meth c cc nL Ts own ret D (kx_T cA) A) {i : Int32} {f : Int64 → Option β} (hdg : decode cc pc = .ok (.laload, 1)) (k : Nat) (hk : k < 2) (h : (kx_rl z k i).bind f = some rr) (kk : ∀ v, f v = some rr → kj_J p l e R s m args below meth c cells slots Q nL D A (kx_W cA h0 q P z) (pc + 1) lv (.long v :: rest)) : kj_J p l e R s m args below meth c cells slots Q nL D A (kx_W cA h0 q P z) pc lv (.int i :: .ref (q (k + 9)) :: rest) :=
  kj_bn h fun v h1 h2 => kj_ifn h1 fun hc h1 => by cases h1; exact kj_lald F hdg (k + 10) 1 (kx_atJ cA h0 q P z k hk) rfl hc (kk _ h2)
theorem kx_last (F : kj_Fx p s m args meth c cc nL Ts own ret D (kx_T cA) A) {i : Int32} {x : Int64} {f : kx_S → Option β} (hdg : decode cc pc = .ok (.lastore, 1)) (k : Nat) (hk : k < 2) (h : (kx_wl z k i x).bind f = some rr) (kk : ∀ z1, f z1 = some rr → kj_J p l e R s m args below meth c cells slots Q nL D A (kx_W cA h0 q P z1) (pc + 1) lv rest) : kj_J p l e R s m args below meth c cells slots Q nL D A (kx_W cA h0 q P z) pc lv (.long x :: .int i :: .ref (q (k + 9)) :: rest) :=
  kj_bn h fun v h1 h2 => kj_ifn h1 fun hc h1 => by cases h1; exact kj_last F hdg (k + 10) 1 (kx_atJ cA h0 q P z k hk) rfl hc (kx_setJ cA h0 q P z _ k hk) (kk _ h2)
theorem kx_pt {C : String} {T : u_T} {N ci index a : Nat} {fs : List Value} {x : Int32} {f : kx_S → Option β} (F : kj_Fx p s m args meth c cc nL Ts own ret D (kx_T cA) A) (hdg : decode cc pc = .ok (.putfield index, 3)) (hin : ∀ w ∈ u_ws C T N, w ∈ Ts) (ty0 : Nat → FieldType) (hty : ∀ k, k < N → parseFieldDescriptor (T k).2.2.1 = some (ty0 k)) (hnm : ∀ a, a < N → ∀ b, b < N → a ≠ b → (T a).2.1 ≠ (T b).2.1) (pos : Nat) (he : (kx_W cA h0 q P z)[pos]? = some (a, .inr (ci, fs))) (hc : vwCl[ci]? = some (C, T, N)) (kf i : Nat) (hk : kf < N) (hlink : Cond.fieldLink own index C (T kf).2.1 (T kf).2.2.1 ∈ Ts) (hsame : (T kf).1 = C) (hfin : (T kf).2.2.2 = false) (hd : parseFieldDescriptor (T kf).2.2.1 = some .int) (hl : kf < fs.length) (hw : (kx_W cA h0 q P z).set pos (a, .inr (ci, fs.set kf (.int x))) = kx_W cA h0 q P (va_up z.1 i x, z.2)) (h : (kx_pI z i x).bind f = some rr) (kk : ∀ z1, f z1 = some rr → kj_J p l e R s m args below meth c cells slots Q nL D A (kx_W cA h0 q P z1) (pc + 3) lv rest) : kj_J p l e R s m args below meth c cells slots Q nL D A (kx_W cA h0 q P z) pc lv (.int x :: .ref a :: rest) :=
  kj_bn h fun v h1 h2 => by cases h1; exact kj_put F hdg hin ty0 hty hnm pos he hc kf hk hlink hsame hfin hd rfl rfl hl hw (kk _ h2)
end KX
