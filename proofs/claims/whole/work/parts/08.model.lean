/-! THE REFERENCE'S WORLD. z.1: its int fields (0 acts, 1 bytes, 2 fault, 3 where, 4 wrong, 5 rows, 6 kinMany); z.2.1: its int and boolean arrays (0 st, 1 past, 2 images, 3 tape, 4 made, 5 other, 6 row, 7 goOn, 8 twice, 9 kin, 10 cubes, 11 needs, 12 ways, 13 byVolume, 14 nextVolume, 15 heaps, 16 far, 17 queue, 18 isKept, 19 isTold); z.2.2: its long arrays (0 sums, 1 nextSums). -/
abbrev km_S : Type := (Nat → Int32) × (Nat → Nat → Int32) × (Nat → Nat → Int64)
def km_len : Nat → Nat := fun k => match k with
  | 0 => 80
  | 1 => 960
  | 2 => 160
  | 3 => 60
  | 4 => 20
  | 5 => 20
  | 6 => 280
  | 7 => 350
  | 8 => 20
  | 9 => 260
  | 10 => 8
  | 11 => 8
  | 12 => 256
  | 13 => 3430
  | 14 => 3430
  | 15 => 4000
  | 16 => 200
  | 17 => 200
  | 18 => 2
  | 19 => 16
  | _ => 0
def km_lenJ : Nat → Nat := fun k => match k with
  | 0 => 70
  | 1 => 70
  | _ => 0
def km_fs (q : Nat → Nat) (z : km_S) : List Value := [.ref (q 0), .ref (q 1), .int (z.1 0), .ref (q 2), .ref (q 18), .ref (q 3), .int (z.1 1), .int (z.1 2), .ref (q 4), .ref (q 5), .int (z.1 3), .int (z.1 4), .ref (q 19), .ref (q 6), .int (z.1 5), .ref (q 7), .ref (q 8), .ref (q 9), .int (z.1 6), .ref (q 10), .ref (q 11), .ref (q 12), .ref (q 13), .ref (q 14), .ref (q 20), .ref (q 21), .ref (q 15), .ref (q 16), .ref (q 17)]
def km_w (cA : Nat → ClassId) (h0 : Nat) (q : Nat → Nat) (z : km_S) : va_W := [(h0, .inr (8, km_fs q z)), (q 0, .inl (cA 0, 80, .inl (z.2.1 0))), (q 1, .inl (cA 1, 960, .inl (z.2.1 1))), (q 2, .inl (cA 2, 160, .inl (z.2.1 2))), (q 3, .inl (cA 3, 60, .inl (z.2.1 3))), (q 4, .inl (cA 4, 20, .inl (z.2.1 4))), (q 5, .inl (cA 5, 20, .inl (z.2.1 5))), (q 6, .inl (cA 6, 280, .inl (z.2.1 6))), (q 7, .inl (cA 7, 350, .inl (z.2.1 7))), (q 8, .inl (cA 8, 20, .inl (z.2.1 8))), (q 9, .inl (cA 9, 260, .inl (z.2.1 9))), (q 10, .inl (cA 10, 8, .inl (z.2.1 10))), (q 11, .inl (cA 11, 8, .inl (z.2.1 11))), (q 12, .inl (cA 12, 256, .inl (z.2.1 12))), (q 13, .inl (cA 13, 3430, .inl (z.2.1 13))), (q 14, .inl (cA 14, 3430, .inl (z.2.1 14))), (q 15, .inl (cA 15, 4000, .inl (z.2.1 15))), (q 16, .inl (cA 16, 200, .inl (z.2.1 16))), (q 17, .inl (cA 17, 200, .inl (z.2.1 17))), (q 18, .inl (cA 18, 2, .inl (z.2.1 18))), (q 19, .inl (cA 19, 16, .inl (z.2.1 19))), (q 20, .inl (cA 20, 70, .inr (.inl (z.2.2 0)))), (q 21, .inl (cA 21, 70, .inr (.inl (z.2.2 1))))]
def km_T (cA : Nat → ClassId) : List (ClassId × FieldType) := [(cA 0, .int), (cA 1, .int), (cA 2, .int), (cA 3, .int), (cA 4, .int), (cA 5, .int), (cA 6, .int), (cA 7, .int), (cA 8, .int), (cA 9, .int), (cA 10, .int), (cA 11, .int), (cA 12, .int), (cA 13, .int), (cA 14, .int), (cA 15, .int), (cA 16, .int), (cA 17, .int), (cA 18, .boolean), (cA 19, .boolean), (cA 20, .long), (cA 21, .long)]
def km_rd (z : km_S) (k : Nat) (i : Int32) : Option Int32 := if i < 0 ∨ km_len k ≤ i.toNatClampNeg then none else some (z.2.1 k i.toNatClampNeg)
def km_wr (z : km_S) (k : Nat) (i : Int32) (v : Int32) : Option km_S := if i < 0 ∨ km_len k ≤ i.toNatClampNeg then none else some (z.1, va_up z.2.1 k (upd (z.2.1 k) i.toNatClampNeg v), z.2.2)
def km_wz (z : km_S) (k : Nat) (i : Int32) (v : Int32) : Option km_S := if i < 0 ∨ km_len k ≤ i.toNatClampNeg then none else some (z.1, va_up z.2.1 k (upd (z.2.1 k) i.toNatClampNeg (vp_nar .boolean v)), z.2.2)
def km_rl (z : km_S) (k : Nat) (i : Int32) : Option Int64 := if i < 0 ∨ km_lenJ k ≤ i.toNatClampNeg then none else some (z.2.2 k i.toNatClampNeg)
def km_wl (z : km_S) (k : Nat) (i : Int32) (v : Int64) : Option km_S := if i < 0 ∨ km_lenJ k ≤ i.toNatClampNeg then none else some (z.1, z.2.1, va_up z.2.2 k (vp_updL (z.2.2 k) i.toNatClampNeg v))
def km_pI (z : km_S) (k : Nat) (v : Int32) : Option km_S := some (va_up z.1 k v, z.2)
theorem km_at (cA : Nat → ClassId) (h0 : Nat) (q : Nat → Nat) (z : km_S) : ∀ k, k < 20 → (km_w cA h0 q z)[k + 1]? = some (q k, .inl (cA k, km_len k, .inl (z.2.1 k)))
  | 0, _ => rfl
  | 1, _ => rfl
  | 2, _ => rfl
  | 3, _ => rfl
  | 4, _ => rfl
  | 5, _ => rfl
  | 6, _ => rfl
  | 7, _ => rfl
  | 8, _ => rfl
  | 9, _ => rfl
  | 10, _ => rfl
  | 11, _ => rfl
  | 12, _ => rfl
  | 13, _ => rfl
  | 14, _ => rfl
  | 15, _ => rfl
  | 16, _ => rfl
  | 17, _ => rfl
  | 18, _ => rfl
  | 19, _ => rfl
  | n + 20, h => absurd h (by omega)
theorem km_atJ (cA : Nat → ClassId) (h0 : Nat) (q : Nat → Nat) (z : km_S) : ∀ k, k < 2 → (km_w cA h0 q z)[k + 21]? = some (q (k + 20), .inl (cA (k + 20), km_lenJ k, .inr (.inl (z.2.2 k))))
  | 0, _ => rfl
  | 1, _ => rfl
  | n + 2, h => absurd h (by omega)
theorem km_ty (cA : Nat → ClassId) : ∀ k, k < 18 → (km_T cA)[k]? = some (cA k, .int)
  | 0, _ => rfl
  | 1, _ => rfl
  | 2, _ => rfl
  | 3, _ => rfl
  | 4, _ => rfl
  | 5, _ => rfl
  | 6, _ => rfl
  | 7, _ => rfl
  | 8, _ => rfl
  | 9, _ => rfl
  | 10, _ => rfl
  | 11, _ => rfl
  | 12, _ => rfl
  | 13, _ => rfl
  | 14, _ => rfl
  | 15, _ => rfl
  | 16, _ => rfl
  | 17, _ => rfl
  | n + 18, h => absurd h (by omega)
theorem km_set (cA : Nat → ClassId) (h0 : Nat) (q : Nat → Nat) (z : km_S) (f : Nat → Int32) : ∀ k, k < 20 → (km_w cA h0 q z).set (k + 1) (q k, .inl (cA k, km_len k, .inl f)) = km_w cA h0 q (z.1, va_up z.2.1 k f, z.2.2)
  | 0, _ => rfl
  | 1, _ => rfl
  | 2, _ => rfl
  | 3, _ => rfl
  | 4, _ => rfl
  | 5, _ => rfl
  | 6, _ => rfl
  | 7, _ => rfl
  | 8, _ => rfl
  | 9, _ => rfl
  | 10, _ => rfl
  | 11, _ => rfl
  | 12, _ => rfl
  | 13, _ => rfl
  | 14, _ => rfl
  | 15, _ => rfl
  | 16, _ => rfl
  | 17, _ => rfl
  | 18, _ => rfl
  | 19, _ => rfl
  | n + 20, h => absurd h (by omega)
theorem km_setJ (cA : Nat → ClassId) (h0 : Nat) (q : Nat → Nat) (z : km_S) (f : Nat → Int64) : ∀ k, k < 2 → (km_w cA h0 q z).set (k + 21) (q (k + 20), .inl (cA (k + 20), km_lenJ k, .inr (.inl f))) = km_w cA h0 q (z.1, z.2.1, va_up z.2.2 k f)
  | 0, _ => rfl
  | 1, _ => rfl
  | n + 2, h => absurd h (by omega)
theorem km_put0 (cA : Nat → ClassId) (h0 : Nat) (q : Nat → Nat) (z : km_S) (v : Int32) : (km_w cA h0 q z).set 0 (h0, .inr (8, (km_fs q z).set 2 (.int v))) = km_w cA h0 q (va_up z.1 0 v, z.2) := rfl
theorem km_put1 (cA : Nat → ClassId) (h0 : Nat) (q : Nat → Nat) (z : km_S) (v : Int32) : (km_w cA h0 q z).set 0 (h0, .inr (8, (km_fs q z).set 6 (.int v))) = km_w cA h0 q (va_up z.1 1 v, z.2) := rfl
theorem km_put2 (cA : Nat → ClassId) (h0 : Nat) (q : Nat → Nat) (z : km_S) (v : Int32) : (km_w cA h0 q z).set 0 (h0, .inr (8, (km_fs q z).set 7 (.int v))) = km_w cA h0 q (va_up z.1 2 v, z.2) := rfl
theorem km_put3 (cA : Nat → ClassId) (h0 : Nat) (q : Nat → Nat) (z : km_S) (v : Int32) : (km_w cA h0 q z).set 0 (h0, .inr (8, (km_fs q z).set 10 (.int v))) = km_w cA h0 q (va_up z.1 3 v, z.2) := rfl
theorem km_put4 (cA : Nat → ClassId) (h0 : Nat) (q : Nat → Nat) (z : km_S) (v : Int32) : (km_w cA h0 q z).set 0 (h0, .inr (8, (km_fs q z).set 11 (.int v))) = km_w cA h0 q (va_up z.1 4 v, z.2) := rfl
theorem km_put5 (cA : Nat → ClassId) (h0 : Nat) (q : Nat → Nat) (z : km_S) (v : Int32) : (km_w cA h0 q z).set 0 (h0, .inr (8, (km_fs q z).set 14 (.int v))) = km_w cA h0 q (va_up z.1 5 v, z.2) := rfl
theorem km_put6 (cA : Nat → ClassId) (h0 : Nat) (q : Nat → Nat) (z : km_S) (v : Int32) : (km_w cA h0 q z).set 0 (h0, .inr (8, (km_fs q z).set 18 (.int v))) = km_w cA h0 q (va_up z.1 6 v, z.2) := rfl
section KM
variable {p : Program} {l : Launch} {e : Env} {R : Room} {s : State} {m : MethodId} {args : Array Value} {below : List Frame} {meth : Method} {c : Code} {cells slots : Nat} {Q : State → Prop} {cc : ByteArray} {nL : Nat} {Ts : List Cond} {own : String} {ret : Option FieldType} {D : va_G} {A : Nat → Prop} {pc : Nat} {lv : List (Nat × Value)} {rest : List Value} {cA : Nat → ClassId} {h0 : Nat} {q : Nat → Nat} {z : km_S} {β : Type} {rr : β}
theorem km_iald (F : kj_Fx p s m args meth c cc nL Ts own ret D (km_T cA) A) {i : Int32} {f : Int32 → Option β} (hdg : decode cc pc = .ok (.iaload, 1)) (k : Nat) (hk : k < 18) (h : (km_rd z k i).bind f = some rr) (kk : ∀ v, f v = some rr → kj_J p l e R s m args below meth c cells slots Q nL D A (km_w cA h0 q z) (pc + 1) lv (.int v :: rest)) : kj_J p l e R s m args below meth c cells slots Q nL D A (km_w cA h0 q z) pc lv (.int i :: .ref (q k) :: rest) :=
  kj_bn h fun v h1 h2 => kj_ifn h1 fun hc h1 => by cases h1; exact kj_iald F hdg (k + 1) k (km_at cA h0 q z k (Nat.lt_of_lt_of_le hk (by decide))) (km_ty cA k hk) hc (kk _ h2)
theorem km_zald (F : kj_Fx p s m args meth c cc nL Ts own ret D (km_T cA) A) {i : Int32} {f : Int32 → Option β} (hdg : decode cc pc = .ok (.baload, 1)) (k : Nat) (hk : k < 20) (ht : (km_T cA)[k]? = some (cA k, .boolean)) (h : (km_rd z k i).bind f = some rr) (kk : ∀ v, f v = some rr → kj_J p l e R s m args below meth c cells slots Q nL D A (km_w cA h0 q z) (pc + 1) lv (.int v :: rest)) : kj_J p l e R s m args below meth c cells slots Q nL D A (km_w cA h0 q z) pc lv (.int i :: .ref (q k) :: rest) :=
  kj_bn h fun v h1 h2 => kj_ifn h1 fun hc h1 => by cases h1; exact kj_zald F hdg (k + 1) k (km_at cA h0 q z k hk) ht hc (kk _ h2)
theorem km_lald (F : kj_Fx p s m args meth c cc nL Ts own ret D (km_T cA) A) {i : Int32} {f : Int64 → Option β} (hdg : decode cc pc = .ok (.laload, 1)) (k : Nat) (hk : k < 2) (ht : (km_T cA)[k + 20]? = some (cA (k + 20), .long)) (h : (km_rl z k i).bind f = some rr) (kk : ∀ v, f v = some rr → kj_J p l e R s m args below meth c cells slots Q nL D A (km_w cA h0 q z) (pc + 1) lv (.long v :: rest)) : kj_J p l e R s m args below meth c cells slots Q nL D A (km_w cA h0 q z) pc lv (.int i :: .ref (q (k + 20)) :: rest) :=
  kj_bn h fun v h1 h2 => kj_ifn h1 fun hc h1 => by cases h1; exact kj_lald F hdg (k + 21) (k + 20) (km_atJ cA h0 q z k hk) ht hc (kk _ h2)
theorem km_iast (F : kj_Fx p s m args meth c cc nL Ts own ret D (km_T cA) A) {i x : Int32} {f : km_S → Option β} (hdg : decode cc pc = .ok (.iastore, 1)) (k : Nat) (hk : k < 18) (h : (km_wr z k i x).bind f = some rr) (kk : ∀ z1, f z1 = some rr → kj_J p l e R s m args below meth c cells slots Q nL D A (km_w cA h0 q z1) (pc + 1) lv rest) : kj_J p l e R s m args below meth c cells slots Q nL D A (km_w cA h0 q z) pc lv (.int x :: .int i :: .ref (q k) :: rest) :=
  kj_bn h fun v h1 h2 => kj_ifn h1 fun hc h1 => by cases h1; exact kj_iast F hdg (k + 1) k (km_at cA h0 q z k (Nat.lt_of_lt_of_le hk (by decide))) (km_ty cA k hk) hc (km_set cA h0 q z _ k (Nat.lt_of_lt_of_le hk (by decide))) (kk _ h2)
theorem km_zast (F : kj_Fx p s m args meth c cc nL Ts own ret D (km_T cA) A) {i x : Int32} {f : km_S → Option β} (hdg : decode cc pc = .ok (.bastore, 1)) (k : Nat) (hk : k < 20) (ht : (km_T cA)[k]? = some (cA k, .boolean)) (h : (km_wz z k i x).bind f = some rr) (kk : ∀ z1, f z1 = some rr → kj_J p l e R s m args below meth c cells slots Q nL D A (km_w cA h0 q z1) (pc + 1) lv rest) : kj_J p l e R s m args below meth c cells slots Q nL D A (km_w cA h0 q z) pc lv (.int x :: .int i :: .ref (q k) :: rest) :=
  kj_bn h fun v h1 h2 => kj_ifn h1 fun hc h1 => by cases h1; exact kj_zast F hdg (k + 1) k (km_at cA h0 q z k hk) ht hc (km_set cA h0 q z _ k hk) (kk _ h2)
theorem km_last (F : kj_Fx p s m args meth c cc nL Ts own ret D (km_T cA) A) {i : Int32} {x : Int64} {f : km_S → Option β} (hdg : decode cc pc = .ok (.lastore, 1)) (k : Nat) (hk : k < 2) (ht : (km_T cA)[k + 20]? = some (cA (k + 20), .long)) (h : (km_wl z k i x).bind f = some rr) (kk : ∀ z1, f z1 = some rr → kj_J p l e R s m args below meth c cells slots Q nL D A (km_w cA h0 q z1) (pc + 1) lv rest) : kj_J p l e R s m args below meth c cells slots Q nL D A (km_w cA h0 q z) pc lv (.long x :: .int i :: .ref (q (k + 20)) :: rest) :=
  kj_bn h fun v h1 h2 => kj_ifn h1 fun hc h1 => by cases h1; exact kj_last F hdg (k + 21) (k + 20) (km_atJ cA h0 q z k hk) ht hc (km_setJ cA h0 q z _ k hk) (kk _ h2)
theorem km_get (F : kj_Fx p s m args meth c cc nL Ts own ret D (km_T cA) A) {index : Nat} {v : Value} (hdg : decode cc pc = .ok (.getfield index, 3)) (hin : ∀ w ∈ u_ws RX8 TX8 29, w ∈ Ts) (kf : Nat) (hk : kf < 29) (hlink : Cond.fieldLink own index RX8 (TX8 kf).2.1 (TX8 kf).2.2.1 ∈ Ts) (hsame : (TX8 kf).1 = RX8) (hv : (km_fs q z)[kf]? = some v) (k : kj_J p l e R s m args below meth c cells slots Q nL D A (km_w cA h0 q z) (pc + 3) lv (v :: rest)) : kj_J p l e R s m args below meth c cells slots Q nL D A (km_w cA h0 q z) pc lv (.ref h0 :: rest) :=
  kj_get F hdg hin 0 rfl rfl kf hk hlink hsame hv k
theorem km_pt (F : kj_Fx p s m args meth c cc nL Ts own ret D (km_T cA) A) {index : Nat} {x : Int32} {f : km_S → Option β} (hdg : decode cc pc = .ok (.putfield index, 3)) (hin : ∀ w ∈ u_ws RX8 TX8 29, w ∈ Ts) (kf i : Nat) (hk : kf < 29) (hlink : Cond.fieldLink own index RX8 (TX8 kf).2.1 (TX8 kf).2.2.1 ∈ Ts) (hsame : (TX8 kf).1 = RX8) (hfin : (TX8 kf).2.2.2 = false) (hd : parseFieldDescriptor (TX8 kf).2.2.1 = some .int) (hw : (km_w cA h0 q z).set 0 (h0, .inr (8, (km_fs q z).set kf (.int x))) = km_w cA h0 q (va_up z.1 i x, z.2)) (h : (km_pI z i x).bind f = some rr) (kk : ∀ z1, f z1 = some rr → kj_J p l e R s m args below meth c cells slots Q nL D A (km_w cA h0 q z1) (pc + 3) lv rest) : kj_J p l e R s m args below meth c cells slots Q nL D A (km_w cA h0 q z) pc lv (.int x :: .ref h0 :: rest) :=
  kj_bn h fun v h1 h2 => by cases h1; exact kj_put F hdg hin tyX8 tyX8_ok nmX8 0 rfl rfl kf hk hlink hsame hfin hd rfl rfl hk hw (kk _ h2)
end KM
