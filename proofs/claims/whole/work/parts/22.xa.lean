/-! X7_isPlace -/
abbrev rm_X7_isPlace : Room := { frames := 0, cells := 0, slots := 0, locals := 0 }
def fc_isPlace (x0 : Int32) : Option Int32 :=
  if x0 < 0 then
  some (0 : Int32)
  else
  if (4 : Int32) ≤ x0 then
  some (0 : Int32)
  else
  some (1 : Int32)
set_option maxRecDepth 20000 in
theorem jc_isPlace {p : Program} {l : Launch} {e : Env} {s : State} {m : MethodId} {args : Array Value} {below : List Frame} {meth : Method} {c : Code} {A : Nat → Prop} {D : va_G} {tys : List (ClassId × FieldType)} {S : Type} {w : S → va_W} {z : S} (F : kj_Fx p s m args meth c cX7_isPlace 1 wsX7_isPlace RX7 (some .boolean) D tys A) {x0 : Int32} {o : Int32} (h : fc_isPlace x0 = some o) : kj_J p l e rm_X7_isPlace s m args below meth c 0 0 (MQ below (kj_Qi D tys A w (o, z)) args s 0 0 A) 1 D A (w z) 0 [(0, .int x0)] [] := by
  unfold fc_isPlace at h
  refine kj_iload_n F dX7_isPlace_0 0 rfl rfl ?_
  refine kj_if_lt F dX7_isPlace_1 (tgt := 13) (by decide) h (fun hc h => ?_) (fun hc h => ?_)
  · refine kj_iconst F dX7_isPlace_13 (v := 0) (by decide) ?_
    exact kj_zret F dX7_isPlace_14 (by decide) (kj_pr h)
  · refine kj_iload_n F dX7_isPlace_4 0 rfl rfl ?_
    refine kj_iconst F dX7_isPlace_5 (v := 4) (by decide) ?_
    refine kj_icmp_ge F dX7_isPlace_6 (tgt := 13) (by decide) h (fun hc h => ?_) (fun hc h => ?_)
    · refine kj_iconst F dX7_isPlace_13 (v := 0) (by decide) ?_
      exact kj_zret F dX7_isPlace_14 (by decide) (kj_pr h)
    · refine kj_iconst F dX7_isPlace_9 (v := 1) (by decide) ?_
      refine kj_goto F dX7_isPlace_10 (tgt := 14) (by decide) ?_
      exact kj_zret F dX7_isPlace_14 (by decide) (kj_pr h)
theorem cc_isPlace {l : Launch} {D : va_G} {tys : List (ClassId × FieldType)} {S : Type} {w : S → va_W} {z : S} {x0 : Int32} {o : Int32} (h : fc_isPlace x0 = some o) : kj_Mi l yX7_isPlace wsX7_isPlace rm_X7_isPlace D tys w z [.int x0] (o, z) :=
  fun sz => kj_start (by decide) rfl (Nat.le_of_ble_eq_true rfl) rfl fun p e s m args below meth c hsz F => jc_isPlace F h
/-! X7_choose -/
abbrev rm_X7_choose : Room := { frames := 0, cells := 0, slots := 0, locals := 0 }
def fc_choose_15 (x0 : Int32) (x1 : Int32) (x2 : Int32) (x3 : Int32) : Option ((Int32 × Int32 × Int32 × Int32) ⊕ Int32) :=
  if x1 < x3 then
  some (.inr x2)
  else
  if x3 = 0 then none else
  some (.inl (x0, x1, ((x2 * ((x0 - x1) + x3)) / x3), (x3 + 1)))
def lc_choose_15 (n : Nat) (x0 : Int32) (x1 : Int32) (x2 : Int32) (x3 : Int32) : Option Int32 :=
  kj_it (fun (s : (Int32 × Int32 × Int32 × Int32)) => fc_choose_15 (s.1) (s.2.1) (s.2.2.1) (s.2.2.2)) n (x0, x1, x2, x3)
def fc_choose (x0 : Int32) (x1 : Int32) : Option Int32 :=
  if x1 < 0 then
  some (0 : Int32)
  else
  if x1 ≤ x0 then
  (lc_choose_15 5000 x0 x1 (1 : Int32) (1 : Int32)).bind fun r1 =>
  some (r1)
  else
  some (0 : Int32)
set_option maxRecDepth 20000 in
theorem jc_choose_15 {p : Program} {l : Launch} {e : Env} {s : State} {m : MethodId} {args : Array Value} {below : List Frame} {meth : Method} {c : Code} {A : Nat → Prop} {D : va_G} {tys : List (ClassId × FieldType)} {S : Type} {w : S → va_W} {z : S} {Q : State → Prop} (F : kj_Fx p s m args meth c cX7_choose 4 wsX7_choose RX7 (some .int) D tys A) {x0 : Int32} {x1 : Int32} {x2 : Int32} {x3 : Int32} {o : ((Int32 × Int32 × Int32 × Int32) ⊕ Int32)} (h : fc_choose_15 x0 x1 x2 x3 = some o) (kb : ∀ (a0' : Int32) (a1' : Int32) (a2' : Int32) (a3' : Int32), o = .inl (a0', a1', a2', a3') → kj_J p l e rm_X7_choose s m args below meth c 0 0 Q 4 D A (w z) 15 [(0, .int a0'), (1, .int a1'), (2, .int a2'), (3, .int a3')] []) (ke0 : ∀ (a0' : Int32), o = .inr a0' → kj_J p l e rm_X7_choose s m args below meth c 0 0 Q 4 D A (w z) 36 [(2, .int a0')] []) : kj_J p l e rm_X7_choose s m args below meth c 0 0 Q 4 D A (w z) 15 [(0, .int x0), (1, .int x1), (2, .int x2), (3, .int x3)] [] := by
  unfold fc_choose_15 at h
  refine kj_iload_n F dX7_choose_15 3 rfl rfl ?_
  refine kj_iload_n F dX7_choose_16 1 rfl rfl ?_
  refine kj_icmp_gt F dX7_choose_17 (tgt := 36) (by decide) h (fun hc h => ?_) (fun hc h => ?_)
  · refine kj_J.sub [2] rfl ?_
    exact ke0 x2 (Option.some.inj h).symm
  · refine kj_iload_n F dX7_choose_20 2 rfl rfl ?_
    refine kj_iload_n F dX7_choose_21 0 rfl rfl ?_
    refine kj_iload_n F dX7_choose_22 1 rfl rfl ?_
    refine kj_isub F dX7_choose_23 ?_
    refine kj_iload_n F dX7_choose_24 3 rfl rfl ?_
    refine kj_iadd F dX7_choose_25 ?_
    refine kj_imul F dX7_choose_26 ?_
    refine kj_iload_n F dX7_choose_27 3 rfl rfl ?_
    refine kj_idiv F dX7_choose_28 h (fun h => ?_)
    refine kj_istore_n F dX7_choose_29 (lv' := [(2, .int ((x2 * ((x0 - x1) + x3)) / x3)), (0, .int x0), (1, .int x1), (3, .int x3)]) rfl (by decide) rfl ?_
    refine kj_iinc F dX7_choose_30 3 rfl (v := 1) (by decide) (by decide) (lv' := [(3, .int (x3 + 1)), (2, .int ((x2 * ((x0 - x1) + x3)) / x3)), (0, .int x0), (1, .int x1)]) rfl ?_
    refine kj_goto F dX7_choose_33 (tgt := 15) (by decide) ?_
    refine kj_J.sub [2, 3, 1, 0] rfl ?_
    exact kb x0 x1 ((x2 * ((x0 - x1) + x3)) / x3) (x3 + 1) (Option.some.inj h).symm
theorem jlc_choose_15 {p : Program} {l : Launch} {e : Env} {s : State} {m : MethodId} {args : Array Value} {below : List Frame} {meth : Method} {c : Code} {A : Nat → Prop} {D : va_G} {tys : List (ClassId × FieldType)} {S : Type} {w : S → va_W} {z : S} {Q : State → Prop} (F : kj_Fx p s m args meth c cX7_choose 4 wsX7_choose RX7 (some .int) D tys A) {n : Nat} {x0 : Int32} {x1 : Int32} {x2 : Int32} {x3 : Int32} {r : Int32} (h : lc_choose_15 n x0 x1 x2 x3 = some r) (ke : kj_J p l e rm_X7_choose s m args below meth c 0 0 Q 4 D A (w z) 36 [(2, .int (r))] []) : kj_J p l e rm_X7_choose s m args below meth c 0 0 Q 4 D A (w z) 15 [(0, .int x0), (1, .int x1), (2, .int x2), (3, .int x3)] [] :=
  kj_it_J (Wh := fun (u : (Int32 × Int32 × Int32 × Int32)) => kj_J p l e rm_X7_choose s m args below meth c 0 0 Q 4 D A (w z) 15 [(0, .int (u.1)), (1, .int (u.2.1)), (2, .int (u.2.2.1)), (3, .int (u.2.2.2))] []) (We := fun r => kj_J p l e rm_X7_choose s m args below meth c 0 0 Q 4 D A (w z) 36 [(2, .int (r))] []) (fun u o h kb ke => jc_choose_15 F h (fun a0' a1' a2' a3' e => kb (a0', a1', a2', a3') e) (fun a0' e => ke a0' e)) n (x0, x1, x2, x3) r h ke
set_option maxRecDepth 20000 in
theorem jc_choose {p : Program} {l : Launch} {e : Env} {s : State} {m : MethodId} {args : Array Value} {below : List Frame} {meth : Method} {c : Code} {A : Nat → Prop} {D : va_G} {tys : List (ClassId × FieldType)} {S : Type} {w : S → va_W} {z : S} (F : kj_Fx p s m args meth c cX7_choose 4 wsX7_choose RX7 (some .int) D tys A) {x0 : Int32} {x1 : Int32} {o : Int32} (h : fc_choose x0 x1 = some o) : kj_J p l e rm_X7_choose s m args below meth c 0 0 (MQ below (kj_Qi D tys A w (o, z)) args s 0 0 A) 4 D A (w z) 0 [(0, .int x0), (1, .int x1)] [] := by
  unfold fc_choose at h
  refine kj_iload_n F dX7_choose_0 1 rfl rfl ?_
  refine kj_if_lt F dX7_choose_1 (tgt := 9) (by decide) h (fun hc h => ?_) (fun hc h => ?_)
  · refine kj_iconst F dX7_choose_9 (v := 0) (by decide) ?_
    exact kj_iret F dX7_choose_10 (kj_pr h)
  · refine kj_iload_n F dX7_choose_4 1 rfl rfl ?_
    refine kj_iload_n F dX7_choose_5 0 rfl rfl ?_
    refine kj_icmp_le F dX7_choose_6 (tgt := 11) (by decide) h (fun hc h => ?_) (fun hc h => ?_)
    · refine kj_iconst F dX7_choose_11 (v := 1) (by decide) ?_
      refine kj_istore_n F dX7_choose_12 (lv' := [(2, .int (1 : Int32)), (0, .int x0), (1, .int x1)]) rfl (by decide) rfl ?_
      refine kj_iconst F dX7_choose_13 (v := 1) (by decide) ?_
      refine kj_istore_n F dX7_choose_14 (lv' := [(3, .int (1 : Int32)), (2, .int (1 : Int32)), (0, .int x0), (1, .int x1)]) rfl (by decide) rfl ?_
      refine kj_J.sub [2, 3, 1, 0] rfl ?_
      refine kj_bn h (fun r1 h1 h => ?_)
      refine jlc_choose_15 F h1 ?_
      refine kj_iload_n F dX7_choose_36 0 rfl rfl ?_
      exact kj_iret F dX7_choose_37 (kj_pr h)
    · refine kj_iconst F dX7_choose_9 (v := 0) (by decide) ?_
      exact kj_iret F dX7_choose_10 (kj_pr h)
theorem cc_choose {l : Launch} {D : va_G} {tys : List (ClassId × FieldType)} {S : Type} {w : S → va_W} {z : S} {x0 : Int32} {x1 : Int32} {o : Int32} (h : fc_choose x0 x1 = some o) : kj_Mi l yX7_choose wsX7_choose rm_X7_choose D tys w z [.int x0, .int x1] (o, z) :=
  fun sz => kj_start (by decide) rfl (Nat.le_of_ble_eq_true rfl) rfl fun p e s m args below meth c hsz F => jc_choose F h
/-! X6_append -/
abbrev rm_X6_append : Room := { frames := 0, cells := 0, slots := 0, locals := 0 }
theorem in_X6_append_X6 : ∀ w ∈ u_ws RX6 TX6 8, w ∈ wsX6_append := by decide +kernel
def ft_append (x1 : Int32) (z : kx_S) : Option (Int32 × kx_S) :=
  if (z.1 4) < (60 : Int32) then
  (kx_wr z 0 (z.1 4) x1).bind fun z1 =>
  (kx_pI z1 4 ((z1.1 4) + (1 : Int32))).bind fun z2 =>
  some ((1 : Int32), z2)
  else
  some ((0 : Int32), z)
set_option maxRecDepth 20000 in
theorem jt_append {p : Program} {l : Launch} {e : Env} {s : State} {m : MethodId} {args : Array Value} {below : List Frame} {meth : Method} {c : Code} {A : Nat → Prop} {D : va_G} {cA : Nat → ClassId} {h0 : Nat} {q : Nat → Nat} {P : va_W} (F : kj_Fx p s m args meth c cX6_append 2 wsX6_append RX6 (some .boolean) D (kx_T cA) A) {x1 : Int32} {z : kx_S} {o : (Int32 × kx_S)} (h : ft_append x1 z = some o) : kj_J p l e rm_X6_append s m args below meth c 0 0 (MQ below (kj_Qi D (kx_T cA) A (kx_W cA h0 q P) o) args s 0 0 A) 2 D A ((kx_W cA h0 q P) z) 0 [(0, .ref (q 0)), (1, .int x1)] [] := by
  unfold ft_append at h
  refine kj_aload_n F dX6_append_0 0 rfl rfl ?_
  refine kj_get F dX6_append_1 in_X6_append_X6 1 rfl rfl 5 (by decide) (by decide +kernel) rfl rfl ?_
  refine kj_bipush F dX6_append_4 (v := 60) (by decide) ?_
  refine kj_icmp_lt F dX6_append_6 (tgt := 11) (by decide) h (fun hc h => ?_) (fun hc h => ?_)
  · refine kj_aload_n F dX6_append_11 0 rfl rfl ?_
    refine kj_get F dX6_append_12 in_X6_append_X6 1 rfl rfl 0 (by decide) (by decide +kernel) rfl rfl ?_
    refine kj_aload_n F dX6_append_15 0 rfl rfl ?_
    refine kj_get F dX6_append_16 in_X6_append_X6 1 rfl rfl 5 (by decide) (by decide +kernel) rfl rfl ?_
    refine kj_iload_n F dX6_append_19 1 rfl rfl ?_
    refine kx_iast F dX6_append_20 0 (by decide) h (fun z1 h => ?_)
    refine kj_aload_n F dX6_append_21 0 rfl rfl ?_
    refine kj_dup F dX6_append_22 rfl ?_
    refine kj_get F dX6_append_23 in_X6_append_X6 1 rfl rfl 5 (by decide) (by decide +kernel) rfl rfl ?_
    refine kj_iconst F dX6_append_26 (v := 1) (by decide) ?_
    refine kj_iadd F dX6_append_27 ?_
    refine kx_pt F dX6_append_28 in_X6_append_X6 tyX6 tyX6_ok nmX6 1 rfl rfl 5 4 (by decide) (by decide +kernel) rfl rfl (by decide +kernel) (Nat.le_of_ble_eq_true rfl) (kx_put4 cA h0 q P _ _) h (fun z2 h => ?_)
    refine kj_iconst F dX6_append_31 (v := 1) (by decide) ?_
    exact kj_zret F dX6_append_32 (by decide) h
  · refine kj_iconst F dX6_append_9 (v := 0) (by decide) ?_
    exact kj_zret F dX6_append_10 (by decide) h
theorem ct_append {l : Launch} {D : va_G} {cA : Nat → ClassId} {h0 : Nat} {q : Nat → Nat} {P : va_W} {x1 : Int32} {z : kx_S} {o : (Int32 × kx_S)} (h : ft_append x1 z = some o) : kj_Mi l yX6_append wsX6_append rm_X6_append D (kx_T cA) (kx_W cA h0 q P) z [.ref (q 0), .int x1] o :=
  fun sz => kj_start (by decide) rfl (Nat.le_of_ble_eq_true rfl) rfl fun p e s m args below meth c hsz F => jt_append F h
/-! X6_failed -/
abbrev rm_X6_failed : Room := { frames := 0, cells := 0, slots := 0, locals := 0 }
theorem in_X6_failed_X6 : ∀ w ∈ u_ws RX6 TX6 8, w ∈ wsX6_failed := by decide +kernel
def ft_failed (x1 : Int32) (z : kx_S) : Option (Int32 × kx_S) :=
  (kx_pI z 6 x1).bind fun z1 =>
  some ((0 : Int32), z1)
set_option maxRecDepth 20000 in
theorem jt_failed {p : Program} {l : Launch} {e : Env} {s : State} {m : MethodId} {args : Array Value} {below : List Frame} {meth : Method} {c : Code} {A : Nat → Prop} {D : va_G} {cA : Nat → ClassId} {h0 : Nat} {q : Nat → Nat} {P : va_W} (F : kj_Fx p s m args meth c cX6_failed 2 wsX6_failed RX6 (some .boolean) D (kx_T cA) A) {x1 : Int32} {z : kx_S} {o : (Int32 × kx_S)} (h : ft_failed x1 z = some o) : kj_J p l e rm_X6_failed s m args below meth c 0 0 (MQ below (kj_Qi D (kx_T cA) A (kx_W cA h0 q P) o) args s 0 0 A) 2 D A ((kx_W cA h0 q P) z) 0 [(0, .ref (q 0)), (1, .int x1)] [] := by
  unfold ft_failed at h
  refine kj_aload_n F dX6_failed_0 0 rfl rfl ?_
  refine kj_iload_n F dX6_failed_1 1 rfl rfl ?_
  refine kx_pt F dX6_failed_2 in_X6_failed_X6 tyX6 tyX6_ok nmX6 1 rfl rfl 7 6 (by decide) (by decide +kernel) rfl rfl (by decide +kernel) (Nat.le_of_ble_eq_true rfl) (kx_put6 cA h0 q P _ _) h (fun z1 h => ?_)
  refine kj_iconst F dX6_failed_5 (v := 0) (by decide) ?_
  exact kj_zret F dX6_failed_6 (by decide) h
theorem ct_failed {l : Launch} {D : va_G} {cA : Nat → ClassId} {h0 : Nat} {q : Nat → Nat} {P : va_W} {x1 : Int32} {z : kx_S} {o : (Int32 × kx_S)} (h : ft_failed x1 z = some o) : kj_Mi l yX6_failed wsX6_failed rm_X6_failed D (kx_T cA) (kx_W cA h0 q P) z [.ref (q 0), .int x1] o :=
  fun sz => kj_start (by decide) rfl (Nat.le_of_ble_eq_true rfl) rfl fun p e s m args below meth c hsz F => jt_failed F h
/-! X6_sign -/
abbrev rm_X6_sign : Room := { frames := 0, cells := 0, slots := 0, locals := 0 }
theorem in_X6_sign_X6 : ∀ w ∈ u_ws RX6 TX6 8, w ∈ wsX6_sign := by decide +kernel
def ft_sign (z : kx_S) : Option (Int32 × kx_S) :=
  if (z.1 4) ≤ (z.1 5) then
  some ((-1 : Int32), z)
  else
  if (60 : Int32) ≤ (z.1 5) then
  some ((-1 : Int32), z)
  else
  (kx_rd z 0 (z.1 5)).bind fun v1 =>
  some (v1, z)
set_option maxRecDepth 20000 in
theorem jt_sign {p : Program} {l : Launch} {e : Env} {s : State} {m : MethodId} {args : Array Value} {below : List Frame} {meth : Method} {c : Code} {A : Nat → Prop} {D : va_G} {cA : Nat → ClassId} {h0 : Nat} {q : Nat → Nat} {P : va_W} (F : kj_Fx p s m args meth c cX6_sign 1 wsX6_sign RX6 (some .int) D (kx_T cA) A) {z : kx_S} {o : (Int32 × kx_S)} (h : ft_sign z = some o) : kj_J p l e rm_X6_sign s m args below meth c 0 0 (MQ below (kj_Qi D (kx_T cA) A (kx_W cA h0 q P) o) args s 0 0 A) 1 D A ((kx_W cA h0 q P) z) 0 [(0, .ref (q 0))] [] := by
  unfold ft_sign at h
  refine kj_aload_n F dX6_sign_0 0 rfl rfl ?_
  refine kj_get F dX6_sign_1 in_X6_sign_X6 1 rfl rfl 6 (by decide) (by decide +kernel) rfl rfl ?_
  refine kj_aload_n F dX6_sign_4 0 rfl rfl ?_
  refine kj_get F dX6_sign_5 in_X6_sign_X6 1 rfl rfl 5 (by decide) (by decide +kernel) rfl rfl ?_
  refine kj_icmp_ge F dX6_sign_8 (tgt := 32) (by decide) h (fun hc h => ?_) (fun hc h => ?_)
  · refine kj_iconst F dX6_sign_32 (v := (-1)) (by decide) ?_
    exact kj_iret F dX6_sign_33 h
  · refine kj_aload_n F dX6_sign_11 0 rfl rfl ?_
    refine kj_get F dX6_sign_12 in_X6_sign_X6 1 rfl rfl 6 (by decide) (by decide +kernel) rfl rfl ?_
    refine kj_bipush F dX6_sign_15 (v := 60) (by decide) ?_
    refine kj_icmp_ge F dX6_sign_17 (tgt := 32) (by decide) h (fun hc h => ?_) (fun hc h => ?_)
    · refine kj_iconst F dX6_sign_32 (v := (-1)) (by decide) ?_
      exact kj_iret F dX6_sign_33 h
    · refine kj_aload_n F dX6_sign_20 0 rfl rfl ?_
      refine kj_get F dX6_sign_21 in_X6_sign_X6 1 rfl rfl 0 (by decide) (by decide +kernel) rfl rfl ?_
      refine kj_aload_n F dX6_sign_24 0 rfl rfl ?_
      refine kj_get F dX6_sign_25 in_X6_sign_X6 1 rfl rfl 6 (by decide) (by decide +kernel) rfl rfl ?_
      refine kx_iald F dX6_sign_28 0 (by decide) h (fun v1 h => ?_)
      refine kj_goto F dX6_sign_29 (tgt := 33) (by decide) ?_
      exact kj_iret F dX6_sign_33 h
theorem ct_sign {l : Launch} {D : va_G} {cA : Nat → ClassId} {h0 : Nat} {q : Nat → Nat} {P : va_W} {z : kx_S} {o : (Int32 × kx_S)} (h : ft_sign z = some o) : kj_Mi l yX6_sign wsX6_sign rm_X6_sign D (kx_T cA) (kx_W cA h0 q P) z [.ref (q 0)] o :=
  fun sz => kj_start (by decide) rfl (Nat.le_of_ble_eq_true rfl) rfl fun p e s m args below meth c hsz F => jt_sign F h
/-! X6_readSign -/
abbrev rm_X6_readSign : Room := { frames := 1, cells := 0, slots := 0, locals := 21 }
theorem in_X6_readSign_X6 : ∀ w ∈ u_ws RX6 TX6 8, w ∈ wsX6_readSign := by decide +kernel
def ft_readSign (x1 : Int32) (z : kx_S) : Option (Int32 × kx_S) :=
  (ft_sign z).bind fun o1 =>
  if (o1.1) = x1 then
  (kx_pI (o1.2) 5 (((o1.2).1 5) + (1 : Int32))).bind fun z2 =>
  some ((1 : Int32), z2)
  else
  (ft_failed (1 : Int32) (o1.2)).bind fun o3 =>
  if (o3.1) = 0 ∨ (o3.1) = 1 then some ((o3.1), (o3.2)) else none
set_option maxRecDepth 20000 in
theorem jt_readSign {p : Program} {l : Launch} {e : Env} {s : State} {m : MethodId} {args : Array Value} {below : List Frame} {meth : Method} {c : Code} {A : Nat → Prop} {D : va_G} {cA : Nat → ClassId} {h0 : Nat} {q : Nat → Nat} {P : va_W} (F : kj_Fx p s m args meth c cX6_readSign 2 wsX6_readSign RX6 (some .boolean) D (kx_T cA) A) {x1 : Int32} {z : kx_S} {o : (Int32 × kx_S)} (h : ft_readSign x1 z = some o) : kj_J p l e rm_X6_readSign s m args below meth c 0 0 (MQ below (kj_Qi D (kx_T cA) A (kx_W cA h0 q P) o) args s 0 0 A) 2 D A ((kx_W cA h0 q P) z) 0 [(0, .ref (q 0)), (1, .int x1)] [] := by
  unfold ft_readSign at h
  refine kj_aload_n F dX6_readSign_0 0 rfl rfl ?_
  refine kj_cVi (As := []) (rest := []) F dX6_readSign_1 h (fun o h1 => ct_sign h1) (cwV 0 F.2.2.2.2.1 gX6_readSign_X6_sign rfl rfl rfl (by decide +kernel) ⟨Nat.le_of_ble_eq_true rfl, Nat.le_of_ble_eq_true rfl⟩) 1 rfl rfl rfl rfl rfl (Nat.le_of_ble_eq_true rfl) ⟨Nat.zero_le _, Nat.zero_le _⟩ (fun o1 h => ?_)
  refine kj_iload_n F dX6_readSign_4 1 rfl rfl ?_
  refine kj_icmp_eq F dX6_readSign_5 (tgt := 14) (by decide) h (fun hc h => ?_) (fun hc h => ?_)
  · refine kj_aload_n F dX6_readSign_14 0 rfl rfl ?_
    refine kj_dup F dX6_readSign_15 rfl ?_
    refine kj_get F dX6_readSign_16 in_X6_readSign_X6 1 rfl rfl 6 (by decide) (by decide +kernel) rfl rfl ?_
    refine kj_iconst F dX6_readSign_19 (v := 1) (by decide) ?_
    refine kj_iadd F dX6_readSign_20 ?_
    refine kx_pt F dX6_readSign_21 in_X6_readSign_X6 tyX6 tyX6_ok nmX6 1 rfl rfl 6 5 (by decide) (by decide +kernel) rfl rfl (by decide +kernel) (Nat.le_of_ble_eq_true rfl) (kx_put5 cA h0 q P _ _) h (fun z2 h => ?_)
    refine kj_iconst F dX6_readSign_24 (v := 1) (by decide) ?_
    exact kj_zret F dX6_readSign_25 (by decide) h
  · refine kj_aload_n F dX6_readSign_8 0 rfl rfl ?_
    refine kj_iconst F dX6_readSign_9 (v := 1) (by decide) ?_
    refine kj_cVi (As := [.int (1 : Int32)]) (rest := []) F dX6_readSign_10 h (fun o h1 => ct_failed h1) (cwV 1 F.2.2.2.2.1 gX6_readSign_X6_failed rfl rfl rfl (by decide +kernel) ⟨Nat.le_of_ble_eq_true rfl, Nat.le_of_ble_eq_true rfl⟩) 1 rfl rfl rfl rfl rfl (Nat.le_of_ble_eq_true rfl) ⟨Nat.zero_le _, Nat.zero_le _⟩ (fun o3 h => ?_)
    exact kj_zretB F dX6_readSign_13 h
theorem ct_readSign {l : Launch} {D : va_G} {cA : Nat → ClassId} {h0 : Nat} {q : Nat → Nat} {P : va_W} {x1 : Int32} {z : kx_S} {o : (Int32 × kx_S)} (h : ft_readSign x1 z = some o) : kj_Mi l yX6_readSign wsX6_readSign rm_X6_readSign D (kx_T cA) (kx_W cA h0 q P) z [.ref (q 0), .int x1] o :=
  fun sz => kj_start (by decide) rfl (Nat.le_of_ble_eq_true rfl) rfl fun p e s m args below meth c hsz F => jt_readSign F h
/-! X6_isDigit -/
abbrev rm_X6_isDigit : Room := { frames := 1, cells := 0, slots := 0, locals := 20 }
def ft_isDigit (z : kx_S) : Option (Int32 × kx_S) :=
  (ft_sign z).bind fun o1 =>
  if (o1.1) < (48 : Int32) then
  some ((0 : Int32), (o1.2))
  else
  (ft_sign (o1.2)).bind fun o2 =>
  if (57 : Int32) < (o2.1) then
  some ((0 : Int32), (o2.2))
  else
  some ((1 : Int32), (o2.2))
set_option maxRecDepth 20000 in
theorem jt_isDigit {p : Program} {l : Launch} {e : Env} {s : State} {m : MethodId} {args : Array Value} {below : List Frame} {meth : Method} {c : Code} {A : Nat → Prop} {D : va_G} {cA : Nat → ClassId} {h0 : Nat} {q : Nat → Nat} {P : va_W} (F : kj_Fx p s m args meth c cX6_isDigit 1 wsX6_isDigit RX6 (some .boolean) D (kx_T cA) A) {z : kx_S} {o : (Int32 × kx_S)} (h : ft_isDigit z = some o) : kj_J p l e rm_X6_isDigit s m args below meth c 0 0 (MQ below (kj_Qi D (kx_T cA) A (kx_W cA h0 q P) o) args s 0 0 A) 1 D A ((kx_W cA h0 q P) z) 0 [(0, .ref (q 0))] [] := by
  unfold ft_isDigit at h
  refine kj_aload_n F dX6_isDigit_0 0 rfl rfl ?_
  refine kj_cVi (As := []) (rest := []) F dX6_isDigit_1 h (fun o h1 => ct_sign h1) (cwV 0 F.2.2.2.2.1 gX6_isDigit_X6_sign rfl rfl rfl (by decide +kernel) ⟨Nat.le_of_ble_eq_true rfl, Nat.le_of_ble_eq_true rfl⟩) 1 rfl rfl rfl rfl rfl (Nat.le_of_ble_eq_true rfl) ⟨Nat.zero_le _, Nat.zero_le _⟩ (fun o1 h => ?_)
  refine kj_bipush F dX6_isDigit_4 (v := 48) (by decide) ?_
  refine kj_icmp_lt F dX6_isDigit_6 (tgt := 22) (by decide) h (fun hc h => ?_) (fun hc h => ?_)
  · refine kj_iconst F dX6_isDigit_22 (v := 0) (by decide) ?_
    exact kj_zret F dX6_isDigit_23 (by decide) h
  · refine kj_aload_n F dX6_isDigit_9 0 rfl rfl ?_
    refine kj_cVi (As := []) (rest := []) F dX6_isDigit_10 h (fun o h1 => ct_sign h1) (cwV 0 F.2.2.2.2.1 gX6_isDigit_X6_sign rfl rfl rfl (by decide +kernel) ⟨Nat.le_of_ble_eq_true rfl, Nat.le_of_ble_eq_true rfl⟩) 1 rfl rfl rfl rfl rfl (Nat.le_of_ble_eq_true rfl) ⟨Nat.zero_le _, Nat.zero_le _⟩ (fun o2 h => ?_)
    refine kj_bipush F dX6_isDigit_13 (v := 57) (by decide) ?_
    refine kj_icmp_gt F dX6_isDigit_15 (tgt := 22) (by decide) h (fun hc h => ?_) (fun hc h => ?_)
    · refine kj_iconst F dX6_isDigit_22 (v := 0) (by decide) ?_
      exact kj_zret F dX6_isDigit_23 (by decide) h
    · refine kj_iconst F dX6_isDigit_18 (v := 1) (by decide) ?_
      refine kj_goto F dX6_isDigit_19 (tgt := 23) (by decide) ?_
      exact kj_zret F dX6_isDigit_23 (by decide) h
theorem ct_isDigit {l : Launch} {D : va_G} {cA : Nat → ClassId} {h0 : Nat} {q : Nat → Nat} {P : va_W} {z : kx_S} {o : (Int32 × kx_S)} (h : ft_isDigit z = some o) : kj_Mi l yX6_isDigit wsX6_isDigit rm_X6_isDigit D (kx_T cA) (kx_W cA h0 q P) z [.ref (q 0)] o :=
  fun sz => kj_start (by decide) rfl (Nat.le_of_ble_eq_true rfl) rfl fun p e s m args below meth c hsz F => jt_isDigit F h
/-! X6_isLetter -/
abbrev rm_X6_isLetter : Room := { frames := 1, cells := 0, slots := 0, locals := 20 }
def ft_isLetter (z : kx_S) : Option (Int32 × kx_S) :=
  (ft_sign z).bind fun o1 =>
  if (o1.1) = (101 : Int32) then
  some ((1 : Int32), (o1.2))
  else
  (ft_sign (o1.2)).bind fun o2 =>
  if (o2.1) = (110 : Int32) then
  some ((1 : Int32), (o2.2))
  else
  some ((0 : Int32), (o2.2))
set_option maxRecDepth 20000 in
theorem jt_isLetter {p : Program} {l : Launch} {e : Env} {s : State} {m : MethodId} {args : Array Value} {below : List Frame} {meth : Method} {c : Code} {A : Nat → Prop} {D : va_G} {cA : Nat → ClassId} {h0 : Nat} {q : Nat → Nat} {P : va_W} (F : kj_Fx p s m args meth c cX6_isLetter 1 wsX6_isLetter RX6 (some .boolean) D (kx_T cA) A) {z : kx_S} {o : (Int32 × kx_S)} (h : ft_isLetter z = some o) : kj_J p l e rm_X6_isLetter s m args below meth c 0 0 (MQ below (kj_Qi D (kx_T cA) A (kx_W cA h0 q P) o) args s 0 0 A) 1 D A ((kx_W cA h0 q P) z) 0 [(0, .ref (q 0))] [] := by
  unfold ft_isLetter at h
  refine kj_aload_n F dX6_isLetter_0 0 rfl rfl ?_
  refine kj_cVi (As := []) (rest := []) F dX6_isLetter_1 h (fun o h1 => ct_sign h1) (cwV 0 F.2.2.2.2.1 gX6_isLetter_X6_sign rfl rfl rfl (by decide +kernel) ⟨Nat.le_of_ble_eq_true rfl, Nat.le_of_ble_eq_true rfl⟩) 1 rfl rfl rfl rfl rfl (Nat.le_of_ble_eq_true rfl) ⟨Nat.zero_le _, Nat.zero_le _⟩ (fun o1 h => ?_)
  refine kj_bipush F dX6_isLetter_4 (v := 101) (by decide) ?_
  refine kj_icmp_eq F dX6_isLetter_6 (tgt := 18) (by decide) h (fun hc h => ?_) (fun hc h => ?_)
  · refine kj_iconst F dX6_isLetter_18 (v := 1) (by decide) ?_
    refine kj_goto F dX6_isLetter_19 (tgt := 23) (by decide) ?_
    exact kj_zret F dX6_isLetter_23 (by decide) h
  · refine kj_aload_n F dX6_isLetter_9 0 rfl rfl ?_
    refine kj_cVi (As := []) (rest := []) F dX6_isLetter_10 h (fun o h1 => ct_sign h1) (cwV 0 F.2.2.2.2.1 gX6_isLetter_X6_sign rfl rfl rfl (by decide +kernel) ⟨Nat.le_of_ble_eq_true rfl, Nat.le_of_ble_eq_true rfl⟩) 1 rfl rfl rfl rfl rfl (Nat.le_of_ble_eq_true rfl) ⟨Nat.zero_le _, Nat.zero_le _⟩ (fun o2 h => ?_)
    refine kj_bipush F dX6_isLetter_13 (v := 110) (by decide) ?_
    refine kj_icmp_ne F dX6_isLetter_15 (tgt := 22) (by decide) h (fun hc h => ?_) (fun hc h => ?_)
    · refine kj_iconst F dX6_isLetter_18 (v := 1) (by decide) ?_
      refine kj_goto F dX6_isLetter_19 (tgt := 23) (by decide) ?_
      exact kj_zret F dX6_isLetter_23 (by decide) h
    · refine kj_iconst F dX6_isLetter_22 (v := 0) (by decide) ?_
      exact kj_zret F dX6_isLetter_23 (by decide) h
theorem ct_isLetter {l : Launch} {D : va_G} {cA : Nat → ClassId} {h0 : Nat} {q : Nat → Nat} {P : va_W} {z : kx_S} {o : (Int32 × kx_S)} (h : ft_isLetter z = some o) : kj_Mi l yX6_isLetter wsX6_isLetter rm_X6_isLetter D (kx_T cA) (kx_W cA h0 q P) z [.ref (q 0)] o :=
  fun sz => kj_start (by decide) rfl (Nat.le_of_ble_eq_true rfl) rfl fun p e s m args below meth c hsz F => jt_isLetter F h
/-! X6_readSide -/
abbrev rm_X6_readSide : Room := { frames := 2, cells := 0, slots := 0, locals := 42 }
theorem in_X6_readSide_X6 : ∀ w ∈ u_ws RX6 TX6 8, w ∈ wsX6_readSide := by decide +kernel
def ft_readSide (x1 : Int32) (x2 : Int32) (x3 : Int32) (z : kx_S) : Option (Int32 × kx_S) :=
  (ft_isDigit z).bind fun o1 =>
  if (o1.1) = 0 then
  (ft_failed (1 : Int32) (o1.2)).bind fun o2 =>
  if (o2.1) = 0 ∨ (o2.1) = 1 then some ((o2.1), (o2.2)) else none
  else
  (fx_inRange x1 x2 x3).bind fun o3 =>
  if o3 = 0 then
  (ft_failed (2 : Int32) (o1.2)).bind fun o4 =>
  if (o4.1) = 0 ∨ (o4.1) = 1 then some ((o4.1), (o4.2)) else none
  else
  (kx_pI (o1.2) 5 (((o1.2).1 5) + (1 : Int32))).bind fun z5 =>
  some ((1 : Int32), z5)
set_option maxRecDepth 20000 in
theorem jt_readSide {p : Program} {l : Launch} {e : Env} {s : State} {m : MethodId} {args : Array Value} {below : List Frame} {meth : Method} {c : Code} {A : Nat → Prop} {D : va_G} {cA : Nat → ClassId} {h0 : Nat} {q : Nat → Nat} {P : va_W} (F : kj_Fx p s m args meth c cX6_readSide 4 wsX6_readSide RX6 (some .boolean) D (kx_T cA) A) {x1 : Int32} {x2 : Int32} {x3 : Int32} {z : kx_S} {o : (Int32 × kx_S)} (h : ft_readSide x1 x2 x3 z = some o) : kj_J p l e rm_X6_readSide s m args below meth c 0 0 (MQ below (kj_Qi D (kx_T cA) A (kx_W cA h0 q P) o) args s 0 0 A) 4 D A ((kx_W cA h0 q P) z) 0 [(0, .ref (q 0)), (1, .int x1), (2, .int x2), (3, .int x3)] [] := by
  unfold ft_readSide at h
  refine kj_aload_n F dX6_readSide_0 0 rfl rfl ?_
  refine kj_cVi (As := []) (rest := []) F dX6_readSide_1 h (fun o h1 => ct_isDigit h1) (cwV 0 F.2.2.2.2.1 gX6_readSide_X6_isDigit rfl rfl rfl (by decide +kernel) ⟨Nat.le_of_ble_eq_true rfl, Nat.le_of_ble_eq_true rfl⟩) 1 rfl rfl rfl rfl rfl (Nat.le_of_ble_eq_true rfl) ⟨Nat.zero_le _, Nat.zero_le _⟩ (fun o1 h => ?_)
  refine kj_if_ne F dX6_readSide_4 (tgt := 13) (by decide) h (fun hc h => ?_) (fun hc h => ?_)
  · refine kj_aload_n F dX6_readSide_7 0 rfl rfl ?_
    refine kj_iconst F dX6_readSide_8 (v := 1) (by decide) ?_
    refine kj_cVi (As := [.int (1 : Int32)]) (rest := []) F dX6_readSide_9 h (fun o h1 => ct_failed h1) (cwV 1 F.2.2.2.2.1 gX6_readSide_X6_failed rfl rfl rfl (by decide +kernel) ⟨Nat.le_of_ble_eq_true rfl, Nat.le_of_ble_eq_true rfl⟩) 1 rfl rfl rfl rfl rfl (Nat.le_of_ble_eq_true rfl) ⟨Nat.zero_le _, Nat.zero_le _⟩ (fun o2 h => ?_)
    exact kj_zretB F dX6_readSide_12 h
  · refine kj_iload_n F dX6_readSide_13 1 rfl rfl ?_
    refine kj_iload_n F dX6_readSide_14 2 rfl rfl ?_
    refine kj_iload_n F dX6_readSide_15 3 rfl rfl ?_
    refine kj_cSip (As := [.int x1, .int x2, .int x3]) (rest := []) F dX6_readSide_16 h (fun o h1 => cx_inRange (w := (kx_W cA h0 q P)) h1) (va_cwS 3 F.2.2.2.2.1 gX6_readSide_X0_inRange rfl rfl rfl (by decide +kernel) ⟨Nat.le_of_ble_eq_true rfl, Nat.le_of_ble_eq_true rfl⟩) rfl rfl (Nat.le_of_ble_eq_true rfl) ⟨Nat.zero_le _, Nat.zero_le _⟩ (fun o3 h => ?_)
    refine kj_if_ne F dX6_readSide_19 (tgt := 28) (by decide) h (fun hc h => ?_) (fun hc h => ?_)
    · refine kj_aload_n F dX6_readSide_22 0 rfl rfl ?_
      refine kj_iconst F dX6_readSide_23 (v := 2) (by decide) ?_
      refine kj_cVi (As := [.int (2 : Int32)]) (rest := []) F dX6_readSide_24 h (fun o h1 => ct_failed h1) (cwV 1 F.2.2.2.2.1 gX6_readSide_X6_failed rfl rfl rfl (by decide +kernel) ⟨Nat.le_of_ble_eq_true rfl, Nat.le_of_ble_eq_true rfl⟩) 1 rfl rfl rfl rfl rfl (Nat.le_of_ble_eq_true rfl) ⟨Nat.zero_le _, Nat.zero_le _⟩ (fun o4 h => ?_)
      exact kj_zretB F dX6_readSide_27 h
    · refine kj_aload_n F dX6_readSide_28 0 rfl rfl ?_
      refine kj_dup F dX6_readSide_29 rfl ?_
      refine kj_get F dX6_readSide_30 in_X6_readSide_X6 1 rfl rfl 6 (by decide) (by decide +kernel) rfl rfl ?_
      refine kj_iconst F dX6_readSide_33 (v := 1) (by decide) ?_
      refine kj_iadd F dX6_readSide_34 ?_
      refine kx_pt F dX6_readSide_35 in_X6_readSide_X6 tyX6 tyX6_ok nmX6 1 rfl rfl 6 5 (by decide) (by decide +kernel) rfl rfl (by decide +kernel) (Nat.le_of_ble_eq_true rfl) (kx_put5 cA h0 q P _ _) h (fun z5 h => ?_)
      refine kj_iconst F dX6_readSide_38 (v := 1) (by decide) ?_
      exact kj_zret F dX6_readSide_39 (by decide) h
theorem ct_readSide {l : Launch} {D : va_G} {cA : Nat → ClassId} {h0 : Nat} {q : Nat → Nat} {P : va_W} {x1 : Int32} {x2 : Int32} {x3 : Int32} {z : kx_S} {o : (Int32 × kx_S)} (h : ft_readSide x1 x2 x3 z = some o) : kj_Mi l yX6_readSide wsX6_readSide rm_X6_readSide D (kx_T cA) (kx_W cA h0 q P) z [.ref (q 0), .int x1, .int x2, .int x3] o :=
  fun sz => kj_start (by decide) rfl (Nat.le_of_ble_eq_true rfl) rfl fun p e s m args below meth c hsz F => jt_readSide F h
/-! X6_readSides -/
abbrev rm_X6_readSides : Room := { frames := 3, cells := 0, slots := 0, locals := 65 }
theorem in_X6_readSides_X6 : ∀ w ∈ u_ws RX6 TX6 8, w ∈ wsX6_readSides := by decide +kernel
def ft_readSides (z : kx_S) : Option (Int32 × kx_S) :=
  (ft_sign z).bind fun o1 =>
  (kx_pI (o1.2) 1 ((o1.1) - (48 : Int32))).bind fun z2 =>
  (ft_readSide (z2.1 1) (1 : Int32) (1 : Int32) z2).bind fun o3 =>
  if (o3.1) = 0 then
  some ((0 : Int32), (o3.2))
  else
  (ft_sign (o3.2)).bind fun o4 =>
  (kx_pI (o4.2) 2 ((o4.1) - (48 : Int32))).bind fun z5 =>
  (ft_readSide (z5.1 1) (z5.1 2) (1 : Int32) z5).bind fun o6 =>
  if (o6.1) = 0 then
  some ((0 : Int32), (o6.2))
  else
  (ft_sign (o6.2)).bind fun o7 =>
  (kx_pI (o7.2) 3 ((o7.1) - (48 : Int32))).bind fun z8 =>
  (ft_readSide (z8.1 1) (z8.1 2) (z8.1 3) z8).bind fun o9 =>
  if (o9.1) = 0 ∨ (o9.1) = 1 then some ((o9.1), (o9.2)) else none
set_option maxRecDepth 20000 in
theorem jt_readSides {p : Program} {l : Launch} {e : Env} {s : State} {m : MethodId} {args : Array Value} {below : List Frame} {meth : Method} {c : Code} {A : Nat → Prop} {D : va_G} {cA : Nat → ClassId} {h0 : Nat} {q : Nat → Nat} {P : va_W} (F : kj_Fx p s m args meth c cX6_readSides 1 wsX6_readSides RX6 (some .boolean) D (kx_T cA) A) {z : kx_S} {o : (Int32 × kx_S)} (h : ft_readSides z = some o) : kj_J p l e rm_X6_readSides s m args below meth c 0 0 (MQ below (kj_Qi D (kx_T cA) A (kx_W cA h0 q P) o) args s 0 0 A) 1 D A ((kx_W cA h0 q P) z) 0 [(0, .ref (q 0))] [] := by
  unfold ft_readSides at h
  refine kj_aload_n F dX6_readSides_0 0 rfl rfl ?_
  refine kj_aload_n F dX6_readSides_1 0 rfl rfl ?_
  refine kj_cVi (As := []) (rest := [.ref (q 0)]) F dX6_readSides_2 h (fun o h1 => ct_sign h1) (cwV 0 F.2.2.2.2.1 gX6_readSides_X6_sign rfl rfl rfl (by decide +kernel) ⟨Nat.le_of_ble_eq_true rfl, Nat.le_of_ble_eq_true rfl⟩) 1 rfl rfl rfl rfl rfl (Nat.le_of_ble_eq_true rfl) ⟨Nat.zero_le _, Nat.zero_le _⟩ (fun o1 h => ?_)
  refine kj_bipush F dX6_readSides_5 (v := 48) (by decide) ?_
  refine kj_isub F dX6_readSides_7 ?_
  refine kx_pt F dX6_readSides_8 in_X6_readSides_X6 tyX6 tyX6_ok nmX6 1 rfl rfl 2 1 (by decide) (by decide +kernel) rfl rfl (by decide +kernel) (Nat.le_of_ble_eq_true rfl) (kx_put1 cA h0 q P _ _) h (fun z2 h => ?_)
  refine kj_aload_n F dX6_readSides_11 0 rfl rfl ?_
  refine kj_aload_n F dX6_readSides_12 0 rfl rfl ?_
  refine kj_get F dX6_readSides_13 in_X6_readSides_X6 1 rfl rfl 2 (by decide) (by decide +kernel) rfl rfl ?_
  refine kj_iconst F dX6_readSides_16 (v := 1) (by decide) ?_
  refine kj_iconst F dX6_readSides_17 (v := 1) (by decide) ?_
  refine kj_cVi (As := [.int (z2.1 1), .int (1 : Int32), .int (1 : Int32)]) (rest := []) F dX6_readSides_18 h (fun o h1 => ct_readSide h1) (cwV 3 F.2.2.2.2.1 gX6_readSides_X6_readSide rfl rfl rfl (by decide +kernel) ⟨Nat.le_of_ble_eq_true rfl, Nat.le_of_ble_eq_true rfl⟩) 1 rfl rfl rfl rfl rfl (Nat.le_of_ble_eq_true rfl) ⟨Nat.zero_le _, Nat.zero_le _⟩ (fun o3 h => ?_)
  refine kj_if_ne F dX6_readSides_21 (tgt := 26) (by decide) h (fun hc h => ?_) (fun hc h => ?_)
  · refine kj_iconst F dX6_readSides_24 (v := 0) (by decide) ?_
    exact kj_zret F dX6_readSides_25 (by decide) h
  · refine kj_aload_n F dX6_readSides_26 0 rfl rfl ?_
    refine kj_aload_n F dX6_readSides_27 0 rfl rfl ?_
    refine kj_cVi (As := []) (rest := [.ref (q 0)]) F dX6_readSides_28 h (fun o h1 => ct_sign h1) (cwV 0 F.2.2.2.2.1 gX6_readSides_X6_sign rfl rfl rfl (by decide +kernel) ⟨Nat.le_of_ble_eq_true rfl, Nat.le_of_ble_eq_true rfl⟩) 1 rfl rfl rfl rfl rfl (Nat.le_of_ble_eq_true rfl) ⟨Nat.zero_le _, Nat.zero_le _⟩ (fun o4 h => ?_)
    refine kj_bipush F dX6_readSides_31 (v := 48) (by decide) ?_
    refine kj_isub F dX6_readSides_33 ?_
    refine kx_pt F dX6_readSides_34 in_X6_readSides_X6 tyX6 tyX6_ok nmX6 1 rfl rfl 3 2 (by decide) (by decide +kernel) rfl rfl (by decide +kernel) (Nat.le_of_ble_eq_true rfl) (kx_put2 cA h0 q P _ _) h (fun z5 h => ?_)
    refine kj_aload_n F dX6_readSides_37 0 rfl rfl ?_
    refine kj_aload_n F dX6_readSides_38 0 rfl rfl ?_
    refine kj_get F dX6_readSides_39 in_X6_readSides_X6 1 rfl rfl 2 (by decide) (by decide +kernel) rfl rfl ?_
    refine kj_aload_n F dX6_readSides_42 0 rfl rfl ?_
    refine kj_get F dX6_readSides_43 in_X6_readSides_X6 1 rfl rfl 3 (by decide) (by decide +kernel) rfl rfl ?_
    refine kj_iconst F dX6_readSides_46 (v := 1) (by decide) ?_
    refine kj_cVi (As := [.int (z5.1 1), .int (z5.1 2), .int (1 : Int32)]) (rest := []) F dX6_readSides_47 h (fun o h1 => ct_readSide h1) (cwV 3 F.2.2.2.2.1 gX6_readSides_X6_readSide rfl rfl rfl (by decide +kernel) ⟨Nat.le_of_ble_eq_true rfl, Nat.le_of_ble_eq_true rfl⟩) 1 rfl rfl rfl rfl rfl (Nat.le_of_ble_eq_true rfl) ⟨Nat.zero_le _, Nat.zero_le _⟩ (fun o6 h => ?_)
    refine kj_if_ne F dX6_readSides_50 (tgt := 55) (by decide) h (fun hc h => ?_) (fun hc h => ?_)
    · refine kj_iconst F dX6_readSides_53 (v := 0) (by decide) ?_
      exact kj_zret F dX6_readSides_54 (by decide) h
    · refine kj_aload_n F dX6_readSides_55 0 rfl rfl ?_
      refine kj_aload_n F dX6_readSides_56 0 rfl rfl ?_
      refine kj_cVi (As := []) (rest := [.ref (q 0)]) F dX6_readSides_57 h (fun o h1 => ct_sign h1) (cwV 0 F.2.2.2.2.1 gX6_readSides_X6_sign rfl rfl rfl (by decide +kernel) ⟨Nat.le_of_ble_eq_true rfl, Nat.le_of_ble_eq_true rfl⟩) 1 rfl rfl rfl rfl rfl (Nat.le_of_ble_eq_true rfl) ⟨Nat.zero_le _, Nat.zero_le _⟩ (fun o7 h => ?_)
      refine kj_bipush F dX6_readSides_60 (v := 48) (by decide) ?_
      refine kj_isub F dX6_readSides_62 ?_
      refine kx_pt F dX6_readSides_63 in_X6_readSides_X6 tyX6 tyX6_ok nmX6 1 rfl rfl 4 3 (by decide) (by decide +kernel) rfl rfl (by decide +kernel) (Nat.le_of_ble_eq_true rfl) (kx_put3 cA h0 q P _ _) h (fun z8 h => ?_)
      refine kj_aload_n F dX6_readSides_66 0 rfl rfl ?_
      refine kj_aload_n F dX6_readSides_67 0 rfl rfl ?_
      refine kj_get F dX6_readSides_68 in_X6_readSides_X6 1 rfl rfl 2 (by decide) (by decide +kernel) rfl rfl ?_
      refine kj_aload_n F dX6_readSides_71 0 rfl rfl ?_
      refine kj_get F dX6_readSides_72 in_X6_readSides_X6 1 rfl rfl 3 (by decide) (by decide +kernel) rfl rfl ?_
      refine kj_aload_n F dX6_readSides_75 0 rfl rfl ?_
      refine kj_get F dX6_readSides_76 in_X6_readSides_X6 1 rfl rfl 4 (by decide) (by decide +kernel) rfl rfl ?_
      refine kj_cVi (As := [.int (z8.1 1), .int (z8.1 2), .int (z8.1 3)]) (rest := []) F dX6_readSides_79 h (fun o h1 => ct_readSide h1) (cwV 3 F.2.2.2.2.1 gX6_readSides_X6_readSide rfl rfl rfl (by decide +kernel) ⟨Nat.le_of_ble_eq_true rfl, Nat.le_of_ble_eq_true rfl⟩) 1 rfl rfl rfl rfl rfl (Nat.le_of_ble_eq_true rfl) ⟨Nat.zero_le _, Nat.zero_le _⟩ (fun o9 h => ?_)
      exact kj_zretB F dX6_readSides_82 h
theorem ct_readSides {l : Launch} {D : va_G} {cA : Nat → ClassId} {h0 : Nat} {q : Nat → Nat} {P : va_W} {z : kx_S} {o : (Int32 × kx_S)} (h : ft_readSides z = some o) : kj_Mi l yX6_readSides wsX6_readSides rm_X6_readSides D (kx_T cA) (kx_W cA h0 q P) z [.ref (q 0)] o :=
  fun sz => kj_start (by decide) rfl (Nat.le_of_ble_eq_true rfl) rfl fun p e s m args below meth c hsz F => jt_readSides F h
/-! X6_toldAt -/
abbrev rm_X6_toldAt : Room := { frames := 0, cells := 0, slots := 0, locals := 0 }
theorem in_X6_toldAt_X6 : ∀ w ∈ u_ws RX6 TX6 8, w ∈ wsX6_toldAt := by decide +kernel
def ft_toldAt (x1 : Int32) (x2 : Int32) (x3 : Int32) (z : kx_S) : Option (Int32 × kx_S) :=
  if x1 < 0 then
  some (x3, z)
  else
  if (4 : Int32) ≤ x1 then
  some (x3, z)
  else
  if x2 < 0 then
  some (x3, z)
  else
  if x2 < (4 : Int32) then
  (kx_rd z 1 ((x1 * (4 : Int32)) + x2)).bind fun v1 =>
  if v1 = (-1 : Int32) then
  some (x3, z)
  else
  some (v1, z)
  else
  some (x3, z)
set_option maxRecDepth 20000 in
theorem jt_toldAt {p : Program} {l : Launch} {e : Env} {s : State} {m : MethodId} {args : Array Value} {below : List Frame} {meth : Method} {c : Code} {A : Nat → Prop} {D : va_G} {cA : Nat → ClassId} {h0 : Nat} {q : Nat → Nat} {P : va_W} (F : kj_Fx p s m args meth c cX6_toldAt 5 wsX6_toldAt RX6 (some .int) D (kx_T cA) A) {x1 : Int32} {x2 : Int32} {x3 : Int32} {z : kx_S} {o : (Int32 × kx_S)} (h : ft_toldAt x1 x2 x3 z = some o) : kj_J p l e rm_X6_toldAt s m args below meth c 0 0 (MQ below (kj_Qi D (kx_T cA) A (kx_W cA h0 q P) o) args s 0 0 A) 5 D A ((kx_W cA h0 q P) z) 0 [(0, .ref (q 0)), (1, .int x1), (2, .int x2), (3, .int x3)] [] := by
  unfold ft_toldAt at h
  refine kj_iload_n F dX6_toldAt_0 1 rfl rfl ?_
  refine kj_if_lt F dX6_toldAt_1 (tgt := 18) (by decide) h (fun hc h => ?_) (fun hc h => ?_)
  · refine kj_iload_n F dX6_toldAt_18 3 rfl rfl ?_
    exact kj_iret F dX6_toldAt_19 h
  · refine kj_iload_n F dX6_toldAt_4 1 rfl rfl ?_
    refine kj_iconst F dX6_toldAt_5 (v := 4) (by decide) ?_
    refine kj_icmp_ge F dX6_toldAt_6 (tgt := 18) (by decide) h (fun hc h => ?_) (fun hc h => ?_)
    · refine kj_iload_n F dX6_toldAt_18 3 rfl rfl ?_
      exact kj_iret F dX6_toldAt_19 h
    · refine kj_iload_n F dX6_toldAt_9 2 rfl rfl ?_
      refine kj_if_lt F dX6_toldAt_10 (tgt := 18) (by decide) h (fun hc h => ?_) (fun hc h => ?_)
      · refine kj_iload_n F dX6_toldAt_18 3 rfl rfl ?_
        exact kj_iret F dX6_toldAt_19 h
      · refine kj_iload_n F dX6_toldAt_13 2 rfl rfl ?_
        refine kj_iconst F dX6_toldAt_14 (v := 4) (by decide) ?_
        refine kj_icmp_lt F dX6_toldAt_15 (tgt := 20) (by decide) h (fun hc h => ?_) (fun hc h => ?_)
        · refine kj_aload_n F dX6_toldAt_20 0 rfl rfl ?_
          refine kj_get F dX6_toldAt_21 in_X6_toldAt_X6 1 rfl rfl 1 (by decide) (by decide +kernel) rfl rfl ?_
          refine kj_iload_n F dX6_toldAt_24 1 rfl rfl ?_
          refine kj_iconst F dX6_toldAt_25 (v := 4) (by decide) ?_
          refine kj_imul F dX6_toldAt_26 ?_
          refine kj_iload_n F dX6_toldAt_27 2 rfl rfl ?_
          refine kj_iadd F dX6_toldAt_28 ?_
          refine kx_iald F dX6_toldAt_29 1 (by decide) h (fun v1 h => ?_)
          refine kj_istore F dX6_toldAt_30 (lv' := [(4, .int v1), (0, .ref (q 0)), (1, .int x1), (2, .int x2), (3, .int x3)]) (by decide) rfl ?_
          refine kj_iload F dX6_toldAt_32 0 rfl ?_
          refine kj_iconst F dX6_toldAt_34 (v := (-1)) (by decide) ?_
          refine kj_icmp_ne F dX6_toldAt_35 (tgt := 42) (by decide) h (fun hc h => ?_) (fun hc h => ?_)
          · refine kj_iload_n F dX6_toldAt_38 4 rfl rfl ?_
            refine kj_goto F dX6_toldAt_39 (tgt := 44) (by decide) ?_
            exact kj_iret F dX6_toldAt_44 h
          · refine kj_iload F dX6_toldAt_42 0 rfl ?_
            exact kj_iret F dX6_toldAt_44 h
        · refine kj_iload_n F dX6_toldAt_18 3 rfl rfl ?_
          exact kj_iret F dX6_toldAt_19 h
theorem ct_toldAt {l : Launch} {D : va_G} {cA : Nat → ClassId} {h0 : Nat} {q : Nat → Nat} {P : va_W} {x1 : Int32} {x2 : Int32} {x3 : Int32} {z : kx_S} {o : (Int32 × kx_S)} (h : ft_toldAt x1 x2 x3 z = some o) : kj_Mi l yX6_toldAt wsX6_toldAt rm_X6_toldAt D (kx_T cA) (kx_W cA h0 q P) z [.ref (q 0), .int x1, .int x2, .int x3] o :=
  fun sz => kj_start (by decide) rfl (Nat.le_of_ble_eq_true rfl) rfl fun p e s m args below meth c hsz F => jt_toldAt F h
/-! X6_tell -/
abbrev rm_X6_tell : Room := { frames := 1, cells := 0, slots := 0, locals := 24 }
theorem in_X6_tell_X6 : ∀ w ∈ u_ws RX6 TX6 8, w ∈ wsX6_tell := by decide +kernel
def ft_tell (x1 : Int32) (x2 : Int32) (x3 : Int32) (z : kx_S) : Option (Int32 × kx_S) :=
  (ft_toldAt (x1 - (1 : Int32)) x2 (z.1 3) z).bind fun o1 =>
  (ft_toldAt x1 (x2 - (1 : Int32)) ((o1.2).1 3) (o1.2)).bind fun o2 =>
  (ft_toldAt (x1 + (1 : Int32)) x2 (0 : Int32) (o2.2)).bind fun o3 =>
  (ft_toldAt x1 (x2 + (1 : Int32)) (0 : Int32) (o3.2)).bind fun o4 =>
  if (if (o2.1) < (o1.1) then (o2.1) else (o1.1)) < x3 then
  some ((0 : Int32), (o4.2))
  else
  if (if (o3.1) < (o4.1) then (o4.1) else (o3.1)) ≤ x3 then
  (kx_wr (o4.2) 1 ((x1 * (4 : Int32)) + x2) x3).bind fun z5 =>
  some ((1 : Int32), z5)
  else
  some ((0 : Int32), (o4.2))
set_option maxRecDepth 20000 in
theorem jt_tell {p : Program} {l : Launch} {e : Env} {s : State} {m : MethodId} {args : Array Value} {below : List Frame} {meth : Method} {c : Code} {A : Nat → Prop} {D : va_G} {cA : Nat → ClassId} {h0 : Nat} {q : Nat → Nat} {P : va_W} (F : kj_Fx p s m args meth c cX6_tell 6 wsX6_tell RX6 (some .boolean) D (kx_T cA) A) {x1 : Int32} {x2 : Int32} {x3 : Int32} {z : kx_S} {o : (Int32 × kx_S)} (h : ft_tell x1 x2 x3 z = some o) : kj_J p l e rm_X6_tell s m args below meth c 0 0 (MQ below (kj_Qi D (kx_T cA) A (kx_W cA h0 q P) o) args s 0 0 A) 6 D A ((kx_W cA h0 q P) z) 0 [(0, .ref (q 0)), (1, .int x1), (2, .int x2), (3, .int x3)] [] := by
  unfold ft_tell at h
  refine kj_aload_n F dX6_tell_0 0 rfl rfl ?_
  refine kj_iload_n F dX6_tell_1 1 rfl rfl ?_
  refine kj_iconst F dX6_tell_2 (v := 1) (by decide) ?_
  refine kj_isub F dX6_tell_3 ?_
  refine kj_iload_n F dX6_tell_4 2 rfl rfl ?_
  refine kj_aload_n F dX6_tell_5 0 rfl rfl ?_
  refine kj_get F dX6_tell_6 in_X6_tell_X6 1 rfl rfl 4 (by decide) (by decide +kernel) rfl rfl ?_
  refine kj_cVi (As := [.int (x1 - (1 : Int32)), .int x2, .int (z.1 3)]) (rest := []) F dX6_tell_9 h (fun o h1 => ct_toldAt h1) (cwV 3 F.2.2.2.2.1 gX6_tell_X6_toldAt rfl rfl rfl (by decide +kernel) ⟨Nat.le_of_ble_eq_true rfl, Nat.le_of_ble_eq_true rfl⟩) 1 rfl rfl rfl rfl rfl (Nat.le_of_ble_eq_true rfl) ⟨Nat.zero_le _, Nat.zero_le _⟩ (fun o1 h => ?_)
  refine kj_aload_n F dX6_tell_12 0 rfl rfl ?_
  refine kj_iload_n F dX6_tell_13 1 rfl rfl ?_
  refine kj_iload_n F dX6_tell_14 2 rfl rfl ?_
  refine kj_iconst F dX6_tell_15 (v := 1) (by decide) ?_
  refine kj_isub F dX6_tell_16 ?_
  refine kj_aload_n F dX6_tell_17 0 rfl rfl ?_
  refine kj_get F dX6_tell_18 in_X6_tell_X6 1 rfl rfl 4 (by decide) (by decide +kernel) rfl rfl ?_
  refine kj_cVi (As := [.int x1, .int (x2 - (1 : Int32)), .int ((o1.2).1 3)]) (rest := [.int (o1.1)]) F dX6_tell_21 h (fun o h1 => ct_toldAt h1) (cwV 3 F.2.2.2.2.1 gX6_tell_X6_toldAt rfl rfl rfl (by decide +kernel) ⟨Nat.le_of_ble_eq_true rfl, Nat.le_of_ble_eq_true rfl⟩) 1 rfl rfl rfl rfl rfl (Nat.le_of_ble_eq_true rfl) ⟨Nat.zero_le _, Nat.zero_le _⟩ (fun o2 h => ?_)
  refine kj_mmin F dX6_tell_24 (by decide +kernel) (by decide +kernel) (by decide +kernel) (by decide +kernel) (Nat.le_of_ble_eq_true rfl) (Nat.le_of_ble_eq_true rfl) ⟨Nat.zero_le _, Nat.zero_le _⟩ ?_
  refine kj_istore F dX6_tell_27 (lv' := [(4, .int (if (o2.1) < (o1.1) then (o2.1) else (o1.1))), (0, .ref (q 0)), (1, .int x1), (2, .int x2), (3, .int x3)]) (by decide) rfl ?_
  refine kj_aload_n F dX6_tell_29 1 rfl rfl ?_
  refine kj_iload_n F dX6_tell_30 2 rfl rfl ?_
  refine kj_iconst F dX6_tell_31 (v := 1) (by decide) ?_
  refine kj_iadd F dX6_tell_32 ?_
  refine kj_iload_n F dX6_tell_33 3 rfl rfl ?_
  refine kj_iconst F dX6_tell_34 (v := 0) (by decide) ?_
  refine kj_cVi (As := [.int (x1 + (1 : Int32)), .int x2, .int (0 : Int32)]) (rest := []) F dX6_tell_35 h (fun o h1 => ct_toldAt h1) (cwV 3 F.2.2.2.2.1 gX6_tell_X6_toldAt rfl rfl rfl (by decide +kernel) ⟨Nat.le_of_ble_eq_true rfl, Nat.le_of_ble_eq_true rfl⟩) 1 rfl rfl rfl rfl rfl (Nat.le_of_ble_eq_true rfl) ⟨Nat.zero_le _, Nat.zero_le _⟩ (fun o3 h => ?_)
  refine kj_aload_n F dX6_tell_38 1 rfl rfl ?_
  refine kj_iload_n F dX6_tell_39 2 rfl rfl ?_
  refine kj_iload_n F dX6_tell_40 3 rfl rfl ?_
  refine kj_iconst F dX6_tell_41 (v := 1) (by decide) ?_
  refine kj_iadd F dX6_tell_42 ?_
  refine kj_iconst F dX6_tell_43 (v := 0) (by decide) ?_
  refine kj_cVi (As := [.int x1, .int (x2 + (1 : Int32)), .int (0 : Int32)]) (rest := [.int (o3.1)]) F dX6_tell_44 h (fun o h1 => ct_toldAt h1) (cwV 3 F.2.2.2.2.1 gX6_tell_X6_toldAt rfl rfl rfl (by decide +kernel) ⟨Nat.le_of_ble_eq_true rfl, Nat.le_of_ble_eq_true rfl⟩) 1 rfl rfl rfl rfl rfl (Nat.le_of_ble_eq_true rfl) ⟨Nat.zero_le _, Nat.zero_le _⟩ (fun o4 h => ?_)
  refine kj_mmax F dX6_tell_47 (by decide +kernel) (by decide +kernel) (by decide +kernel) (by decide +kernel) (Nat.le_of_ble_eq_true rfl) (Nat.le_of_ble_eq_true rfl) ⟨Nat.zero_le _, Nat.zero_le _⟩ ?_
  refine kj_istore F dX6_tell_50 (lv' := [(5, .int (if (o3.1) < (o4.1) then (o4.1) else (o3.1))), (4, .int (if (o2.1) < (o1.1) then (o2.1) else (o1.1))), (0, .ref (q 0)), (1, .int x1), (2, .int x2), (3, .int x3)]) (by decide) rfl ?_
  refine kj_iload_n F dX6_tell_52 5 rfl rfl ?_
  refine kj_iload F dX6_tell_53 1 rfl ?_
  refine kj_icmp_gt F dX6_tell_55 (tgt := 64) (by decide) h (fun hc h => ?_) (fun hc h => ?_)
  · refine kj_iconst F dX6_tell_64 (v := 0) (by decide) ?_
    exact kj_zret F dX6_tell_65 (by decide) h
  · refine kj_iload_n F dX6_tell_58 5 rfl rfl ?_
    refine kj_iload F dX6_tell_59 0 rfl ?_
    refine kj_icmp_ge F dX6_tell_61 (tgt := 66) (by decide) h (fun hc h => ?_) (fun hc h => ?_)
    · refine kj_aload_n F dX6_tell_66 2 rfl rfl ?_
      refine kj_get F dX6_tell_67 in_X6_tell_X6 1 rfl rfl 1 (by decide) (by decide +kernel) rfl rfl ?_
      refine kj_iload_n F dX6_tell_70 3 rfl rfl ?_
      refine kj_iconst F dX6_tell_71 (v := 4) (by decide) ?_
      refine kj_imul F dX6_tell_72 ?_
      refine kj_iload_n F dX6_tell_73 4 rfl rfl ?_
      refine kj_iadd F dX6_tell_74 ?_
      refine kj_iload_n F dX6_tell_75 5 rfl rfl ?_
      refine kx_iast F dX6_tell_76 1 (by decide) h (fun z5 h => ?_)
      refine kj_iconst F dX6_tell_77 (v := 1) (by decide) ?_
      exact kj_zret F dX6_tell_78 (by decide) h
    · refine kj_iconst F dX6_tell_64 (v := 0) (by decide) ?_
      exact kj_zret F dX6_tell_65 (by decide) h
theorem ct_tell {l : Launch} {D : va_G} {cA : Nat → ClassId} {h0 : Nat} {q : Nat → Nat} {P : va_W} {x1 : Int32} {x2 : Int32} {x3 : Int32} {z : kx_S} {o : (Int32 × kx_S)} (h : ft_tell x1 x2 x3 z = some o) : kj_Mi l yX6_tell wsX6_tell rm_X6_tell D (kx_T cA) (kx_W cA h0 q P) z [.ref (q 0), .int x1, .int x2, .int x3] o :=
  fun sz => kj_start (by decide) rfl (Nat.le_of_ble_eq_true rfl) rfl fun p e s m args below meth c hsz F => jt_tell F h
/-! X6_readHeight -/
abbrev rm_X6_readHeight : Room := { frames := 2, cells := 0, slots := 0, locals := 49 }
theorem in_X6_readHeight_X6 : ∀ w ∈ u_ws RX6 TX6 8, w ∈ wsX6_readHeight := by decide +kernel
def ft_readHeight (x1 : Int32) (x2 : Int32) (z : kx_S) : Option (Int32 × kx_S) :=
  (ft_isDigit z).bind fun o1 =>
  if (o1.1) = 0 then
  (ft_failed (1 : Int32) (o1.2)).bind fun o2 =>
  if (o2.1) = 0 ∨ (o2.1) = 1 then some ((o2.1), (o2.2)) else none
  else
  (ft_sign (o1.2)).bind fun o3 =>
  (ft_tell x1 x2 ((o3.1) - (48 : Int32)) (o3.2)).bind fun o4 =>
  if (o4.1) = 0 then
  (ft_failed (2 : Int32) (o4.2)).bind fun o5 =>
  if (o5.1) = 0 ∨ (o5.1) = 1 then some ((o5.1), (o5.2)) else none
  else
  (kx_pI (o4.2) 5 (((o4.2).1 5) + (1 : Int32))).bind fun z6 =>
  some ((1 : Int32), z6)
set_option maxRecDepth 20000 in
theorem jt_readHeight {p : Program} {l : Launch} {e : Env} {s : State} {m : MethodId} {args : Array Value} {below : List Frame} {meth : Method} {c : Code} {A : Nat → Prop} {D : va_G} {cA : Nat → ClassId} {h0 : Nat} {q : Nat → Nat} {P : va_W} (F : kj_Fx p s m args meth c cX6_readHeight 3 wsX6_readHeight RX6 (some .boolean) D (kx_T cA) A) {x1 : Int32} {x2 : Int32} {z : kx_S} {o : (Int32 × kx_S)} (h : ft_readHeight x1 x2 z = some o) : kj_J p l e rm_X6_readHeight s m args below meth c 0 0 (MQ below (kj_Qi D (kx_T cA) A (kx_W cA h0 q P) o) args s 0 0 A) 3 D A ((kx_W cA h0 q P) z) 0 [(0, .ref (q 0)), (1, .int x1), (2, .int x2)] [] := by
  unfold ft_readHeight at h
  refine kj_aload_n F dX6_readHeight_0 0 rfl rfl ?_
  refine kj_cVi (As := []) (rest := []) F dX6_readHeight_1 h (fun o h1 => ct_isDigit h1) (cwV 0 F.2.2.2.2.1 gX6_readHeight_X6_isDigit rfl rfl rfl (by decide +kernel) ⟨Nat.le_of_ble_eq_true rfl, Nat.le_of_ble_eq_true rfl⟩) 1 rfl rfl rfl rfl rfl (Nat.le_of_ble_eq_true rfl) ⟨Nat.zero_le _, Nat.zero_le _⟩ (fun o1 h => ?_)
  refine kj_if_ne F dX6_readHeight_4 (tgt := 13) (by decide) h (fun hc h => ?_) (fun hc h => ?_)
  · refine kj_aload_n F dX6_readHeight_7 0 rfl rfl ?_
    refine kj_iconst F dX6_readHeight_8 (v := 1) (by decide) ?_
    refine kj_cVi (As := [.int (1 : Int32)]) (rest := []) F dX6_readHeight_9 h (fun o h1 => ct_failed h1) (cwV 1 F.2.2.2.2.1 gX6_readHeight_X6_failed rfl rfl rfl (by decide +kernel) ⟨Nat.le_of_ble_eq_true rfl, Nat.le_of_ble_eq_true rfl⟩) 1 rfl rfl rfl rfl rfl (Nat.le_of_ble_eq_true rfl) ⟨Nat.zero_le _, Nat.zero_le _⟩ (fun o2 h => ?_)
    exact kj_zretB F dX6_readHeight_12 h
  · refine kj_aload_n F dX6_readHeight_13 0 rfl rfl ?_
    refine kj_iload_n F dX6_readHeight_14 1 rfl rfl ?_
    refine kj_iload_n F dX6_readHeight_15 2 rfl rfl ?_
    refine kj_aload_n F dX6_readHeight_16 0 rfl rfl ?_
    refine kj_cVi (As := []) (rest := [.int x2, .int x1, .ref (q 0)]) F dX6_readHeight_17 h (fun o h1 => ct_sign h1) (cwV 0 F.2.2.2.2.1 gX6_readHeight_X6_sign rfl rfl rfl (by decide +kernel) ⟨Nat.le_of_ble_eq_true rfl, Nat.le_of_ble_eq_true rfl⟩) 1 rfl rfl rfl rfl rfl (Nat.le_of_ble_eq_true rfl) ⟨Nat.zero_le _, Nat.zero_le _⟩ (fun o3 h => ?_)
    refine kj_bipush F dX6_readHeight_20 (v := 48) (by decide) ?_
    refine kj_isub F dX6_readHeight_22 ?_
    refine kj_cVi (As := [.int x1, .int x2, .int ((o3.1) - (48 : Int32))]) (rest := []) F dX6_readHeight_23 h (fun o h1 => ct_tell h1) (cwV 3 F.2.2.2.2.1 gX6_readHeight_X6_tell rfl rfl rfl (by decide +kernel) ⟨Nat.le_of_ble_eq_true rfl, Nat.le_of_ble_eq_true rfl⟩) 1 rfl rfl rfl rfl rfl (Nat.le_of_ble_eq_true rfl) ⟨Nat.zero_le _, Nat.zero_le _⟩ (fun o4 h => ?_)
    refine kj_if_ne F dX6_readHeight_26 (tgt := 35) (by decide) h (fun hc h => ?_) (fun hc h => ?_)
    · refine kj_aload_n F dX6_readHeight_29 0 rfl rfl ?_
      refine kj_iconst F dX6_readHeight_30 (v := 2) (by decide) ?_
      refine kj_cVi (As := [.int (2 : Int32)]) (rest := []) F dX6_readHeight_31 h (fun o h1 => ct_failed h1) (cwV 1 F.2.2.2.2.1 gX6_readHeight_X6_failed rfl rfl rfl (by decide +kernel) ⟨Nat.le_of_ble_eq_true rfl, Nat.le_of_ble_eq_true rfl⟩) 1 rfl rfl rfl rfl rfl (Nat.le_of_ble_eq_true rfl) ⟨Nat.zero_le _, Nat.zero_le _⟩ (fun o5 h => ?_)
      exact kj_zretB F dX6_readHeight_34 h
    · refine kj_aload_n F dX6_readHeight_35 0 rfl rfl ?_
      refine kj_dup F dX6_readHeight_36 rfl ?_
      refine kj_get F dX6_readHeight_37 in_X6_readHeight_X6 1 rfl rfl 6 (by decide) (by decide +kernel) rfl rfl ?_
      refine kj_iconst F dX6_readHeight_40 (v := 1) (by decide) ?_
      refine kj_iadd F dX6_readHeight_41 ?_
      refine kx_pt F dX6_readHeight_42 in_X6_readHeight_X6 tyX6 tyX6_ok nmX6 1 rfl rfl 6 5 (by decide) (by decide +kernel) rfl rfl (by decide +kernel) (Nat.le_of_ble_eq_true rfl) (kx_put5 cA h0 q P _ _) h (fun z6 h => ?_)
      refine kj_iconst F dX6_readHeight_45 (v := 1) (by decide) ?_
      exact kj_zret F dX6_readHeight_46 (by decide) h
theorem ct_readHeight {l : Launch} {D : va_G} {cA : Nat → ClassId} {h0 : Nat} {q : Nat → Nat} {P : va_W} {x1 : Int32} {x2 : Int32} {z : kx_S} {o : (Int32 × kx_S)} (h : ft_readHeight x1 x2 z = some o) : kj_Mi l yX6_readHeight wsX6_readHeight rm_X6_readHeight D (kx_T cA) (kx_W cA h0 q P) z [.ref (q 0), .int x1, .int x2] o :=
  fun sz => kj_start (by decide) rfl (Nat.le_of_ble_eq_true rfl) rfl fun p e s m args below meth c hsz F => jt_readHeight F h
/-! X6_readRows -/
abbrev rm_X6_readRows : Room := { frames := 3, cells := 0, slots := 0, locals := 71 }
theorem in_X6_readRows_X6 : ∀ w ∈ u_ws RX6 TX6 8, w ∈ wsX6_readRows := by decide +kernel
def ft_readRows_12 (x1 : Int32) (x2 : Int32) (z : kx_S) : Option ((Int32 × Int32 × kx_S) ⊕ (kx_S ⊕ (Int32 × kx_S))) :=
  if (z.1 2) ≤ x2 then
  some (.inr (.inr (x1, z)))
  else
  (ft_readHeight x1 x2 z).bind fun o1 =>
  if (o1.1) = 0 then
  some (.inr (.inl (o1.2)))
  else
  some (.inl (x1, (x2 + 1), (o1.2)))
def lt_readRows_12 (n : Nat) (x1 : Int32) (x2 : Int32) (z : kx_S) : Option (kx_S ⊕ (Int32 × kx_S)) :=
  kj_it (fun (s : (Int32 × Int32 × kx_S)) => ft_readRows_12 (s.1) (s.2.1) (s.2.2)) n (x1, x2, z)
def ft_readRows_2 (x1 : Int32) (z : kx_S) : Option ((Int32 × kx_S) ⊕ (kx_S ⊕ kx_S)) :=
  if (z.1 1) ≤ x1 then
  some (.inr (.inr z))
  else
  (lt_readRows_12 5000 x1 (0 : Int32) z).bind fun r1 => kj_se r1 (fun a2 => some (.inr (.inl (a2)))) (fun b3 => some (.inl (((b3.1) + 1), (b3.2))))
def lt_readRows_2 (n : Nat) (x1 : Int32) (z : kx_S) : Option (kx_S ⊕ kx_S) :=
  kj_it (fun (s : (Int32 × kx_S)) => ft_readRows_2 (s.1) (s.2)) n (x1, z)
def ft_readRows (z : kx_S) : Option (Int32 × kx_S) :=
  (lt_readRows_2 5000 (0 : Int32) z).bind fun r1 => kj_se r1 (fun a2 => some ((0 : Int32), (a2))) (fun b3 => some ((1 : Int32), (b3)))
set_option maxRecDepth 20000 in
theorem jt_readRows_12 {p : Program} {l : Launch} {e : Env} {s : State} {m : MethodId} {args : Array Value} {below : List Frame} {meth : Method} {c : Code} {A : Nat → Prop} {D : va_G} {cA : Nat → ClassId} {h0 : Nat} {q : Nat → Nat} {P : va_W} {Q : State → Prop} (F : kj_Fx p s m args meth c cX6_readRows 3 wsX6_readRows RX6 (some .boolean) D (kx_T cA) A) {x1 : Int32} {x2 : Int32} {z : kx_S} {o : ((Int32 × Int32 × kx_S) ⊕ (kx_S ⊕ (Int32 × kx_S)))} (h : ft_readRows_12 x1 x2 z = some o) (kb : ∀ (a0' : Int32) (a1' : Int32) (a2' : kx_S), o = .inl (a0', a1', a2') → kj_J p l e rm_X6_readRows s m args below meth c 0 0 Q 3 D A ((kx_W cA h0 q P) a2') 12 [(0, .ref (q 0)), (1, .int a0'), (2, .int a1')] []) (ke0 : ∀ (a0' : kx_S), o = .inr (.inl a0') → kj_J p l e rm_X6_readRows s m args below meth c 0 0 Q 3 D A ((kx_W cA h0 q P) a0') 29 [] []) (ke1 : ∀ (a0' : Int32) (a1' : kx_S), o = .inr (.inr (a0', a1')) → kj_J p l e rm_X6_readRows s m args below meth c 0 0 Q 3 D A ((kx_W cA h0 q P) a1') 37 [(0, .ref (q 0)), (1, .int a0')] []) : kj_J p l e rm_X6_readRows s m args below meth c 0 0 Q 3 D A ((kx_W cA h0 q P) z) 12 [(0, .ref (q 0)), (1, .int x1), (2, .int x2)] [] := by
  unfold ft_readRows_12 at h
  refine kj_iload_n F dX6_readRows_12 2 rfl rfl ?_
  refine kj_aload_n F dX6_readRows_13 0 rfl rfl ?_
  refine kj_get F dX6_readRows_14 in_X6_readRows_X6 1 rfl rfl 3 (by decide) (by decide +kernel) rfl rfl ?_
  refine kj_icmp_ge F dX6_readRows_17 (tgt := 37) (by decide) h (fun hc h => ?_) (fun hc h => ?_)
  · refine kj_J.sub [0, 1] rfl ?_
    exact ke1 x1 z (Option.some.inj h).symm
  · refine kj_aload_n F dX6_readRows_20 0 rfl rfl ?_
    refine kj_iload_n F dX6_readRows_21 1 rfl rfl ?_
    refine kj_iload_n F dX6_readRows_22 2 rfl rfl ?_
    refine kj_cVi (As := [.int x1, .int x2]) (rest := []) F dX6_readRows_23 h (fun o h1 => ct_readHeight h1) (cwV 2 F.2.2.2.2.1 gX6_readRows_X6_readHeight rfl rfl rfl (by decide +kernel) ⟨Nat.le_of_ble_eq_true rfl, Nat.le_of_ble_eq_true rfl⟩) 1 rfl rfl rfl rfl rfl (Nat.le_of_ble_eq_true rfl) ⟨Nat.zero_le _, Nat.zero_le _⟩ (fun o1 h => ?_)
    refine kj_if_ne F dX6_readRows_26 (tgt := 31) (by decide) h (fun hc h => ?_) (fun hc h => ?_)
    · refine kj_J.sub [] rfl ?_
      exact ke0 (o1.2) (Option.some.inj h).symm
    · refine kj_iinc F dX6_readRows_31 2 rfl (v := 1) (by decide) (by decide) (lv' := [(2, .int (x2 + 1)), (0, .ref (q 0)), (1, .int x1)]) rfl ?_
      refine kj_goto F dX6_readRows_34 (tgt := 12) (by decide) ?_
      refine kj_J.sub [1, 2, 0] rfl ?_
      exact kb x1 (x2 + 1) (o1.2) (Option.some.inj h).symm
theorem jlt_readRows_12 {p : Program} {l : Launch} {e : Env} {s : State} {m : MethodId} {args : Array Value} {below : List Frame} {meth : Method} {c : Code} {A : Nat → Prop} {D : va_G} {cA : Nat → ClassId} {h0 : Nat} {q : Nat → Nat} {P : va_W} {Q : State → Prop} (F : kj_Fx p s m args meth c cX6_readRows 3 wsX6_readRows RX6 (some .boolean) D (kx_T cA) A) {n : Nat} {x1 : Int32} {x2 : Int32} {z : kx_S} {r : (kx_S ⊕ (Int32 × kx_S))} (h : lt_readRows_12 n x1 x2 z = some r) (ke : (∀ a, r = (.inl a) → kj_J p l e rm_X6_readRows s m args below meth c 0 0 Q 3 D A ((kx_W cA h0 q P) (a)) 29 [] []) ∧ (∀ a, r = (.inr a) → kj_J p l e rm_X6_readRows s m args below meth c 0 0 Q 3 D A ((kx_W cA h0 q P) (a.2)) 37 [(0, .ref (q 0)), (1, .int (a.1))] [])) : kj_J p l e rm_X6_readRows s m args below meth c 0 0 Q 3 D A ((kx_W cA h0 q P) z) 12 [(0, .ref (q 0)), (1, .int x1), (2, .int x2)] [] :=
  kj_it_J (Wh := fun (u : (Int32 × Int32 × kx_S)) => kj_J p l e rm_X6_readRows s m args below meth c 0 0 Q 3 D A ((kx_W cA h0 q P) (u.2.2)) 12 [(0, .ref (q 0)), (1, .int (u.1)), (2, .int (u.2.1))] []) (We := fun r => (∀ a, r = (.inl a) → kj_J p l e rm_X6_readRows s m args below meth c 0 0 Q 3 D A ((kx_W cA h0 q P) (a)) 29 [] []) ∧ (∀ a, r = (.inr a) → kj_J p l e rm_X6_readRows s m args below meth c 0 0 Q 3 D A ((kx_W cA h0 q P) (a.2)) 37 [(0, .ref (q 0)), (1, .int (a.1))] [])) (fun u o h kb ke => jt_readRows_12 F h (fun a0' a1' a2' e => kb (a0', a1', a2') e) (fun a0' e => (ke (.inl a0') e).1 a0' rfl) (fun a0' a1' e => (ke (.inr (a0', a1')) e).2 (a0', a1') rfl)) n (x1, x2, z) r h ke
set_option maxRecDepth 20000 in
theorem jt_readRows_2 {p : Program} {l : Launch} {e : Env} {s : State} {m : MethodId} {args : Array Value} {below : List Frame} {meth : Method} {c : Code} {A : Nat → Prop} {D : va_G} {cA : Nat → ClassId} {h0 : Nat} {q : Nat → Nat} {P : va_W} {Q : State → Prop} (F : kj_Fx p s m args meth c cX6_readRows 3 wsX6_readRows RX6 (some .boolean) D (kx_T cA) A) {x1 : Int32} {z : kx_S} {o : ((Int32 × kx_S) ⊕ (kx_S ⊕ kx_S))} (h : ft_readRows_2 x1 z = some o) (kb : ∀ (a0' : Int32) (a1' : kx_S), o = .inl (a0', a1') → kj_J p l e rm_X6_readRows s m args below meth c 0 0 Q 3 D A ((kx_W cA h0 q P) a1') 2 [(0, .ref (q 0)), (1, .int a0')] []) (ke0 : ∀ (a0' : kx_S), o = .inr (.inl a0') → kj_J p l e rm_X6_readRows s m args below meth c 0 0 Q 3 D A ((kx_W cA h0 q P) a0') 29 [] []) (ke1 : ∀ (a0' : kx_S), o = .inr (.inr a0') → kj_J p l e rm_X6_readRows s m args below meth c 0 0 Q 3 D A ((kx_W cA h0 q P) a0') 43 [] []) : kj_J p l e rm_X6_readRows s m args below meth c 0 0 Q 3 D A ((kx_W cA h0 q P) z) 2 [(0, .ref (q 0)), (1, .int x1)] [] := by
  unfold ft_readRows_2 at h
  refine kj_iload_n F dX6_readRows_2 1 rfl rfl ?_
  refine kj_aload_n F dX6_readRows_3 0 rfl rfl ?_
  refine kj_get F dX6_readRows_4 in_X6_readRows_X6 1 rfl rfl 2 (by decide) (by decide +kernel) rfl rfl ?_
  refine kj_icmp_ge F dX6_readRows_7 (tgt := 43) (by decide) h (fun hc h => ?_) (fun hc h => ?_)
  · refine kj_J.sub [] rfl ?_
    exact ke1 z (Option.some.inj h).symm
  · refine kj_iconst F dX6_readRows_10 (v := 0) (by decide) ?_
    refine kj_istore_n F dX6_readRows_11 (lv' := [(2, .int (0 : Int32)), (0, .ref (q 0)), (1, .int x1)]) rfl (by decide) rfl ?_
    refine kj_J.sub [1, 2, 0] rfl ?_
    refine kj_bn h (fun r1 h1 h => ?_)
    refine jlt_readRows_12 F h1 ?_
    refine ⟨fun a2 e => ?_, fun b3 e => ?_⟩
    · subst e
      refine kj_seL h (fun h => ?_)
      exact ke0 (a2) (Option.some.inj h).symm
    · subst e
      refine kj_seR h (fun h => ?_)
      refine kj_iinc F dX6_readRows_37 1 rfl (v := 1) (by decide) (by decide) (lv' := [(1, .int ((b3.1) + 1)), (0, .ref (q 0))]) rfl ?_
      refine kj_goto F dX6_readRows_40 (tgt := 2) (by decide) ?_
      refine kj_J.sub [1, 0] rfl ?_
      exact kb ((b3.1) + 1) (b3.2) (Option.some.inj h).symm
theorem jlt_readRows_2 {p : Program} {l : Launch} {e : Env} {s : State} {m : MethodId} {args : Array Value} {below : List Frame} {meth : Method} {c : Code} {A : Nat → Prop} {D : va_G} {cA : Nat → ClassId} {h0 : Nat} {q : Nat → Nat} {P : va_W} {Q : State → Prop} (F : kj_Fx p s m args meth c cX6_readRows 3 wsX6_readRows RX6 (some .boolean) D (kx_T cA) A) {n : Nat} {x1 : Int32} {z : kx_S} {r : (kx_S ⊕ kx_S)} (h : lt_readRows_2 n x1 z = some r) (ke : (∀ a, r = (.inl a) → kj_J p l e rm_X6_readRows s m args below meth c 0 0 Q 3 D A ((kx_W cA h0 q P) (a)) 29 [] []) ∧ (∀ a, r = (.inr a) → kj_J p l e rm_X6_readRows s m args below meth c 0 0 Q 3 D A ((kx_W cA h0 q P) (a)) 43 [] [])) : kj_J p l e rm_X6_readRows s m args below meth c 0 0 Q 3 D A ((kx_W cA h0 q P) z) 2 [(0, .ref (q 0)), (1, .int x1)] [] :=
  kj_it_J (Wh := fun (u : (Int32 × kx_S)) => kj_J p l e rm_X6_readRows s m args below meth c 0 0 Q 3 D A ((kx_W cA h0 q P) (u.2)) 2 [(0, .ref (q 0)), (1, .int (u.1))] []) (We := fun r => (∀ a, r = (.inl a) → kj_J p l e rm_X6_readRows s m args below meth c 0 0 Q 3 D A ((kx_W cA h0 q P) (a)) 29 [] []) ∧ (∀ a, r = (.inr a) → kj_J p l e rm_X6_readRows s m args below meth c 0 0 Q 3 D A ((kx_W cA h0 q P) (a)) 43 [] [])) (fun u o h kb ke => jt_readRows_2 F h (fun a0' a1' e => kb (a0', a1') e) (fun a0' e => (ke (.inl a0') e).1 a0' rfl) (fun a0' e => (ke (.inr a0') e).2 a0' rfl)) n (x1, z) r h ke
set_option maxRecDepth 20000 in
theorem jt_readRows {p : Program} {l : Launch} {e : Env} {s : State} {m : MethodId} {args : Array Value} {below : List Frame} {meth : Method} {c : Code} {A : Nat → Prop} {D : va_G} {cA : Nat → ClassId} {h0 : Nat} {q : Nat → Nat} {P : va_W} (F : kj_Fx p s m args meth c cX6_readRows 3 wsX6_readRows RX6 (some .boolean) D (kx_T cA) A) {z : kx_S} {o : (Int32 × kx_S)} (h : ft_readRows z = some o) : kj_J p l e rm_X6_readRows s m args below meth c 0 0 (MQ below (kj_Qi D (kx_T cA) A (kx_W cA h0 q P) o) args s 0 0 A) 3 D A ((kx_W cA h0 q P) z) 0 [(0, .ref (q 0))] [] := by
  unfold ft_readRows at h
  refine kj_iconst F dX6_readRows_0 (v := 0) (by decide) ?_
  refine kj_istore_n F dX6_readRows_1 (lv' := [(1, .int (0 : Int32)), (0, .ref (q 0))]) rfl (by decide) rfl ?_
  refine kj_J.sub [1, 0] rfl ?_
  refine kj_bn h (fun r1 h1 h => ?_)
  refine jlt_readRows_2 F h1 ?_
  refine ⟨fun a2 e => ?_, fun b3 e => ?_⟩
  · subst e
    refine kj_seL h (fun h => ?_)
    refine kj_iconst F dX6_readRows_29 (v := 0) (by decide) ?_
    exact kj_zret F dX6_readRows_30 (by decide) h
  · subst e
    refine kj_seR h (fun h => ?_)
    refine kj_iconst F dX6_readRows_43 (v := 1) (by decide) ?_
    exact kj_zret F dX6_readRows_44 (by decide) h
theorem ct_readRows {l : Launch} {D : va_G} {cA : Nat → ClassId} {h0 : Nat} {q : Nat → Nat} {P : va_W} {z : kx_S} {o : (Int32 × kx_S)} (h : ft_readRows z = some o) : kj_Mi l yX6_readRows wsX6_readRows rm_X6_readRows D (kx_T cA) (kx_W cA h0 q P) z [.ref (q 0)] o :=
  fun sz => kj_start (by decide) rfl (Nat.le_of_ble_eq_true rfl) rfl fun p e s m args below meth c hsz F => jt_readRows F h
/-! X6_readDiagonals -/
abbrev rm_X6_readDiagonals : Room := { frames := 3, cells := 0, slots := 0, locals := 71 }
theorem in_X6_readDiagonals_X6 : ∀ w ∈ u_ws RX6 TX6 8, w ∈ wsX6_readDiagonals := by decide +kernel
def ft_readDiagonals_22 (x1 : Int32) (x2 : Int32) (z : kx_S) : Option ((Int32 × Int32 × kx_S) ⊕ (kx_S ⊕ (Int32 × kx_S))) :=
  if (z.1 1) ≤ x2 then
  some (.inr (.inr (x1, z)))
  else
  if (z.1 2) ≤ (x2 + x1) then
  some (.inr (.inr (x1, z)))
  else
  (ft_readHeight x2 (x2 + x1) z).bind fun o1 =>
  if (o1.1) = 0 then
  some (.inr (.inl (o1.2)))
  else
  some (.inl (x1, (x2 + 1), (o1.2)))
def lt_readDiagonals_22 (n : Nat) (x1 : Int32) (x2 : Int32) (z : kx_S) : Option (kx_S ⊕ (Int32 × kx_S)) :=
  kj_it (fun (s : (Int32 × Int32 × kx_S)) => ft_readDiagonals_22 (s.1) (s.2.1) (s.2.2)) n (x1, x2, z)
def ft_readDiagonals_59 (x1 : Int32) (z : kx_S) : Option ((Int32 × kx_S) ⊕ (kx_S ⊕ kx_S)) :=
  some (.inl ((x1 + 1), z))
def ft_readDiagonals_7 (x1 : Int32) (z : kx_S) : Option ((Int32 × kx_S) ⊕ (kx_S ⊕ kx_S)) :=
  if (z.1 2) ≤ x1 then
  some (.inr (.inr z))
  else
  (lt_readDiagonals_22 5000 x1 (if (0 : Int32) < (-x1) then (-x1) else (0 : Int32)) z).bind fun r1 => kj_se r1 (fun a2 => some (.inr (.inl (a2)))) (fun b3 => ft_readDiagonals_59 (b3.1) (b3.2))
def lt_readDiagonals_7 (n : Nat) (x1 : Int32) (z : kx_S) : Option (kx_S ⊕ kx_S) :=
  kj_it (fun (s : (Int32 × kx_S)) => ft_readDiagonals_7 (s.1) (s.2)) n (x1, z)
def ft_readDiagonals (z : kx_S) : Option (Int32 × kx_S) :=
  (lt_readDiagonals_7 5000 ((1 : Int32) - (z.1 1)) z).bind fun r1 => kj_se r1 (fun a2 => some ((0 : Int32), (a2))) (fun b3 => some ((1 : Int32), (b3)))
set_option maxRecDepth 20000 in
theorem jt_readDiagonals_22 {p : Program} {l : Launch} {e : Env} {s : State} {m : MethodId} {args : Array Value} {below : List Frame} {meth : Method} {c : Code} {A : Nat → Prop} {D : va_G} {cA : Nat → ClassId} {h0 : Nat} {q : Nat → Nat} {P : va_W} {Q : State → Prop} (F : kj_Fx p s m args meth c cX6_readDiagonals 3 wsX6_readDiagonals RX6 (some .boolean) D (kx_T cA) A) {x1 : Int32} {x2 : Int32} {z : kx_S} {o : ((Int32 × Int32 × kx_S) ⊕ (kx_S ⊕ (Int32 × kx_S)))} (h : ft_readDiagonals_22 x1 x2 z = some o) (kb : ∀ (a0' : Int32) (a1' : Int32) (a2' : kx_S), o = .inl (a0', a1', a2') → kj_J p l e rm_X6_readDiagonals s m args below meth c 0 0 Q 3 D A ((kx_W cA h0 q P) a2') 22 [(0, .ref (q 0)), (1, .int a0'), (2, .int a1')] []) (ke0 : ∀ (a0' : kx_S), o = .inr (.inl a0') → kj_J p l e rm_X6_readDiagonals s m args below meth c 0 0 Q 3 D A ((kx_W cA h0 q P) a0') 51 [] []) (ke1 : ∀ (a0' : Int32) (a1' : kx_S), o = .inr (.inr (a0', a1')) → kj_J p l e rm_X6_readDiagonals s m args below meth c 0 0 Q 3 D A ((kx_W cA h0 q P) a1') 59 [(0, .ref (q 0)), (1, .int a0')] []) : kj_J p l e rm_X6_readDiagonals s m args below meth c 0 0 Q 3 D A ((kx_W cA h0 q P) z) 22 [(0, .ref (q 0)), (1, .int x1), (2, .int x2)] [] := by
  unfold ft_readDiagonals_22 at h
  refine kj_iload_n F dX6_readDiagonals_22 2 rfl rfl ?_
  refine kj_aload_n F dX6_readDiagonals_23 0 rfl rfl ?_
  refine kj_get F dX6_readDiagonals_24 in_X6_readDiagonals_X6 1 rfl rfl 2 (by decide) (by decide +kernel) rfl rfl ?_
  refine kj_icmp_ge F dX6_readDiagonals_27 (tgt := 59) (by decide) h (fun hc h => ?_) (fun hc h => ?_)
  · refine kj_J.sub [0, 1] rfl ?_
    exact ke1 x1 z (Option.some.inj h).symm
  · refine kj_iload_n F dX6_readDiagonals_30 2 rfl rfl ?_
    refine kj_iload_n F dX6_readDiagonals_31 1 rfl rfl ?_
    refine kj_iadd F dX6_readDiagonals_32 ?_
    refine kj_aload_n F dX6_readDiagonals_33 0 rfl rfl ?_
    refine kj_get F dX6_readDiagonals_34 in_X6_readDiagonals_X6 1 rfl rfl 3 (by decide) (by decide +kernel) rfl rfl ?_
    refine kj_icmp_ge F dX6_readDiagonals_37 (tgt := 59) (by decide) h (fun hc h => ?_) (fun hc h => ?_)
    · refine kj_J.sub [0, 1] rfl ?_
      exact ke1 x1 z (Option.some.inj h).symm
    · refine kj_aload_n F dX6_readDiagonals_40 0 rfl rfl ?_
      refine kj_iload_n F dX6_readDiagonals_41 2 rfl rfl ?_
      refine kj_iload_n F dX6_readDiagonals_42 2 rfl rfl ?_
      refine kj_iload_n F dX6_readDiagonals_43 1 rfl rfl ?_
      refine kj_iadd F dX6_readDiagonals_44 ?_
      refine kj_cVi (As := [.int x2, .int (x2 + x1)]) (rest := []) F dX6_readDiagonals_45 h (fun o h1 => ct_readHeight h1) (cwV 2 F.2.2.2.2.1 gX6_readDiagonals_X6_readHeight rfl rfl rfl (by decide +kernel) ⟨Nat.le_of_ble_eq_true rfl, Nat.le_of_ble_eq_true rfl⟩) 1 rfl rfl rfl rfl rfl (Nat.le_of_ble_eq_true rfl) ⟨Nat.zero_le _, Nat.zero_le _⟩ (fun o1 h => ?_)
      refine kj_if_ne F dX6_readDiagonals_48 (tgt := 53) (by decide) h (fun hc h => ?_) (fun hc h => ?_)
      · refine kj_J.sub [] rfl ?_
        exact ke0 (o1.2) (Option.some.inj h).symm
      · refine kj_iinc F dX6_readDiagonals_53 2 rfl (v := 1) (by decide) (by decide) (lv' := [(2, .int (x2 + 1)), (0, .ref (q 0)), (1, .int x1)]) rfl ?_
        refine kj_goto F dX6_readDiagonals_56 (tgt := 22) (by decide) ?_
        refine kj_J.sub [1, 2, 0] rfl ?_
        exact kb x1 (x2 + 1) (o1.2) (Option.some.inj h).symm
theorem jlt_readDiagonals_22 {p : Program} {l : Launch} {e : Env} {s : State} {m : MethodId} {args : Array Value} {below : List Frame} {meth : Method} {c : Code} {A : Nat → Prop} {D : va_G} {cA : Nat → ClassId} {h0 : Nat} {q : Nat → Nat} {P : va_W} {Q : State → Prop} (F : kj_Fx p s m args meth c cX6_readDiagonals 3 wsX6_readDiagonals RX6 (some .boolean) D (kx_T cA) A) {n : Nat} {x1 : Int32} {x2 : Int32} {z : kx_S} {r : (kx_S ⊕ (Int32 × kx_S))} (h : lt_readDiagonals_22 n x1 x2 z = some r) (ke : (∀ a, r = (.inl a) → kj_J p l e rm_X6_readDiagonals s m args below meth c 0 0 Q 3 D A ((kx_W cA h0 q P) (a)) 51 [] []) ∧ (∀ a, r = (.inr a) → kj_J p l e rm_X6_readDiagonals s m args below meth c 0 0 Q 3 D A ((kx_W cA h0 q P) (a.2)) 59 [(0, .ref (q 0)), (1, .int (a.1))] [])) : kj_J p l e rm_X6_readDiagonals s m args below meth c 0 0 Q 3 D A ((kx_W cA h0 q P) z) 22 [(0, .ref (q 0)), (1, .int x1), (2, .int x2)] [] :=
  kj_it_J (Wh := fun (u : (Int32 × Int32 × kx_S)) => kj_J p l e rm_X6_readDiagonals s m args below meth c 0 0 Q 3 D A ((kx_W cA h0 q P) (u.2.2)) 22 [(0, .ref (q 0)), (1, .int (u.1)), (2, .int (u.2.1))] []) (We := fun r => (∀ a, r = (.inl a) → kj_J p l e rm_X6_readDiagonals s m args below meth c 0 0 Q 3 D A ((kx_W cA h0 q P) (a)) 51 [] []) ∧ (∀ a, r = (.inr a) → kj_J p l e rm_X6_readDiagonals s m args below meth c 0 0 Q 3 D A ((kx_W cA h0 q P) (a.2)) 59 [(0, .ref (q 0)), (1, .int (a.1))] [])) (fun u o h kb ke => jt_readDiagonals_22 F h (fun a0' a1' a2' e => kb (a0', a1', a2') e) (fun a0' e => (ke (.inl a0') e).1 a0' rfl) (fun a0' a1' e => (ke (.inr (a0', a1')) e).2 (a0', a1') rfl)) n (x1, x2, z) r h ke
set_option maxRecDepth 20000 in
theorem jt_readDiagonals_59 {p : Program} {l : Launch} {e : Env} {s : State} {m : MethodId} {args : Array Value} {below : List Frame} {meth : Method} {c : Code} {A : Nat → Prop} {D : va_G} {cA : Nat → ClassId} {h0 : Nat} {q : Nat → Nat} {P : va_W} {Q : State → Prop} (F : kj_Fx p s m args meth c cX6_readDiagonals 3 wsX6_readDiagonals RX6 (some .boolean) D (kx_T cA) A) {x1 : Int32} {z : kx_S} {o : ((Int32 × kx_S) ⊕ (kx_S ⊕ kx_S))} (h : ft_readDiagonals_59 x1 z = some o) (kb : ∀ (a0' : Int32) (a1' : kx_S), o = .inl (a0', a1') → kj_J p l e rm_X6_readDiagonals s m args below meth c 0 0 Q 3 D A ((kx_W cA h0 q P) a1') 7 [(0, .ref (q 0)), (1, .int a0')] []) (ke0 : ∀ (a0' : kx_S), o = .inr (.inl a0') → kj_J p l e rm_X6_readDiagonals s m args below meth c 0 0 Q 3 D A ((kx_W cA h0 q P) a0') 51 [] []) (ke1 : ∀ (a0' : kx_S), o = .inr (.inr a0') → kj_J p l e rm_X6_readDiagonals s m args below meth c 0 0 Q 3 D A ((kx_W cA h0 q P) a0') 65 [] []) : kj_J p l e rm_X6_readDiagonals s m args below meth c 0 0 Q 3 D A ((kx_W cA h0 q P) z) 59 [(0, .ref (q 0)), (1, .int x1)] [] := by
  unfold ft_readDiagonals_59 at h
  refine kj_iinc F dX6_readDiagonals_59 1 rfl (v := 1) (by decide) (by decide) (lv' := [(1, .int (x1 + 1)), (0, .ref (q 0))]) rfl ?_
  refine kj_goto F dX6_readDiagonals_62 (tgt := 7) (by decide) ?_
  refine kj_J.sub [1, 0] rfl ?_
  exact kb (x1 + 1) z (Option.some.inj h).symm
set_option maxRecDepth 20000 in
theorem jt_readDiagonals_7 {p : Program} {l : Launch} {e : Env} {s : State} {m : MethodId} {args : Array Value} {below : List Frame} {meth : Method} {c : Code} {A : Nat → Prop} {D : va_G} {cA : Nat → ClassId} {h0 : Nat} {q : Nat → Nat} {P : va_W} {Q : State → Prop} (F : kj_Fx p s m args meth c cX6_readDiagonals 3 wsX6_readDiagonals RX6 (some .boolean) D (kx_T cA) A) {x1 : Int32} {z : kx_S} {o : ((Int32 × kx_S) ⊕ (kx_S ⊕ kx_S))} (h : ft_readDiagonals_7 x1 z = some o) (kb : ∀ (a0' : Int32) (a1' : kx_S), o = .inl (a0', a1') → kj_J p l e rm_X6_readDiagonals s m args below meth c 0 0 Q 3 D A ((kx_W cA h0 q P) a1') 7 [(0, .ref (q 0)), (1, .int a0')] []) (ke0 : ∀ (a0' : kx_S), o = .inr (.inl a0') → kj_J p l e rm_X6_readDiagonals s m args below meth c 0 0 Q 3 D A ((kx_W cA h0 q P) a0') 51 [] []) (ke1 : ∀ (a0' : kx_S), o = .inr (.inr a0') → kj_J p l e rm_X6_readDiagonals s m args below meth c 0 0 Q 3 D A ((kx_W cA h0 q P) a0') 65 [] []) : kj_J p l e rm_X6_readDiagonals s m args below meth c 0 0 Q 3 D A ((kx_W cA h0 q P) z) 7 [(0, .ref (q 0)), (1, .int x1)] [] := by
  unfold ft_readDiagonals_7 at h
  refine kj_iload_n F dX6_readDiagonals_7 1 rfl rfl ?_
  refine kj_aload_n F dX6_readDiagonals_8 0 rfl rfl ?_
  refine kj_get F dX6_readDiagonals_9 in_X6_readDiagonals_X6 1 rfl rfl 3 (by decide) (by decide +kernel) rfl rfl ?_
  refine kj_icmp_ge F dX6_readDiagonals_12 (tgt := 65) (by decide) h (fun hc h => ?_) (fun hc h => ?_)
  · refine kj_J.sub [] rfl ?_
    exact ke1 z (Option.some.inj h).symm
  · refine kj_iconst F dX6_readDiagonals_15 (v := 0) (by decide) ?_
    refine kj_iload_n F dX6_readDiagonals_16 1 rfl rfl ?_
    refine kj_ineg F dX6_readDiagonals_17 ?_
    refine kj_mmax F dX6_readDiagonals_18 (by decide +kernel) (by decide +kernel) (by decide +kernel) (by decide +kernel) (Nat.le_of_ble_eq_true rfl) (Nat.le_of_ble_eq_true rfl) ⟨Nat.zero_le _, Nat.zero_le _⟩ ?_
    refine kj_istore_n F dX6_readDiagonals_21 (lv' := [(2, .int (if (0 : Int32) < (-x1) then (-x1) else (0 : Int32))), (0, .ref (q 0)), (1, .int x1)]) rfl (by decide) rfl ?_
    refine kj_J.sub [1, 2, 0] rfl ?_
    refine kj_bn h (fun r1 h1 h => ?_)
    refine jlt_readDiagonals_22 F h1 ?_
    refine ⟨fun a2 e => ?_, fun b3 e => ?_⟩
    · subst e
      refine kj_seL h (fun h => ?_)
      exact ke0 (a2) (Option.some.inj h).symm
    · subst e
      refine kj_seR h (fun h => ?_)
      exact jt_readDiagonals_59 F h kb ke0 ke1
theorem jlt_readDiagonals_7 {p : Program} {l : Launch} {e : Env} {s : State} {m : MethodId} {args : Array Value} {below : List Frame} {meth : Method} {c : Code} {A : Nat → Prop} {D : va_G} {cA : Nat → ClassId} {h0 : Nat} {q : Nat → Nat} {P : va_W} {Q : State → Prop} (F : kj_Fx p s m args meth c cX6_readDiagonals 3 wsX6_readDiagonals RX6 (some .boolean) D (kx_T cA) A) {n : Nat} {x1 : Int32} {z : kx_S} {r : (kx_S ⊕ kx_S)} (h : lt_readDiagonals_7 n x1 z = some r) (ke : (∀ a, r = (.inl a) → kj_J p l e rm_X6_readDiagonals s m args below meth c 0 0 Q 3 D A ((kx_W cA h0 q P) (a)) 51 [] []) ∧ (∀ a, r = (.inr a) → kj_J p l e rm_X6_readDiagonals s m args below meth c 0 0 Q 3 D A ((kx_W cA h0 q P) (a)) 65 [] [])) : kj_J p l e rm_X6_readDiagonals s m args below meth c 0 0 Q 3 D A ((kx_W cA h0 q P) z) 7 [(0, .ref (q 0)), (1, .int x1)] [] :=
  kj_it_J (Wh := fun (u : (Int32 × kx_S)) => kj_J p l e rm_X6_readDiagonals s m args below meth c 0 0 Q 3 D A ((kx_W cA h0 q P) (u.2)) 7 [(0, .ref (q 0)), (1, .int (u.1))] []) (We := fun r => (∀ a, r = (.inl a) → kj_J p l e rm_X6_readDiagonals s m args below meth c 0 0 Q 3 D A ((kx_W cA h0 q P) (a)) 51 [] []) ∧ (∀ a, r = (.inr a) → kj_J p l e rm_X6_readDiagonals s m args below meth c 0 0 Q 3 D A ((kx_W cA h0 q P) (a)) 65 [] [])) (fun u o h kb ke => jt_readDiagonals_7 F h (fun a0' a1' e => kb (a0', a1') e) (fun a0' e => (ke (.inl a0') e).1 a0' rfl) (fun a0' e => (ke (.inr a0') e).2 a0' rfl)) n (x1, z) r h ke
set_option maxRecDepth 20000 in
theorem jt_readDiagonals {p : Program} {l : Launch} {e : Env} {s : State} {m : MethodId} {args : Array Value} {below : List Frame} {meth : Method} {c : Code} {A : Nat → Prop} {D : va_G} {cA : Nat → ClassId} {h0 : Nat} {q : Nat → Nat} {P : va_W} (F : kj_Fx p s m args meth c cX6_readDiagonals 3 wsX6_readDiagonals RX6 (some .boolean) D (kx_T cA) A) {z : kx_S} {o : (Int32 × kx_S)} (h : ft_readDiagonals z = some o) : kj_J p l e rm_X6_readDiagonals s m args below meth c 0 0 (MQ below (kj_Qi D (kx_T cA) A (kx_W cA h0 q P) o) args s 0 0 A) 3 D A ((kx_W cA h0 q P) z) 0 [(0, .ref (q 0))] [] := by
  unfold ft_readDiagonals at h
  refine kj_iconst F dX6_readDiagonals_0 (v := 1) (by decide) ?_
  refine kj_aload_n F dX6_readDiagonals_1 0 rfl rfl ?_
  refine kj_get F dX6_readDiagonals_2 in_X6_readDiagonals_X6 1 rfl rfl 2 (by decide) (by decide +kernel) rfl rfl ?_
  refine kj_isub F dX6_readDiagonals_5 ?_
  refine kj_istore_n F dX6_readDiagonals_6 (lv' := [(1, .int ((1 : Int32) - (z.1 1))), (0, .ref (q 0))]) rfl (by decide) rfl ?_
  refine kj_J.sub [1, 0] rfl ?_
  refine kj_bn h (fun r1 h1 h => ?_)
  refine jlt_readDiagonals_7 F h1 ?_
  refine ⟨fun a2 e => ?_, fun b3 e => ?_⟩
  · subst e
    refine kj_seL h (fun h => ?_)
    refine kj_iconst F dX6_readDiagonals_51 (v := 0) (by decide) ?_
    exact kj_zret F dX6_readDiagonals_52 (by decide) h
  · subst e
    refine kj_seR h (fun h => ?_)
    refine kj_iconst F dX6_readDiagonals_65 (v := 1) (by decide) ?_
    exact kj_zret F dX6_readDiagonals_66 (by decide) h
theorem ct_readDiagonals {l : Launch} {D : va_G} {cA : Nat → ClassId} {h0 : Nat} {q : Nat → Nat} {P : va_W} {z : kx_S} {o : (Int32 × kx_S)} (h : ft_readDiagonals z = some o) : kj_Mi l yX6_readDiagonals wsX6_readDiagonals rm_X6_readDiagonals D (kx_T cA) (kx_W cA h0 q P) z [.ref (q 0)] o :=
  fun sz => kj_start (by decide) rfl (Nat.le_of_ble_eq_true rfl) rfl fun p e s m args below meth c hsz F => jt_readDiagonals F h
/-! X6_readWord -/
abbrev rm_X6_readWord : Room := { frames := 2, cells := 0, slots := 0, locals := 49 }
theorem in_X6_readWord_X6 : ∀ w ∈ u_ws RX6 TX6 8, w ∈ wsX6_readWord := by decide +kernel
def ft_readWord_96 (x1 : Int32) (x2 : Int32) (x3 : Int32) (x4 : Int32) (z : kx_S) : Option ((Int32 × Int32 × Int32 × Int32 × kx_S) ⊕ (kx_S ⊕ (kx_S ⊕ (kx_S ⊕ kx_S)))) :=
  (kx_pI z 5 ((z.1 5) + (1 : Int32))).bind fun z1 =>
  some (.inl (x1, x2, x3, (x4 + 1), z1))
def ft_readWord_10 (x1 : Int32) (x2 : Int32) (x3 : Int32) (x4 : Int32) (z : kx_S) : Option ((Int32 × Int32 × Int32 × Int32 × kx_S) ⊕ (kx_S ⊕ (kx_S ⊕ (kx_S ⊕ kx_S)))) :=
  if ((z.1 2) + (z.1 3)) ≤ x4 then
  some (.inr (.inr (.inr (.inr z))))
  else
  (ft_sign z).bind fun o1 =>
  if (o1.1) = (101 : Int32) then
  if ((o1.2).1 2) ≤ x2 then
  some (.inr (.inl (o1.2)))
  else
  (ft_tell x1 x2 x3 (o1.2)).bind fun o2 =>
  if (o2.1) = 0 then
  some (.inr (.inl (o2.2)))
  else
  ft_readWord_96 x1 (x2 + 1) x3 x4 (o2.2)
  else
  if (o1.1) = (110 : Int32) then
  if 0 < x3 then
  ft_readWord_96 x1 x2 (x3 + (-1)) x4 (o1.2)
  else
  some (.inr (.inr (.inl (o1.2))))
  else
  some (.inr (.inr (.inr (.inl (o1.2)))))
def lt_readWord_10 (n : Nat) (x1 : Int32) (x2 : Int32) (x3 : Int32) (x4 : Int32) (z : kx_S) : Option (kx_S ⊕ (kx_S ⊕ (kx_S ⊕ kx_S))) :=
  kj_it (fun (s : (Int32 × Int32 × Int32 × Int32 × kx_S)) => ft_readWord_10 (s.1) (s.2.1) (s.2.2.1) (s.2.2.2.1) (s.2.2.2.2)) n (x1, x2, x3, x4, z)
def ft_readWord_55 (z : kx_S) : Option (Int32 × kx_S) :=
  (ft_failed (2 : Int32) z).bind fun o1 =>
  if (o1.1) = 0 ∨ (o1.1) = 1 then some ((o1.1), (o1.2)) else none
def ft_readWord (x1 : Int32) (z : kx_S) : Option (Int32 × kx_S) :=
  (lt_readWord_10 5000 x1 (0 : Int32) (z.1 3) (0 : Int32) z).bind fun r1 => kj_se r1 (fun a2 => ft_readWord_55 (a2)) (fun b3 => kj_se b3 (fun a4 => (ft_failed (2 : Int32) (a4)).bind fun o6 =>
  if (o6.1) = 0 ∨ (o6.1) = 1 then some ((o6.1), (o6.2)) else none) (fun b5 => kj_se b5 (fun a7 => (ft_failed (1 : Int32) (a7)).bind fun o9 =>
  if (o9.1) = 0 ∨ (o9.1) = 1 then some ((o9.1), (o9.2)) else none) (fun b8 => (ft_isLetter (b8)).bind fun o10 =>
  if (o10.1) = 0 then
  some ((1 : Int32), (o10.2))
  else
  (ft_failed (2 : Int32) (o10.2)).bind fun o11 =>
  if (o11.1) = 0 then
  some ((0 : Int32), (o11.2))
  else
  some ((1 : Int32), (o11.2)))))
set_option maxRecDepth 20000 in
theorem jt_readWord_96 {p : Program} {l : Launch} {e : Env} {s : State} {m : MethodId} {args : Array Value} {below : List Frame} {meth : Method} {c : Code} {A : Nat → Prop} {D : va_G} {cA : Nat → ClassId} {h0 : Nat} {q : Nat → Nat} {P : va_W} {Q : State → Prop} (F : kj_Fx p s m args meth c cX6_readWord 6 wsX6_readWord RX6 (some .boolean) D (kx_T cA) A) {x1 : Int32} {x2 : Int32} {x3 : Int32} {x4 : Int32} {z : kx_S} {o : ((Int32 × Int32 × Int32 × Int32 × kx_S) ⊕ (kx_S ⊕ (kx_S ⊕ (kx_S ⊕ kx_S))))} (h : ft_readWord_96 x1 x2 x3 x4 z = some o) (kb : ∀ (a0' : Int32) (a1' : Int32) (a2' : Int32) (a3' : Int32) (a4' : kx_S), o = .inl (a0', a1', a2', a3', a4') → kj_J p l e rm_X6_readWord s m args below meth c 0 0 Q 6 D A ((kx_W cA h0 q P) a4') 10 [(0, .ref (q 0)), (1, .int a0'), (2, .int a1'), (3, .int a2'), (4, .int a3')] []) (ke0 : ∀ (a0' : kx_S), o = .inr (.inl a0') → kj_J p l e rm_X6_readWord s m args below meth c 0 0 Q 6 D A ((kx_W cA h0 q P) a0') 55 [(0, .ref (q 0))] []) (ke1 : ∀ (a0' : kx_S), o = .inr (.inr (.inl a0')) → kj_J p l e rm_X6_readWord s m args below meth c 0 0 Q 6 D A ((kx_W cA h0 q P) a0') 78 [(0, .ref (q 0))] []) (ke2 : ∀ (a0' : kx_S), o = .inr (.inr (.inr (.inl a0'))) → kj_J p l e rm_X6_readWord s m args below meth c 0 0 Q 6 D A ((kx_W cA h0 q P) a0') 90 [(0, .ref (q 0))] []) (ke3 : ∀ (a0' : kx_S), o = .inr (.inr (.inr (.inr a0'))) → kj_J p l e rm_X6_readWord s m args below meth c 0 0 Q 6 D A ((kx_W cA h0 q P) a0') 112 [(0, .ref (q 0))] []) : kj_J p l e rm_X6_readWord s m args below meth c 0 0 Q 6 D A ((kx_W cA h0 q P) z) 96 [(0, .ref (q 0)), (1, .int x1), (2, .int x2), (3, .int x3), (4, .int x4)] [] := by
  unfold ft_readWord_96 at h
  refine kj_aload_n F dX6_readWord_96 0 rfl rfl ?_
  refine kj_dup F dX6_readWord_97 rfl ?_
  refine kj_get F dX6_readWord_98 in_X6_readWord_X6 1 rfl rfl 6 (by decide) (by decide +kernel) rfl rfl ?_
  refine kj_iconst F dX6_readWord_101 (v := 1) (by decide) ?_
  refine kj_iadd F dX6_readWord_102 ?_
  refine kx_pt F dX6_readWord_103 in_X6_readWord_X6 tyX6 tyX6_ok nmX6 1 rfl rfl 6 5 (by decide) (by decide +kernel) rfl rfl (by decide +kernel) (Nat.le_of_ble_eq_true rfl) (kx_put5 cA h0 q P _ _) h (fun z1 h => ?_)
  refine kj_iinc F dX6_readWord_106 4 rfl (v := 1) (by decide) (by decide) (lv' := [(4, .int (x4 + 1)), (0, .ref (q 0)), (1, .int x1), (2, .int x2), (3, .int x3)]) rfl ?_
  refine kj_goto F dX6_readWord_109 (tgt := 10) (by decide) ?_
  refine kj_J.sub [1, 2, 3, 4, 0] rfl ?_
  exact kb x1 x2 x3 (x4 + 1) z1 (Option.some.inj h).symm
set_option maxRecDepth 20000 in
theorem jt_readWord_10 {p : Program} {l : Launch} {e : Env} {s : State} {m : MethodId} {args : Array Value} {below : List Frame} {meth : Method} {c : Code} {A : Nat → Prop} {D : va_G} {cA : Nat → ClassId} {h0 : Nat} {q : Nat → Nat} {P : va_W} {Q : State → Prop} (F : kj_Fx p s m args meth c cX6_readWord 6 wsX6_readWord RX6 (some .boolean) D (kx_T cA) A) {x1 : Int32} {x2 : Int32} {x3 : Int32} {x4 : Int32} {z : kx_S} {o : ((Int32 × Int32 × Int32 × Int32 × kx_S) ⊕ (kx_S ⊕ (kx_S ⊕ (kx_S ⊕ kx_S))))} (h : ft_readWord_10 x1 x2 x3 x4 z = some o) (kb : ∀ (a0' : Int32) (a1' : Int32) (a2' : Int32) (a3' : Int32) (a4' : kx_S), o = .inl (a0', a1', a2', a3', a4') → kj_J p l e rm_X6_readWord s m args below meth c 0 0 Q 6 D A ((kx_W cA h0 q P) a4') 10 [(0, .ref (q 0)), (1, .int a0'), (2, .int a1'), (3, .int a2'), (4, .int a3')] []) (ke0 : ∀ (a0' : kx_S), o = .inr (.inl a0') → kj_J p l e rm_X6_readWord s m args below meth c 0 0 Q 6 D A ((kx_W cA h0 q P) a0') 55 [(0, .ref (q 0))] []) (ke1 : ∀ (a0' : kx_S), o = .inr (.inr (.inl a0')) → kj_J p l e rm_X6_readWord s m args below meth c 0 0 Q 6 D A ((kx_W cA h0 q P) a0') 78 [(0, .ref (q 0))] []) (ke2 : ∀ (a0' : kx_S), o = .inr (.inr (.inr (.inl a0'))) → kj_J p l e rm_X6_readWord s m args below meth c 0 0 Q 6 D A ((kx_W cA h0 q P) a0') 90 [(0, .ref (q 0))] []) (ke3 : ∀ (a0' : kx_S), o = .inr (.inr (.inr (.inr a0'))) → kj_J p l e rm_X6_readWord s m args below meth c 0 0 Q 6 D A ((kx_W cA h0 q P) a0') 112 [(0, .ref (q 0))] []) : kj_J p l e rm_X6_readWord s m args below meth c 0 0 Q 6 D A ((kx_W cA h0 q P) z) 10 [(0, .ref (q 0)), (1, .int x1), (2, .int x2), (3, .int x3), (4, .int x4)] [] := by
  unfold ft_readWord_10 at h
  refine kj_iload F dX6_readWord_10 4 rfl ?_
  refine kj_aload_n F dX6_readWord_12 0 rfl rfl ?_
  refine kj_get F dX6_readWord_13 in_X6_readWord_X6 1 rfl rfl 3 (by decide) (by decide +kernel) rfl rfl ?_
  refine kj_aload_n F dX6_readWord_16 0 rfl rfl ?_
  refine kj_get F dX6_readWord_17 in_X6_readWord_X6 1 rfl rfl 4 (by decide) (by decide +kernel) rfl rfl ?_
  refine kj_iadd F dX6_readWord_20 ?_
  refine kj_icmp_ge F dX6_readWord_21 (tgt := 112) (by decide) h (fun hc h => ?_) (fun hc h => ?_)
  · refine kj_J.sub [0] rfl ?_
    exact ke3 z (Option.some.inj h).symm
  · refine kj_aload_n F dX6_readWord_24 0 rfl rfl ?_
    refine kj_cVi (As := []) (rest := []) F dX6_readWord_25 h (fun o h1 => ct_sign h1) (cwV 0 F.2.2.2.2.1 gX6_readWord_X6_sign rfl rfl rfl (by decide +kernel) ⟨Nat.le_of_ble_eq_true rfl, Nat.le_of_ble_eq_true rfl⟩) 1 rfl rfl rfl rfl rfl (Nat.le_of_ble_eq_true rfl) ⟨Nat.zero_le _, Nat.zero_le _⟩ (fun o1 h => ?_)
    refine kj_istore F dX6_readWord_28 (lv' := [(5, .int (o1.1)), (0, .ref (q 0)), (1, .int x1), (2, .int x2), (3, .int x3), (4, .int x4)]) (by decide) rfl ?_
    refine kj_iload F dX6_readWord_30 0 rfl ?_
    refine kj_bipush F dX6_readWord_32 (v := 101) (by decide) ?_
    refine kj_icmp_ne F dX6_readWord_34 (tgt := 67) (by decide) h (fun hc h => ?_) (fun hc h => ?_)
    · refine kj_iload_n F dX6_readWord_37 3 rfl rfl ?_
      refine kj_aload_n F dX6_readWord_38 1 rfl rfl ?_
      refine kj_get F dX6_readWord_39 in_X6_readWord_X6 1 rfl rfl 3 (by decide) (by decide +kernel) rfl rfl ?_
      refine kj_icmp_ge F dX6_readWord_42 (tgt := 55) (by decide) h (fun hc h => ?_) (fun hc h => ?_)
      · refine kj_J.sub [1] rfl ?_
        exact ke0 (o1.2) (Option.some.inj h).symm
      · refine kj_aload_n F dX6_readWord_45 1 rfl rfl ?_
        refine kj_iload_n F dX6_readWord_46 2 rfl rfl ?_
        refine kj_iload_n F dX6_readWord_47 3 rfl rfl ?_
        refine kj_iload_n F dX6_readWord_48 4 rfl rfl ?_
        refine kj_cVi (As := [.int x1, .int x2, .int x3]) (rest := []) F dX6_readWord_49 h (fun o h1 => ct_tell h1) (cwV 3 F.2.2.2.2.1 gX6_readWord_X6_tell rfl rfl rfl (by decide +kernel) ⟨Nat.le_of_ble_eq_true rfl, Nat.le_of_ble_eq_true rfl⟩) 1 rfl rfl rfl rfl rfl (Nat.le_of_ble_eq_true rfl) ⟨Nat.zero_le _, Nat.zero_le _⟩ (fun o2 h => ?_)
        refine kj_if_ne F dX6_readWord_52 (tgt := 61) (by decide) h (fun hc h => ?_) (fun hc h => ?_)
        · refine kj_J.sub [1] rfl ?_
          exact ke0 (o2.2) (Option.some.inj h).symm
        · refine kj_iinc F dX6_readWord_61 3 rfl (v := 1) (by decide) (by decide) (lv' := [(2, .int (x2 + 1)), (5, .int (o1.1)), (0, .ref (q 0)), (1, .int x1), (3, .int x3), (4, .int x4)]) rfl ?_
          refine kj_goto F dX6_readWord_64 (tgt := 96) (by decide) ?_
          refine kj_J.sub [2, 3, 0, 4, 5] rfl ?_
          exact jt_readWord_96 F h kb ke0 ke1 ke2 ke3
    · refine kj_iload F dX6_readWord_67 0 rfl ?_
      refine kj_bipush F dX6_readWord_69 (v := 110) (by decide) ?_
      refine kj_icmp_ne F dX6_readWord_71 (tgt := 90) (by decide) h (fun hc h => ?_) (fun hc h => ?_)
      · refine kj_iload_n F dX6_readWord_74 4 rfl rfl ?_
        refine kj_if_gt F dX6_readWord_75 (tgt := 84) (by decide) h (fun hc h => ?_) (fun hc h => ?_)
        · refine kj_iinc F dX6_readWord_84 4 rfl (v := (-1)) (by decide) (by decide) (lv' := [(3, .int (x3 + (-1))), (5, .int (o1.1)), (0, .ref (q 0)), (1, .int x1), (2, .int x2), (4, .int x4)]) rfl ?_
          refine kj_goto F dX6_readWord_87 (tgt := 96) (by decide) ?_
          refine kj_J.sub [2, 3, 4, 0, 5] rfl ?_
          exact jt_readWord_96 F h kb ke0 ke1 ke2 ke3
        · refine kj_J.sub [1] rfl ?_
          exact ke1 (o1.2) (Option.some.inj h).symm
      · refine kj_J.sub [1] rfl ?_
        exact ke2 (o1.2) (Option.some.inj h).symm
theorem jlt_readWord_10 {p : Program} {l : Launch} {e : Env} {s : State} {m : MethodId} {args : Array Value} {below : List Frame} {meth : Method} {c : Code} {A : Nat → Prop} {D : va_G} {cA : Nat → ClassId} {h0 : Nat} {q : Nat → Nat} {P : va_W} {Q : State → Prop} (F : kj_Fx p s m args meth c cX6_readWord 6 wsX6_readWord RX6 (some .boolean) D (kx_T cA) A) {n : Nat} {x1 : Int32} {x2 : Int32} {x3 : Int32} {x4 : Int32} {z : kx_S} {r : (kx_S ⊕ (kx_S ⊕ (kx_S ⊕ kx_S)))} (h : lt_readWord_10 n x1 x2 x3 x4 z = some r) (ke : (∀ a, r = (.inl a) → kj_J p l e rm_X6_readWord s m args below meth c 0 0 Q 6 D A ((kx_W cA h0 q P) (a)) 55 [(0, .ref (q 0))] []) ∧ (∀ a, r = (.inr (.inl a)) → kj_J p l e rm_X6_readWord s m args below meth c 0 0 Q 6 D A ((kx_W cA h0 q P) (a)) 78 [(0, .ref (q 0))] []) ∧ (∀ a, r = (.inr (.inr (.inl a))) → kj_J p l e rm_X6_readWord s m args below meth c 0 0 Q 6 D A ((kx_W cA h0 q P) (a)) 90 [(0, .ref (q 0))] []) ∧ (∀ a, r = (.inr (.inr (.inr a))) → kj_J p l e rm_X6_readWord s m args below meth c 0 0 Q 6 D A ((kx_W cA h0 q P) (a)) 112 [(0, .ref (q 0))] [])) : kj_J p l e rm_X6_readWord s m args below meth c 0 0 Q 6 D A ((kx_W cA h0 q P) z) 10 [(0, .ref (q 0)), (1, .int x1), (2, .int x2), (3, .int x3), (4, .int x4)] [] :=
  kj_it_J (Wh := fun (u : (Int32 × Int32 × Int32 × Int32 × kx_S)) => kj_J p l e rm_X6_readWord s m args below meth c 0 0 Q 6 D A ((kx_W cA h0 q P) (u.2.2.2.2)) 10 [(0, .ref (q 0)), (1, .int (u.1)), (2, .int (u.2.1)), (3, .int (u.2.2.1)), (4, .int (u.2.2.2.1))] []) (We := fun r => (∀ a, r = (.inl a) → kj_J p l e rm_X6_readWord s m args below meth c 0 0 Q 6 D A ((kx_W cA h0 q P) (a)) 55 [(0, .ref (q 0))] []) ∧ (∀ a, r = (.inr (.inl a)) → kj_J p l e rm_X6_readWord s m args below meth c 0 0 Q 6 D A ((kx_W cA h0 q P) (a)) 78 [(0, .ref (q 0))] []) ∧ (∀ a, r = (.inr (.inr (.inl a))) → kj_J p l e rm_X6_readWord s m args below meth c 0 0 Q 6 D A ((kx_W cA h0 q P) (a)) 90 [(0, .ref (q 0))] []) ∧ (∀ a, r = (.inr (.inr (.inr a))) → kj_J p l e rm_X6_readWord s m args below meth c 0 0 Q 6 D A ((kx_W cA h0 q P) (a)) 112 [(0, .ref (q 0))] [])) (fun u o h kb ke => jt_readWord_10 F h (fun a0' a1' a2' a3' a4' e => kb (a0', a1', a2', a3', a4') e) (fun a0' e => (ke (.inl a0') e).1 a0' rfl) (fun a0' e => (ke (.inr (.inl a0')) e).2.1 a0' rfl) (fun a0' e => (ke (.inr (.inr (.inl a0'))) e).2.2.1 a0' rfl) (fun a0' e => (ke (.inr (.inr (.inr a0'))) e).2.2.2 a0' rfl)) n (x1, x2, x3, x4, z) r h ke
set_option maxRecDepth 20000 in
theorem jt_readWord_55 {p : Program} {l : Launch} {e : Env} {s : State} {m : MethodId} {args : Array Value} {below : List Frame} {meth : Method} {c : Code} {A : Nat → Prop} {D : va_G} {cA : Nat → ClassId} {h0 : Nat} {q : Nat → Nat} {P : va_W} (F : kj_Fx p s m args meth c cX6_readWord 6 wsX6_readWord RX6 (some .boolean) D (kx_T cA) A) {z : kx_S} {o : (Int32 × kx_S)} (h : ft_readWord_55 z = some o) : kj_J p l e rm_X6_readWord s m args below meth c 0 0 (MQ below (kj_Qi D (kx_T cA) A (kx_W cA h0 q P) o) args s 0 0 A) 6 D A ((kx_W cA h0 q P) z) 55 [(0, .ref (q 0))] [] := by
  unfold ft_readWord_55 at h
  refine kj_aload_n F dX6_readWord_55 0 rfl rfl ?_
  refine kj_iconst F dX6_readWord_56 (v := 2) (by decide) ?_
  refine kj_cVi (As := [.int (2 : Int32)]) (rest := []) F dX6_readWord_57 h (fun o h1 => ct_failed h1) (cwV 1 F.2.2.2.2.1 gX6_readWord_X6_failed rfl rfl rfl (by decide +kernel) ⟨Nat.le_of_ble_eq_true rfl, Nat.le_of_ble_eq_true rfl⟩) 1 rfl rfl rfl rfl rfl (Nat.le_of_ble_eq_true rfl) ⟨Nat.zero_le _, Nat.zero_le _⟩ (fun o1 h => ?_)
  exact kj_zretB F dX6_readWord_60 h
set_option maxRecDepth 20000 in
theorem jt_readWord {p : Program} {l : Launch} {e : Env} {s : State} {m : MethodId} {args : Array Value} {below : List Frame} {meth : Method} {c : Code} {A : Nat → Prop} {D : va_G} {cA : Nat → ClassId} {h0 : Nat} {q : Nat → Nat} {P : va_W} (F : kj_Fx p s m args meth c cX6_readWord 6 wsX6_readWord RX6 (some .boolean) D (kx_T cA) A) {x1 : Int32} {z : kx_S} {o : (Int32 × kx_S)} (h : ft_readWord x1 z = some o) : kj_J p l e rm_X6_readWord s m args below meth c 0 0 (MQ below (kj_Qi D (kx_T cA) A (kx_W cA h0 q P) o) args s 0 0 A) 6 D A ((kx_W cA h0 q P) z) 0 [(0, .ref (q 0)), (1, .int x1)] [] := by
  unfold ft_readWord at h
  refine kj_iconst F dX6_readWord_0 (v := 0) (by decide) ?_
  refine kj_istore_n F dX6_readWord_1 (lv' := [(2, .int (0 : Int32)), (0, .ref (q 0)), (1, .int x1)]) rfl (by decide) rfl ?_
  refine kj_aload_n F dX6_readWord_2 1 rfl rfl ?_
  refine kj_get F dX6_readWord_3 in_X6_readWord_X6 1 rfl rfl 4 (by decide) (by decide +kernel) rfl rfl ?_
  refine kj_istore_n F dX6_readWord_6 (lv' := [(3, .int (z.1 3)), (2, .int (0 : Int32)), (0, .ref (q 0)), (1, .int x1)]) rfl (by decide) rfl ?_
  refine kj_iconst F dX6_readWord_7 (v := 0) (by decide) ?_
  refine kj_istore F dX6_readWord_8 (lv' := [(4, .int (0 : Int32)), (3, .int (z.1 3)), (2, .int (0 : Int32)), (0, .ref (q 0)), (1, .int x1)]) (by decide) rfl ?_
  refine kj_J.sub [3, 4, 2, 1, 0] rfl ?_
  refine kj_bn h (fun r1 h1 h => ?_)
  refine jlt_readWord_10 F h1 ?_
  refine ⟨fun a2 e => ?_, fun a4 e => ?_, fun a7 e => ?_, fun b8 e => ?_⟩
  · subst e
    refine kj_seL h (fun h => ?_)
    exact jt_readWord_55 F h
  · subst e
    refine kj_seR h (fun h => ?_)
    refine kj_seL h (fun h => ?_)
    refine kj_aload_n F dX6_readWord_78 0 rfl rfl ?_
    refine kj_iconst F dX6_readWord_79 (v := 2) (by decide) ?_
    refine kj_cVi (As := [.int (2 : Int32)]) (rest := []) F dX6_readWord_80 h (fun o h1 => ct_failed h1) (cwV 1 F.2.2.2.2.1 gX6_readWord_X6_failed rfl rfl rfl (by decide +kernel) ⟨Nat.le_of_ble_eq_true rfl, Nat.le_of_ble_eq_true rfl⟩) 1 rfl rfl rfl rfl rfl (Nat.le_of_ble_eq_true rfl) ⟨Nat.zero_le _, Nat.zero_le _⟩ (fun o6 h => ?_)
    exact kj_zretB F dX6_readWord_83 h
  · subst e
    refine kj_seR h (fun h => ?_)
    refine kj_seR h (fun h => ?_)
    refine kj_seL h (fun h => ?_)
    refine kj_aload_n F dX6_readWord_90 0 rfl rfl ?_
    refine kj_iconst F dX6_readWord_91 (v := 1) (by decide) ?_
    refine kj_cVi (As := [.int (1 : Int32)]) (rest := []) F dX6_readWord_92 h (fun o h1 => ct_failed h1) (cwV 1 F.2.2.2.2.1 gX6_readWord_X6_failed rfl rfl rfl (by decide +kernel) ⟨Nat.le_of_ble_eq_true rfl, Nat.le_of_ble_eq_true rfl⟩) 1 rfl rfl rfl rfl rfl (Nat.le_of_ble_eq_true rfl) ⟨Nat.zero_le _, Nat.zero_le _⟩ (fun o9 h => ?_)
    exact kj_zretB F dX6_readWord_95 h
  · subst e
    refine kj_seR h (fun h => ?_)
    refine kj_seR h (fun h => ?_)
    refine kj_seR h (fun h => ?_)
    refine kj_aload_n F dX6_readWord_112 0 rfl rfl ?_
    refine kj_cVi (As := []) (rest := []) F dX6_readWord_113 h (fun o h1 => ct_isLetter h1) (cwV 0 F.2.2.2.2.1 gX6_readWord_X6_isLetter rfl rfl rfl (by decide +kernel) ⟨Nat.le_of_ble_eq_true rfl, Nat.le_of_ble_eq_true rfl⟩) 1 rfl rfl rfl rfl rfl (Nat.le_of_ble_eq_true rfl) ⟨Nat.zero_le _, Nat.zero_le _⟩ (fun o10 h => ?_)
    refine kj_if_eq F dX6_readWord_116 (tgt := 127) (by decide) h (fun hc h => ?_) (fun hc h => ?_)
    · refine kj_iconst F dX6_readWord_127 (v := 1) (by decide) ?_
      refine kj_goto F dX6_readWord_128 (tgt := 132) (by decide) ?_
      exact kj_zret F dX6_readWord_132 (by decide) h
    · refine kj_aload_n F dX6_readWord_119 0 rfl rfl ?_
      refine kj_iconst F dX6_readWord_120 (v := 2) (by decide) ?_
      refine kj_cVi (As := [.int (2 : Int32)]) (rest := []) F dX6_readWord_121 h (fun o h1 => ct_failed h1) (cwV 1 F.2.2.2.2.1 gX6_readWord_X6_failed rfl rfl rfl (by decide +kernel) ⟨Nat.le_of_ble_eq_true rfl, Nat.le_of_ble_eq_true rfl⟩) 1 rfl rfl rfl rfl rfl (Nat.le_of_ble_eq_true rfl) ⟨Nat.zero_le _, Nat.zero_le _⟩ (fun o11 h => ?_)
      refine kj_if_eq F dX6_readWord_124 (tgt := 131) (by decide) h (fun hc h => ?_) (fun hc h => ?_)
      · refine kj_iconst F dX6_readWord_131 (v := 0) (by decide) ?_
        exact kj_zret F dX6_readWord_132 (by decide) h
      · refine kj_iconst F dX6_readWord_127 (v := 1) (by decide) ?_
        refine kj_goto F dX6_readWord_128 (tgt := 132) (by decide) ?_
        exact kj_zret F dX6_readWord_132 (by decide) h
theorem ct_readWord {l : Launch} {D : va_G} {cA : Nat → ClassId} {h0 : Nat} {q : Nat → Nat} {P : va_W} {x1 : Int32} {z : kx_S} {o : (Int32 × kx_S)} (h : ft_readWord x1 z = some o) : kj_Mi l yX6_readWord wsX6_readWord rm_X6_readWord D (kx_T cA) (kx_W cA h0 q P) z [.ref (q 0), .int x1] o :=
  fun sz => kj_start (by decide) rfl (Nat.le_of_ble_eq_true rfl) rfl fun p e s m args below meth c hsz F => jt_readWord F h
/-! X6_readWords -/
abbrev rm_X6_readWords : Room := { frames := 3, cells := 0, slots := 0, locals := 74 }
theorem in_X6_readWords_X6 : ∀ w ∈ u_ws RX6 TX6 8, w ∈ wsX6_readWords := by decide +kernel
def ft_readWords_25 (x1 : Int32) (z : kx_S) : Option ((Int32 × kx_S) ⊕ (kx_S ⊕ (kx_S ⊕ kx_S))) :=
  (ft_readWord x1 z).bind fun o1 =>
  if (o1.1) = 0 then
  some (.inr (.inr (.inl (o1.2))))
  else
  some (.inl ((x1 + 1), (o1.2)))
def ft_readWords_2 (x1 : Int32) (z : kx_S) : Option ((Int32 × kx_S) ⊕ (kx_S ⊕ (kx_S ⊕ kx_S))) :=
  if (z.1 1) ≤ x1 then
  some (.inr (.inr (.inr z)))
  else
  if x1 ≤ 0 then
  ft_readWords_25 x1 z
  else
  (ft_readSign (44 : Int32) z).bind fun o1 =>
  if (o1.1) = 0 then
  some (.inr (.inl (o1.2)))
  else
  ft_readWords_25 x1 (o1.2)
def lt_readWords_2 (n : Nat) (x1 : Int32) (z : kx_S) : Option (kx_S ⊕ (kx_S ⊕ kx_S)) :=
  kj_it (fun (s : (Int32 × kx_S)) => ft_readWords_2 (s.1) (s.2)) n (x1, z)
def ft_readWords (z : kx_S) : Option (Int32 × kx_S) :=
  (lt_readWords_2 5000 (0 : Int32) z).bind fun r1 => kj_se r1 (fun a2 => some ((0 : Int32), (a2))) (fun b3 => kj_se b3 (fun a4 => some ((0 : Int32), (a4))) (fun b5 => some ((1 : Int32), (b5))))
set_option maxRecDepth 20000 in
theorem jt_readWords_25 {p : Program} {l : Launch} {e : Env} {s : State} {m : MethodId} {args : Array Value} {below : List Frame} {meth : Method} {c : Code} {A : Nat → Prop} {D : va_G} {cA : Nat → ClassId} {h0 : Nat} {q : Nat → Nat} {P : va_W} {Q : State → Prop} (F : kj_Fx p s m args meth c cX6_readWords 2 wsX6_readWords RX6 (some .boolean) D (kx_T cA) A) {x1 : Int32} {z : kx_S} {o : ((Int32 × kx_S) ⊕ (kx_S ⊕ (kx_S ⊕ kx_S)))} (h : ft_readWords_25 x1 z = some o) (kb : ∀ (a0' : Int32) (a1' : kx_S), o = .inl (a0', a1') → kj_J p l e rm_X6_readWords s m args below meth c 0 0 Q 2 D A ((kx_W cA h0 q P) a1') 2 [(0, .ref (q 0)), (1, .int a0')] []) (ke0 : ∀ (a0' : kx_S), o = .inr (.inl a0') → kj_J p l e rm_X6_readWords s m args below meth c 0 0 Q 2 D A ((kx_W cA h0 q P) a0') 23 [] []) (ke1 : ∀ (a0' : kx_S), o = .inr (.inr (.inl a0')) → kj_J p l e rm_X6_readWords s m args below meth c 0 0 Q 2 D A ((kx_W cA h0 q P) a0') 33 [] []) (ke2 : ∀ (a0' : kx_S), o = .inr (.inr (.inr a0')) → kj_J p l e rm_X6_readWords s m args below meth c 0 0 Q 2 D A ((kx_W cA h0 q P) a0') 41 [] []) : kj_J p l e rm_X6_readWords s m args below meth c 0 0 Q 2 D A ((kx_W cA h0 q P) z) 25 [(0, .ref (q 0)), (1, .int x1)] [] := by
  unfold ft_readWords_25 at h
  refine kj_aload_n F dX6_readWords_25 0 rfl rfl ?_
  refine kj_iload_n F dX6_readWords_26 1 rfl rfl ?_
  refine kj_cVi (As := [.int x1]) (rest := []) F dX6_readWords_27 h (fun o h1 => ct_readWord h1) (cwV 1 F.2.2.2.2.1 gX6_readWords_X6_readWord rfl rfl rfl (by decide +kernel) ⟨Nat.le_of_ble_eq_true rfl, Nat.le_of_ble_eq_true rfl⟩) 1 rfl rfl rfl rfl rfl (Nat.le_of_ble_eq_true rfl) ⟨Nat.zero_le _, Nat.zero_le _⟩ (fun o1 h => ?_)
  refine kj_if_ne F dX6_readWords_30 (tgt := 35) (by decide) h (fun hc h => ?_) (fun hc h => ?_)
  · refine kj_J.sub [] rfl ?_
    exact ke1 (o1.2) (Option.some.inj h).symm
  · refine kj_iinc F dX6_readWords_35 1 rfl (v := 1) (by decide) (by decide) (lv' := [(1, .int (x1 + 1)), (0, .ref (q 0))]) rfl ?_
    refine kj_goto F dX6_readWords_38 (tgt := 2) (by decide) ?_
    refine kj_J.sub [1, 0] rfl ?_
    exact kb (x1 + 1) (o1.2) (Option.some.inj h).symm
set_option maxRecDepth 20000 in
theorem jt_readWords_2 {p : Program} {l : Launch} {e : Env} {s : State} {m : MethodId} {args : Array Value} {below : List Frame} {meth : Method} {c : Code} {A : Nat → Prop} {D : va_G} {cA : Nat → ClassId} {h0 : Nat} {q : Nat → Nat} {P : va_W} {Q : State → Prop} (F : kj_Fx p s m args meth c cX6_readWords 2 wsX6_readWords RX6 (some .boolean) D (kx_T cA) A) {x1 : Int32} {z : kx_S} {o : ((Int32 × kx_S) ⊕ (kx_S ⊕ (kx_S ⊕ kx_S)))} (h : ft_readWords_2 x1 z = some o) (kb : ∀ (a0' : Int32) (a1' : kx_S), o = .inl (a0', a1') → kj_J p l e rm_X6_readWords s m args below meth c 0 0 Q 2 D A ((kx_W cA h0 q P) a1') 2 [(0, .ref (q 0)), (1, .int a0')] []) (ke0 : ∀ (a0' : kx_S), o = .inr (.inl a0') → kj_J p l e rm_X6_readWords s m args below meth c 0 0 Q 2 D A ((kx_W cA h0 q P) a0') 23 [] []) (ke1 : ∀ (a0' : kx_S), o = .inr (.inr (.inl a0')) → kj_J p l e rm_X6_readWords s m args below meth c 0 0 Q 2 D A ((kx_W cA h0 q P) a0') 33 [] []) (ke2 : ∀ (a0' : kx_S), o = .inr (.inr (.inr a0')) → kj_J p l e rm_X6_readWords s m args below meth c 0 0 Q 2 D A ((kx_W cA h0 q P) a0') 41 [] []) : kj_J p l e rm_X6_readWords s m args below meth c 0 0 Q 2 D A ((kx_W cA h0 q P) z) 2 [(0, .ref (q 0)), (1, .int x1)] [] := by
  unfold ft_readWords_2 at h
  refine kj_iload_n F dX6_readWords_2 1 rfl rfl ?_
  refine kj_aload_n F dX6_readWords_3 0 rfl rfl ?_
  refine kj_get F dX6_readWords_4 in_X6_readWords_X6 1 rfl rfl 2 (by decide) (by decide +kernel) rfl rfl ?_
  refine kj_icmp_ge F dX6_readWords_7 (tgt := 41) (by decide) h (fun hc h => ?_) (fun hc h => ?_)
  · refine kj_J.sub [] rfl ?_
    exact ke2 z (Option.some.inj h).symm
  · refine kj_iload_n F dX6_readWords_10 1 rfl rfl ?_
    refine kj_if_le F dX6_readWords_11 (tgt := 25) (by decide) h (fun hc h => ?_) (fun hc h => ?_)
    · exact jt_readWords_25 F h kb ke0 ke1 ke2
    · refine kj_aload_n F dX6_readWords_14 0 rfl rfl ?_
      refine kj_bipush F dX6_readWords_15 (v := 44) (by decide) ?_
      refine kj_cVi (As := [.int (44 : Int32)]) (rest := []) F dX6_readWords_17 h (fun o h1 => ct_readSign h1) (cwV 1 F.2.2.2.2.1 gX6_readWords_X6_readSign rfl rfl rfl (by decide +kernel) ⟨Nat.le_of_ble_eq_true rfl, Nat.le_of_ble_eq_true rfl⟩) 1 rfl rfl rfl rfl rfl (Nat.le_of_ble_eq_true rfl) ⟨Nat.zero_le _, Nat.zero_le _⟩ (fun o1 h => ?_)
      refine kj_if_ne F dX6_readWords_20 (tgt := 25) (by decide) h (fun hc h => ?_) (fun hc h => ?_)
      · refine kj_J.sub [] rfl ?_
        exact ke0 (o1.2) (Option.some.inj h).symm
      · exact jt_readWords_25 F h kb ke0 ke1 ke2
theorem jlt_readWords_2 {p : Program} {l : Launch} {e : Env} {s : State} {m : MethodId} {args : Array Value} {below : List Frame} {meth : Method} {c : Code} {A : Nat → Prop} {D : va_G} {cA : Nat → ClassId} {h0 : Nat} {q : Nat → Nat} {P : va_W} {Q : State → Prop} (F : kj_Fx p s m args meth c cX6_readWords 2 wsX6_readWords RX6 (some .boolean) D (kx_T cA) A) {n : Nat} {x1 : Int32} {z : kx_S} {r : (kx_S ⊕ (kx_S ⊕ kx_S))} (h : lt_readWords_2 n x1 z = some r) (ke : (∀ a, r = (.inl a) → kj_J p l e rm_X6_readWords s m args below meth c 0 0 Q 2 D A ((kx_W cA h0 q P) (a)) 23 [] []) ∧ (∀ a, r = (.inr (.inl a)) → kj_J p l e rm_X6_readWords s m args below meth c 0 0 Q 2 D A ((kx_W cA h0 q P) (a)) 33 [] []) ∧ (∀ a, r = (.inr (.inr a)) → kj_J p l e rm_X6_readWords s m args below meth c 0 0 Q 2 D A ((kx_W cA h0 q P) (a)) 41 [] [])) : kj_J p l e rm_X6_readWords s m args below meth c 0 0 Q 2 D A ((kx_W cA h0 q P) z) 2 [(0, .ref (q 0)), (1, .int x1)] [] :=
  kj_it_J (Wh := fun (u : (Int32 × kx_S)) => kj_J p l e rm_X6_readWords s m args below meth c 0 0 Q 2 D A ((kx_W cA h0 q P) (u.2)) 2 [(0, .ref (q 0)), (1, .int (u.1))] []) (We := fun r => (∀ a, r = (.inl a) → kj_J p l e rm_X6_readWords s m args below meth c 0 0 Q 2 D A ((kx_W cA h0 q P) (a)) 23 [] []) ∧ (∀ a, r = (.inr (.inl a)) → kj_J p l e rm_X6_readWords s m args below meth c 0 0 Q 2 D A ((kx_W cA h0 q P) (a)) 33 [] []) ∧ (∀ a, r = (.inr (.inr a)) → kj_J p l e rm_X6_readWords s m args below meth c 0 0 Q 2 D A ((kx_W cA h0 q P) (a)) 41 [] [])) (fun u o h kb ke => jt_readWords_2 F h (fun a0' a1' e => kb (a0', a1') e) (fun a0' e => (ke (.inl a0') e).1 a0' rfl) (fun a0' e => (ke (.inr (.inl a0')) e).2.1 a0' rfl) (fun a0' e => (ke (.inr (.inr a0')) e).2.2 a0' rfl)) n (x1, z) r h ke
set_option maxRecDepth 20000 in
theorem jt_readWords {p : Program} {l : Launch} {e : Env} {s : State} {m : MethodId} {args : Array Value} {below : List Frame} {meth : Method} {c : Code} {A : Nat → Prop} {D : va_G} {cA : Nat → ClassId} {h0 : Nat} {q : Nat → Nat} {P : va_W} (F : kj_Fx p s m args meth c cX6_readWords 2 wsX6_readWords RX6 (some .boolean) D (kx_T cA) A) {z : kx_S} {o : (Int32 × kx_S)} (h : ft_readWords z = some o) : kj_J p l e rm_X6_readWords s m args below meth c 0 0 (MQ below (kj_Qi D (kx_T cA) A (kx_W cA h0 q P) o) args s 0 0 A) 2 D A ((kx_W cA h0 q P) z) 0 [(0, .ref (q 0))] [] := by
  unfold ft_readWords at h
  refine kj_iconst F dX6_readWords_0 (v := 0) (by decide) ?_
  refine kj_istore_n F dX6_readWords_1 (lv' := [(1, .int (0 : Int32)), (0, .ref (q 0))]) rfl (by decide) rfl ?_
  refine kj_J.sub [1, 0] rfl ?_
  refine kj_bn h (fun r1 h1 h => ?_)
  refine jlt_readWords_2 F h1 ?_
  refine ⟨fun a2 e => ?_, fun a4 e => ?_, fun b5 e => ?_⟩
  · subst e
    refine kj_seL h (fun h => ?_)
    refine kj_iconst F dX6_readWords_23 (v := 0) (by decide) ?_
    exact kj_zret F dX6_readWords_24 (by decide) h
  · subst e
    refine kj_seR h (fun h => ?_)
    refine kj_seL h (fun h => ?_)
    refine kj_iconst F dX6_readWords_33 (v := 0) (by decide) ?_
    exact kj_zret F dX6_readWords_34 (by decide) h
  · subst e
    refine kj_seR h (fun h => ?_)
    refine kj_seR h (fun h => ?_)
    refine kj_iconst F dX6_readWords_41 (v := 1) (by decide) ?_
    exact kj_zret F dX6_readWords_42 (by decide) h
theorem ct_readWords {l : Launch} {D : va_G} {cA : Nat → ClassId} {h0 : Nat} {q : Nat → Nat} {P : va_W} {z : kx_S} {o : (Int32 × kx_S)} (h : ft_readWords z = some o) : kj_Mi l yX6_readWords wsX6_readWords rm_X6_readWords D (kx_T cA) (kx_W cA h0 q P) z [.ref (q 0)] o :=
  fun sz => kj_start (by decide) rfl (Nat.le_of_ble_eq_true rfl) rfl fun p e s m args below meth c hsz F => jt_readWords F h
/-! X6_readHeights -/
abbrev rm_X6_readHeights : Room := { frames := 4, cells := 0, slots := 0, locals := 95 }
theorem in_X6_readHeights_X6 : ∀ w ∈ u_ws RX6 TX6 8, w ∈ wsX6_readHeights := by decide +kernel
def ft_readHeights (z : kx_S) : Option (Int32 × kx_S) :=
  (ft_sign z).bind fun o1 =>
  if (o1.1) = 100 then
  (kx_pI (o1.2) 5 (((o1.2).1 5) + (1 : Int32))).bind fun z2 =>
  (ft_readDiagonals z2).bind fun o3 =>
  if (o3.1) = 0 ∨ (o3.1) = 1 then some ((o3.1), (o3.2)) else none
  else
  if (o1.1) = 112 then
  (kx_pI (o1.2) 5 (((o1.2).1 5) + (1 : Int32))).bind fun z4 =>
  (ft_readWords z4).bind fun o5 =>
  if (o5.1) = 0 ∨ (o5.1) = 1 then some ((o5.1), (o5.2)) else none
  else
  if (o1.1) = 114 then
  (kx_pI (o1.2) 5 (((o1.2).1 5) + (1 : Int32))).bind fun z6 =>
  (ft_readRows z6).bind fun o7 =>
  if (o7.1) = 0 ∨ (o7.1) = 1 then some ((o7.1), (o7.2)) else none
  else
  (ft_failed (1 : Int32) (o1.2)).bind fun o8 =>
  if (o8.1) = 0 ∨ (o8.1) = 1 then some ((o8.1), (o8.2)) else none
set_option maxRecDepth 20000 in
theorem jt_readHeights {p : Program} {l : Launch} {e : Env} {s : State} {m : MethodId} {args : Array Value} {below : List Frame} {meth : Method} {c : Code} {A : Nat → Prop} {D : va_G} {cA : Nat → ClassId} {h0 : Nat} {q : Nat → Nat} {P : va_W} (F : kj_Fx p s m args meth c cX6_readHeights 2 wsX6_readHeights RX6 (some .boolean) D (kx_T cA) A) {z : kx_S} {o : (Int32 × kx_S)} (h : ft_readHeights z = some o) : kj_J p l e rm_X6_readHeights s m args below meth c 0 0 (MQ below (kj_Qi D (kx_T cA) A (kx_W cA h0 q P) o) args s 0 0 A) 2 D A ((kx_W cA h0 q P) z) 0 [(0, .ref (q 0))] [] := by
  unfold ft_readHeights at h
  refine kj_aload_n F dX6_readHeights_0 0 rfl rfl ?_
  refine kj_cVi (As := []) (rest := []) F dX6_readHeights_1 h (fun o h1 => ct_sign h1) (cwV 0 F.2.2.2.2.1 gX6_readHeights_X6_sign rfl rfl rfl (by decide +kernel) ⟨Nat.le_of_ble_eq_true rfl, Nat.le_of_ble_eq_true rfl⟩) 1 rfl rfl rfl rfl rfl (Nat.le_of_ble_eq_true rfl) ⟨Nat.zero_le _, Nat.zero_le _⟩ (fun o1 h => ?_)
  refine kj_istore_n F dX6_readHeights_4 (lv' := [(1, .int (o1.1)), (0, .ref (q 0))]) rfl (by decide) rfl ?_
  refine kj_iload_n F dX6_readHeights_5 0 rfl rfl ?_
  refine kj_if h (fun hc h => ?_) (fun hn6_0 h => ?_)
  · refine kj_lookup F dX6_readHeights_6 (off := 49) (tgt := 55) (by decide) (by rw [hc]; decide) (by decide) ?_
    refine kj_aload_n F dX6_readHeights_55 1 rfl rfl ?_
    refine kj_dup F dX6_readHeights_56 rfl ?_
    refine kj_get F dX6_readHeights_57 in_X6_readHeights_X6 1 rfl rfl 6 (by decide) (by decide +kernel) rfl rfl ?_
    refine kj_iconst F dX6_readHeights_60 (v := 1) (by decide) ?_
    refine kj_iadd F dX6_readHeights_61 ?_
    refine kx_pt F dX6_readHeights_62 in_X6_readHeights_X6 tyX6 tyX6_ok nmX6 1 rfl rfl 6 5 (by decide) (by decide +kernel) rfl rfl (by decide +kernel) (Nat.le_of_ble_eq_true rfl) (kx_put5 cA h0 q P _ _) h (fun z2 h => ?_)
    refine kj_aload_n F dX6_readHeights_65 1 rfl rfl ?_
    refine kj_cVi (As := []) (rest := []) F dX6_readHeights_66 h (fun o h1 => ct_readDiagonals h1) (cwV 0 F.2.2.2.2.1 gX6_readHeights_X6_readDiagonals rfl rfl rfl (by decide +kernel) ⟨Nat.le_of_ble_eq_true rfl, Nat.le_of_ble_eq_true rfl⟩) 1 rfl rfl rfl rfl rfl (Nat.le_of_ble_eq_true rfl) ⟨Nat.zero_le _, Nat.zero_le _⟩ (fun o3 h => ?_)
    exact kj_zretB F dX6_readHeights_69 h
  refine kj_if h (fun hc h => ?_) (fun hn6_1 h => ?_)
  · refine kj_lookup F dX6_readHeights_6 (off := 64) (tgt := 70) (by decide) (by rw [hc]; decide) (by decide) ?_
    refine kj_aload_n F dX6_readHeights_70 1 rfl rfl ?_
    refine kj_dup F dX6_readHeights_71 rfl ?_
    refine kj_get F dX6_readHeights_72 in_X6_readHeights_X6 1 rfl rfl 6 (by decide) (by decide +kernel) rfl rfl ?_
    refine kj_iconst F dX6_readHeights_75 (v := 1) (by decide) ?_
    refine kj_iadd F dX6_readHeights_76 ?_
    refine kx_pt F dX6_readHeights_77 in_X6_readHeights_X6 tyX6 tyX6_ok nmX6 1 rfl rfl 6 5 (by decide) (by decide +kernel) rfl rfl (by decide +kernel) (Nat.le_of_ble_eq_true rfl) (kx_put5 cA h0 q P _ _) h (fun z4 h => ?_)
    refine kj_aload_n F dX6_readHeights_80 1 rfl rfl ?_
    refine kj_cVi (As := []) (rest := []) F dX6_readHeights_81 h (fun o h1 => ct_readWords h1) (cwV 0 F.2.2.2.2.1 gX6_readHeights_X6_readWords rfl rfl rfl (by decide +kernel) ⟨Nat.le_of_ble_eq_true rfl, Nat.le_of_ble_eq_true rfl⟩) 1 rfl rfl rfl rfl rfl (Nat.le_of_ble_eq_true rfl) ⟨Nat.zero_le _, Nat.zero_le _⟩ (fun o5 h => ?_)
    exact kj_zretB F dX6_readHeights_84 h
  refine kj_if h (fun hc h => ?_) (fun hn6_2 h => ?_)
  · refine kj_lookup F dX6_readHeights_6 (off := 34) (tgt := 40) (by decide) (by rw [hc]; decide) (by decide) ?_
    refine kj_aload_n F dX6_readHeights_40 1 rfl rfl ?_
    refine kj_dup F dX6_readHeights_41 rfl ?_
    refine kj_get F dX6_readHeights_42 in_X6_readHeights_X6 1 rfl rfl 6 (by decide) (by decide +kernel) rfl rfl ?_
    refine kj_iconst F dX6_readHeights_45 (v := 1) (by decide) ?_
    refine kj_iadd F dX6_readHeights_46 ?_
    refine kx_pt F dX6_readHeights_47 in_X6_readHeights_X6 tyX6 tyX6_ok nmX6 1 rfl rfl 6 5 (by decide) (by decide +kernel) rfl rfl (by decide +kernel) (Nat.le_of_ble_eq_true rfl) (kx_put5 cA h0 q P _ _) h (fun z6 h => ?_)
    refine kj_aload_n F dX6_readHeights_50 1 rfl rfl ?_
    refine kj_cVi (As := []) (rest := []) F dX6_readHeights_51 h (fun o h1 => ct_readRows h1) (cwV 0 F.2.2.2.2.1 gX6_readHeights_X6_readRows rfl rfl rfl (by decide +kernel) ⟨Nat.le_of_ble_eq_true rfl, Nat.le_of_ble_eq_true rfl⟩) 1 rfl rfl rfl rfl rfl (Nat.le_of_ble_eq_true rfl) ⟨Nat.zero_le _, Nat.zero_le _⟩ (fun o7 h => ?_)
    exact kj_zretB F dX6_readHeights_54 h
  refine kj_lookup F dX6_readHeights_6 (off := 79) (tgt := 85) (by decide) (by have e0 : Int32.toInt (o1.1) ≠ 100 := fun q => hn6_0 (Int32.toInt_inj.mp (q.trans (by decide))); have e1 : Int32.toInt (o1.1) ≠ 112 := fun q => hn6_1 (Int32.toInt_inj.mp (q.trans (by decide))); have e2 : Int32.toInt (o1.1) ≠ 114 := fun q => hn6_2 (Int32.toInt_inj.mp (q.trans (by decide))); simp [Op.lookupswitch.offset, e0, e1, e2, Ne.symm e0, Ne.symm e1, Ne.symm e2]) (by decide) ?_
  refine kj_aload_n F dX6_readHeights_85 1 rfl rfl ?_
  refine kj_iconst F dX6_readHeights_86 (v := 1) (by decide) ?_
  refine kj_cVi (As := [.int (1 : Int32)]) (rest := []) F dX6_readHeights_87 h (fun o h1 => ct_failed h1) (cwV 1 F.2.2.2.2.1 gX6_readHeights_X6_failed rfl rfl rfl (by decide +kernel) ⟨Nat.le_of_ble_eq_true rfl, Nat.le_of_ble_eq_true rfl⟩) 1 rfl rfl rfl rfl rfl (Nat.le_of_ble_eq_true rfl) ⟨Nat.zero_le _, Nat.zero_le _⟩ (fun o8 h => ?_)
  exact kj_zretB F dX6_readHeights_90 h
theorem ct_readHeights {l : Launch} {D : va_G} {cA : Nat → ClassId} {h0 : Nat} {q : Nat → Nat} {P : va_W} {z : kx_S} {o : (Int32 × kx_S)} (h : ft_readHeights z = some o) : kj_Mi l yX6_readHeights wsX6_readHeights rm_X6_readHeights D (kx_T cA) (kx_W cA h0 q P) z [.ref (q 0)] o :=
  fun sz => kj_start (by decide) rfl (Nat.le_of_ble_eq_true rfl) rfl fun p e s m args below meth c hsz F => jt_readHeights F h
/-! X6_toldCubes -/
abbrev rm_X6_toldCubes : Room := { frames := 1, cells := 0, slots := 0, locals := 24 }
theorem in_X6_toldCubes_X6 : ∀ w ∈ u_ws RX6 TX6 8, w ∈ wsX6_toldCubes := by decide +kernel
def ft_toldCubes_15 (x1 : Int64) (x3 : Int32) (x4 : Int32) (z : kx_S) : Option ((Int64 × Int32 × Int32 × kx_S) ⊕ (Int64 × Int32 × kx_S)) :=
  if (z.1 2) ≤ x4 then
  some (.inr (x1, x3, z))
  else
  (fx_cube x3 x4).bind fun o1 =>
  (ft_toldAt x3 x4 (0 : Int32) z).bind fun o2 =>
  some (.inl ((x1 + (o1 * ((o2.1)).toInt64)), x3, (x4 + 1), (o2.2)))
def lt_toldCubes_15 (n : Nat) (x1 : Int64) (x3 : Int32) (x4 : Int32) (z : kx_S) : Option (Int64 × Int32 × kx_S) :=
  kj_it (fun (s : (Int64 × Int32 × Int32 × kx_S)) => ft_toldCubes_15 (s.1) (s.2.1) (s.2.2.1) (s.2.2.2)) n (x1, x3, x4, z)
def ft_toldCubes_4 (x1 : Int64) (x3 : Int32) (z : kx_S) : Option ((Int64 × Int32 × kx_S) ⊕ (Int64 × kx_S)) :=
  if (z.1 1) ≤ x3 then
  some (.inr (x1, z))
  else
  (lt_toldCubes_15 5000 x1 x3 (0 : Int32) z).bind fun r1 =>
  some (.inl ((r1.1), ((r1.2.1) + 1), (r1.2.2)))
def lt_toldCubes_4 (n : Nat) (x1 : Int64) (x3 : Int32) (z : kx_S) : Option (Int64 × kx_S) :=
  kj_it (fun (s : (Int64 × Int32 × kx_S)) => ft_toldCubes_4 (s.1) (s.2.1) (s.2.2)) n (x1, x3, z)
def ft_toldCubes (z : kx_S) : Option (Int64 × kx_S) :=
  (lt_toldCubes_4 5000 (0 : Int64) (0 : Int32) z).bind fun r1 =>
  some ((r1.1), (r1.2))
set_option maxRecDepth 20000 in
theorem jt_toldCubes_15 {p : Program} {l : Launch} {e : Env} {s : State} {m : MethodId} {args : Array Value} {below : List Frame} {meth : Method} {c : Code} {A : Nat → Prop} {D : va_G} {cA : Nat → ClassId} {h0 : Nat} {q : Nat → Nat} {P : va_W} {Q : State → Prop} (F : kj_Fx p s m args meth c cX6_toldCubes 5 wsX6_toldCubes RX6 (some .long) D (kx_T cA) A) {x1 : Int64} {x3 : Int32} {x4 : Int32} {z : kx_S} {o : ((Int64 × Int32 × Int32 × kx_S) ⊕ (Int64 × Int32 × kx_S))} (h : ft_toldCubes_15 x1 x3 x4 z = some o) (kb : ∀ (a0' : Int64) (a1' : Int32) (a2' : Int32) (a3' : kx_S), o = .inl (a0', a1', a2', a3') → kj_J p l e rm_X6_toldCubes s m args below meth c 0 0 Q 5 D A ((kx_W cA h0 q P) a3') 15 [(0, .ref (q 0)), (1, .long a0'), (3, .int a1'), (4, .int a2')] []) (ke0 : ∀ (a0' : Int64) (a1' : Int32) (a2' : kx_S), o = .inr (a0', a1', a2') → kj_J p l e rm_X6_toldCubes s m args below meth c 0 0 Q 5 D A ((kx_W cA h0 q P) a2') 49 [(0, .ref (q 0)), (1, .long a0'), (3, .int a1')] []) : kj_J p l e rm_X6_toldCubes s m args below meth c 0 0 Q 5 D A ((kx_W cA h0 q P) z) 15 [(0, .ref (q 0)), (1, .long x1), (3, .int x3), (4, .int x4)] [] := by
  unfold ft_toldCubes_15 at h
  refine kj_iload F dX6_toldCubes_15 3 rfl ?_
  refine kj_aload_n F dX6_toldCubes_17 0 rfl rfl ?_
  refine kj_get F dX6_toldCubes_18 in_X6_toldCubes_X6 1 rfl rfl 3 (by decide) (by decide +kernel) rfl rfl ?_
  refine kj_icmp_ge F dX6_toldCubes_21 (tgt := 49) (by decide) h (fun hc h => ?_) (fun hc h => ?_)
  · refine kj_J.sub [0, 1, 2] rfl ?_
    exact ke0 x1 x3 z (Option.some.inj h).symm
  · refine kj_lload_n F dX6_toldCubes_24 1 rfl rfl ?_
    refine kj_iload_n F dX6_toldCubes_25 2 rfl rfl ?_
    refine kj_iload F dX6_toldCubes_26 3 rfl ?_
    refine kj_cSlp (As := [.int x3, .int x4]) (rest := [.long x1]) F dX6_toldCubes_28 h (fun o h1 => cx_cube (w := (kx_W cA h0 q P)) h1) (va_cwS 2 F.2.2.2.2.1 gX6_toldCubes_X0_cube rfl rfl rfl (by decide +kernel) ⟨Nat.le_of_ble_eq_true rfl, Nat.le_of_ble_eq_true rfl⟩) rfl rfl (Nat.le_of_ble_eq_true rfl) ⟨Nat.zero_le _, Nat.zero_le _⟩ (fun o1 h => ?_)
    refine kj_aload_n F dX6_toldCubes_31 0 rfl rfl ?_
    refine kj_iload_n F dX6_toldCubes_32 2 rfl rfl ?_
    refine kj_iload F dX6_toldCubes_33 3 rfl ?_
    refine kj_iconst F dX6_toldCubes_35 (v := 0) (by decide) ?_
    refine kj_cVi (As := [.int x3, .int x4, .int (0 : Int32)]) (rest := [.long o1, .long x1]) F dX6_toldCubes_36 h (fun o h1 => ct_toldAt h1) (cwV 3 F.2.2.2.2.1 gX6_toldCubes_X6_toldAt rfl rfl rfl (by decide +kernel) ⟨Nat.le_of_ble_eq_true rfl, Nat.le_of_ble_eq_true rfl⟩) 1 rfl rfl rfl rfl rfl (Nat.le_of_ble_eq_true rfl) ⟨Nat.zero_le _, Nat.zero_le _⟩ (fun o2 h => ?_)
    refine kj_i2l F dX6_toldCubes_39 ?_
    refine kj_lmul F dX6_toldCubes_40 ?_
    refine kj_ladd F dX6_toldCubes_41 ?_
    refine kj_lstore_n F dX6_toldCubes_42 (lv' := [(1, .long (x1 + (o1 * ((o2.1)).toInt64))), (0, .ref (q 0)), (3, .int x3), (4, .int x4)]) rfl (by decide) rfl ?_
    refine kj_iinc F dX6_toldCubes_43 3 rfl (v := 1) (by decide) (by decide) (lv' := [(4, .int (x4 + 1)), (1, .long (x1 + (o1 * ((o2.1)).toInt64))), (0, .ref (q 0)), (3, .int x3)]) rfl ?_
    refine kj_goto F dX6_toldCubes_46 (tgt := 15) (by decide) ?_
    refine kj_J.sub [2, 1, 3, 0] rfl ?_
    exact kb (x1 + (o1 * ((o2.1)).toInt64)) x3 (x4 + 1) (o2.2) (Option.some.inj h).symm
theorem jlt_toldCubes_15 {p : Program} {l : Launch} {e : Env} {s : State} {m : MethodId} {args : Array Value} {below : List Frame} {meth : Method} {c : Code} {A : Nat → Prop} {D : va_G} {cA : Nat → ClassId} {h0 : Nat} {q : Nat → Nat} {P : va_W} {Q : State → Prop} (F : kj_Fx p s m args meth c cX6_toldCubes 5 wsX6_toldCubes RX6 (some .long) D (kx_T cA) A) {n : Nat} {x1 : Int64} {x3 : Int32} {x4 : Int32} {z : kx_S} {r : (Int64 × Int32 × kx_S)} (h : lt_toldCubes_15 n x1 x3 x4 z = some r) (ke : kj_J p l e rm_X6_toldCubes s m args below meth c 0 0 Q 5 D A ((kx_W cA h0 q P) (r.2.2)) 49 [(0, .ref (q 0)), (1, .long (r.1)), (3, .int (r.2.1))] []) : kj_J p l e rm_X6_toldCubes s m args below meth c 0 0 Q 5 D A ((kx_W cA h0 q P) z) 15 [(0, .ref (q 0)), (1, .long x1), (3, .int x3), (4, .int x4)] [] :=
  kj_it_J (Wh := fun (u : (Int64 × Int32 × Int32 × kx_S)) => kj_J p l e rm_X6_toldCubes s m args below meth c 0 0 Q 5 D A ((kx_W cA h0 q P) (u.2.2.2)) 15 [(0, .ref (q 0)), (1, .long (u.1)), (3, .int (u.2.1)), (4, .int (u.2.2.1))] []) (We := fun r => kj_J p l e rm_X6_toldCubes s m args below meth c 0 0 Q 5 D A ((kx_W cA h0 q P) (r.2.2)) 49 [(0, .ref (q 0)), (1, .long (r.1)), (3, .int (r.2.1))] []) (fun u o h kb ke => jt_toldCubes_15 F h (fun a0' a1' a2' a3' e => kb (a0', a1', a2', a3') e) (fun a0' a1' a2' e => ke (a0', a1', a2') e)) n (x1, x3, x4, z) r h ke
set_option maxRecDepth 20000 in
theorem jt_toldCubes_4 {p : Program} {l : Launch} {e : Env} {s : State} {m : MethodId} {args : Array Value} {below : List Frame} {meth : Method} {c : Code} {A : Nat → Prop} {D : va_G} {cA : Nat → ClassId} {h0 : Nat} {q : Nat → Nat} {P : va_W} {Q : State → Prop} (F : kj_Fx p s m args meth c cX6_toldCubes 5 wsX6_toldCubes RX6 (some .long) D (kx_T cA) A) {x1 : Int64} {x3 : Int32} {z : kx_S} {o : ((Int64 × Int32 × kx_S) ⊕ (Int64 × kx_S))} (h : ft_toldCubes_4 x1 x3 z = some o) (kb : ∀ (a0' : Int64) (a1' : Int32) (a2' : kx_S), o = .inl (a0', a1', a2') → kj_J p l e rm_X6_toldCubes s m args below meth c 0 0 Q 5 D A ((kx_W cA h0 q P) a2') 4 [(0, .ref (q 0)), (1, .long a0'), (3, .int a1')] []) (ke0 : ∀ (a0' : Int64) (a1' : kx_S), o = .inr (a0', a1') → kj_J p l e rm_X6_toldCubes s m args below meth c 0 0 Q 5 D A ((kx_W cA h0 q P) a1') 55 [(1, .long a0')] []) : kj_J p l e rm_X6_toldCubes s m args below meth c 0 0 Q 5 D A ((kx_W cA h0 q P) z) 4 [(0, .ref (q 0)), (1, .long x1), (3, .int x3)] [] := by
  unfold ft_toldCubes_4 at h
  refine kj_iload_n F dX6_toldCubes_4 2 rfl rfl ?_
  refine kj_aload_n F dX6_toldCubes_5 0 rfl rfl ?_
  refine kj_get F dX6_toldCubes_6 in_X6_toldCubes_X6 1 rfl rfl 2 (by decide) (by decide +kernel) rfl rfl ?_
  refine kj_icmp_ge F dX6_toldCubes_9 (tgt := 55) (by decide) h (fun hc h => ?_) (fun hc h => ?_)
  · refine kj_J.sub [1] rfl ?_
    exact ke0 x1 z (Option.some.inj h).symm
  · refine kj_iconst F dX6_toldCubes_12 (v := 0) (by decide) ?_
    refine kj_istore F dX6_toldCubes_13 (lv' := [(4, .int (0 : Int32)), (0, .ref (q 0)), (1, .long x1), (3, .int x3)]) (by decide) rfl ?_
    refine kj_J.sub [1, 2, 3, 0] rfl ?_
    refine kj_bn h (fun r1 h1 h => ?_)
    refine jlt_toldCubes_15 F h1 ?_
    refine kj_iinc F dX6_toldCubes_49 2 rfl (v := 1) (by decide) (by decide) (lv' := [(3, .int ((r1.2.1) + 1)), (0, .ref (q 0)), (1, .long (r1.1))]) rfl ?_
    refine kj_goto F dX6_toldCubes_52 (tgt := 4) (by decide) ?_
    refine kj_J.sub [1, 2, 0] rfl ?_
    exact kb (r1.1) ((r1.2.1) + 1) (r1.2.2) (Option.some.inj h).symm
theorem jlt_toldCubes_4 {p : Program} {l : Launch} {e : Env} {s : State} {m : MethodId} {args : Array Value} {below : List Frame} {meth : Method} {c : Code} {A : Nat → Prop} {D : va_G} {cA : Nat → ClassId} {h0 : Nat} {q : Nat → Nat} {P : va_W} {Q : State → Prop} (F : kj_Fx p s m args meth c cX6_toldCubes 5 wsX6_toldCubes RX6 (some .long) D (kx_T cA) A) {n : Nat} {x1 : Int64} {x3 : Int32} {z : kx_S} {r : (Int64 × kx_S)} (h : lt_toldCubes_4 n x1 x3 z = some r) (ke : kj_J p l e rm_X6_toldCubes s m args below meth c 0 0 Q 5 D A ((kx_W cA h0 q P) (r.2)) 55 [(1, .long (r.1))] []) : kj_J p l e rm_X6_toldCubes s m args below meth c 0 0 Q 5 D A ((kx_W cA h0 q P) z) 4 [(0, .ref (q 0)), (1, .long x1), (3, .int x3)] [] :=
  kj_it_J (Wh := fun (u : (Int64 × Int32 × kx_S)) => kj_J p l e rm_X6_toldCubes s m args below meth c 0 0 Q 5 D A ((kx_W cA h0 q P) (u.2.2)) 4 [(0, .ref (q 0)), (1, .long (u.1)), (3, .int (u.2.1))] []) (We := fun r => kj_J p l e rm_X6_toldCubes s m args below meth c 0 0 Q 5 D A ((kx_W cA h0 q P) (r.2)) 55 [(1, .long (r.1))] []) (fun u o h kb ke => jt_toldCubes_4 F h (fun a0' a1' a2' e => kb (a0', a1', a2') e) (fun a0' a1' e => ke (a0', a1') e)) n (x1, x3, z) r h ke
set_option maxRecDepth 20000 in
theorem jt_toldCubes {p : Program} {l : Launch} {e : Env} {s : State} {m : MethodId} {args : Array Value} {below : List Frame} {meth : Method} {c : Code} {A : Nat → Prop} {D : va_G} {cA : Nat → ClassId} {h0 : Nat} {q : Nat → Nat} {P : va_W} (F : kj_Fx p s m args meth c cX6_toldCubes 5 wsX6_toldCubes RX6 (some .long) D (kx_T cA) A) {z : kx_S} {o : (Int64 × kx_S)} (h : ft_toldCubes z = some o) : kj_J p l e rm_X6_toldCubes s m args below meth c 0 0 (MQ below (kj_Ql D (kx_T cA) A (kx_W cA h0 q P) o) args s 0 0 A) 5 D A ((kx_W cA h0 q P) z) 0 [(0, .ref (q 0))] [] := by
  unfold ft_toldCubes at h
  refine kj_lconst F dX6_toldCubes_0 (v := 0) (by decide) ?_
  refine kj_lstore_n F dX6_toldCubes_1 (lv' := [(1, .long (0 : Int64)), (0, .ref (q 0))]) rfl (by decide) rfl ?_
  refine kj_iconst F dX6_toldCubes_2 (v := 0) (by decide) ?_
  refine kj_istore_n F dX6_toldCubes_3 (lv' := [(3, .int (0 : Int32)), (1, .long (0 : Int64)), (0, .ref (q 0))]) rfl (by decide) rfl ?_
  refine kj_J.sub [2, 1, 0] rfl ?_
  refine kj_bn h (fun r1 h1 h => ?_)
  refine jlt_toldCubes_4 F h1 ?_
  refine kj_lload_n F dX6_toldCubes_55 0 rfl rfl ?_
  exact kj_lret F dX6_toldCubes_56 h
theorem ct_toldCubes {l : Launch} {D : va_G} {cA : Nat → ClassId} {h0 : Nat} {q : Nat → Nat} {P : va_W} {z : kx_S} {o : (Int64 × kx_S)} (h : ft_toldCubes z = some o) : kj_Ml l yX6_toldCubes wsX6_toldCubes rm_X6_toldCubes D (kx_T cA) (kx_W cA h0 q P) z [.ref (q 0)] o :=
  fun sz => kj_start (by decide) rfl (Nat.le_of_ble_eq_true rfl) rfl fun p e s m args below meth c hsz F => jt_toldCubes F h
/-! X5_indexOf -/
abbrev rm_X5_indexOf : Room := { frames := 0, cells := 0, slots := 0, locals := 0 }
theorem in_X5_indexOf_X5 : ∀ w ∈ u_ws RX5 TX5 5, w ∈ wsX5_indexOf := by decide +kernel
def fs_indexOf_77 (x1 : Int64) (x3 : Int32) (x4 : Int32) (x5 : Int32) (z : kx_S) : Option ((Int64 × Int32 × Int32 × Int32 × kx_S) ⊕ ((Int32 × kx_S) ⊕ kx_S)) :=
  some (.inl (x1, x3, x4, (x5 + 1), z))
def fs_indexOf_13 (x1 : Int64) (x3 : Int32) (x4 : Int32) (x5 : Int32) (z : kx_S) : Option ((Int64 × Int32 × Int32 × Int32 × kx_S) ⊕ ((Int32 × kx_S) ⊕ kx_S)) :=
  if (z.1 10) ≤ x5 then
  some (.inr (.inr z))
  else
  if x4 < x3 then
  some (.inr (.inr z))
  else
  (kx_rl z 0 ((x3 + x4) / (2 : Int32))).bind fun v1 =>
  if (lg_cmp v1 x1) = 0 then
  some (.inr (.inl (((x3 + x4) / (2 : Int32)), z)))
  else
  (kx_rl z 0 ((x3 + x4) / (2 : Int32))).bind fun v2 =>
  if 0 ≤ (lg_cmp v2 x1) then
  fs_indexOf_77 x1 x3 (((x3 + x4) / (2 : Int32)) - (1 : Int32)) x5 z
  else
  fs_indexOf_77 x1 (((x3 + x4) / (2 : Int32)) + (1 : Int32)) x4 x5 z
def ls_indexOf_13 (n : Nat) (x1 : Int64) (x3 : Int32) (x4 : Int32) (x5 : Int32) (z : kx_S) : Option ((Int32 × kx_S) ⊕ kx_S) :=
  kj_it (fun (s : (Int64 × Int32 × Int32 × Int32 × kx_S)) => fs_indexOf_13 (s.1) (s.2.1) (s.2.2.1) (s.2.2.2.1) (s.2.2.2.2)) n (x1, x3, x4, x5, z)
def fs_indexOf (x1 : Int64) (z : kx_S) : Option (Int32 × kx_S) :=
  (ls_indexOf_13 5000 x1 (0 : Int32) ((z.1 10) - (1 : Int32)) (0 : Int32) z).bind fun r1 => kj_se r1 (fun a2 => some ((a2.1), (a2.2))) (fun b3 => some ((-1 : Int32), (b3)))
set_option maxRecDepth 20000 in
theorem js_indexOf_77 {p : Program} {l : Launch} {e : Env} {s : State} {m : MethodId} {args : Array Value} {below : List Frame} {meth : Method} {c : Code} {A : Nat → Prop} {D : va_G} {cA : Nat → ClassId} {h0 : Nat} {q : Nat → Nat} {P : va_W} {Q : State → Prop} (F : kj_Fx p s m args meth c cX5_indexOf 7 wsX5_indexOf RX5 (some .int) D (kx_T cA) A) {x1 : Int64} {x3 : Int32} {x4 : Int32} {x5 : Int32} {z : kx_S} {o : ((Int64 × Int32 × Int32 × Int32 × kx_S) ⊕ ((Int32 × kx_S) ⊕ kx_S))} (h : fs_indexOf_77 x1 x3 x4 x5 z = some o) (kb : ∀ (a0' : Int64) (a1' : Int32) (a2' : Int32) (a3' : Int32) (a4' : kx_S), o = .inl (a0', a1', a2', a3', a4') → kj_J p l e rm_X5_indexOf s m args below meth c 0 0 Q 7 D A ((kx_W cA h0 q P) a4') 13 [(0, .ref (q 3)), (1, .long a0'), (3, .int a1'), (4, .int a2'), (5, .int a3')] []) (ke0 : ∀ (a0' : Int32) (a1' : kx_S), o = .inr (.inl (a0', a1')) → kj_J p l e rm_X5_indexOf s m args below meth c 0 0 Q 7 D A ((kx_W cA h0 q P) a1') 48 [(6, .int a0')] []) (ke1 : ∀ (a0' : kx_S), o = .inr (.inr a0') → kj_J p l e rm_X5_indexOf s m args below meth c 0 0 Q 7 D A ((kx_W cA h0 q P) a0') 83 [] []) : kj_J p l e rm_X5_indexOf s m args below meth c 0 0 Q 7 D A ((kx_W cA h0 q P) z) 77 [(0, .ref (q 3)), (1, .long x1), (3, .int x3), (4, .int x4), (5, .int x5)] [] := by
  unfold fs_indexOf_77 at h
  refine kj_iinc F dX5_indexOf_77 4 rfl (v := 1) (by decide) (by decide) (lv' := [(5, .int (x5 + 1)), (0, .ref (q 3)), (1, .long x1), (3, .int x3), (4, .int x4)]) rfl ?_
  refine kj_goto F dX5_indexOf_80 (tgt := 13) (by decide) ?_
  refine kj_J.sub [1, 2, 3, 4, 0] rfl ?_
  exact kb x1 x3 x4 (x5 + 1) z (Option.some.inj h).symm
set_option maxRecDepth 20000 in
theorem js_indexOf_13 {p : Program} {l : Launch} {e : Env} {s : State} {m : MethodId} {args : Array Value} {below : List Frame} {meth : Method} {c : Code} {A : Nat → Prop} {D : va_G} {cA : Nat → ClassId} {h0 : Nat} {q : Nat → Nat} {P : va_W} {Q : State → Prop} (F : kj_Fx p s m args meth c cX5_indexOf 7 wsX5_indexOf RX5 (some .int) D (kx_T cA) A) {x1 : Int64} {x3 : Int32} {x4 : Int32} {x5 : Int32} {z : kx_S} {o : ((Int64 × Int32 × Int32 × Int32 × kx_S) ⊕ ((Int32 × kx_S) ⊕ kx_S))} (h : fs_indexOf_13 x1 x3 x4 x5 z = some o) (kb : ∀ (a0' : Int64) (a1' : Int32) (a2' : Int32) (a3' : Int32) (a4' : kx_S), o = .inl (a0', a1', a2', a3', a4') → kj_J p l e rm_X5_indexOf s m args below meth c 0 0 Q 7 D A ((kx_W cA h0 q P) a4') 13 [(0, .ref (q 3)), (1, .long a0'), (3, .int a1'), (4, .int a2'), (5, .int a3')] []) (ke0 : ∀ (a0' : Int32) (a1' : kx_S), o = .inr (.inl (a0', a1')) → kj_J p l e rm_X5_indexOf s m args below meth c 0 0 Q 7 D A ((kx_W cA h0 q P) a1') 48 [(6, .int a0')] []) (ke1 : ∀ (a0' : kx_S), o = .inr (.inr a0') → kj_J p l e rm_X5_indexOf s m args below meth c 0 0 Q 7 D A ((kx_W cA h0 q P) a0') 83 [] []) : kj_J p l e rm_X5_indexOf s m args below meth c 0 0 Q 7 D A ((kx_W cA h0 q P) z) 13 [(0, .ref (q 3)), (1, .long x1), (3, .int x3), (4, .int x4), (5, .int x5)] [] := by
  unfold fs_indexOf_13 at h
  refine kj_iload F dX5_indexOf_13 4 rfl ?_
  refine kj_aload_n F dX5_indexOf_15 0 rfl rfl ?_
  refine kj_get F dX5_indexOf_16 in_X5_indexOf_X5 4 rfl rfl 3 (by decide) (by decide +kernel) rfl rfl ?_
  refine kj_icmp_ge F dX5_indexOf_19 (tgt := 83) (by decide) h (fun hc h => ?_) (fun hc h => ?_)
  · refine kj_J.sub [] rfl ?_
    exact ke1 z (Option.some.inj h).symm
  · refine kj_iload_n F dX5_indexOf_22 2 rfl rfl ?_
    refine kj_iload F dX5_indexOf_23 3 rfl ?_
    refine kj_icmp_gt F dX5_indexOf_25 (tgt := 83) (by decide) h (fun hc h => ?_) (fun hc h => ?_)
    · refine kj_J.sub [] rfl ?_
      exact ke1 z (Option.some.inj h).symm
    · refine kj_iload_n F dX5_indexOf_28 2 rfl rfl ?_
      refine kj_iload F dX5_indexOf_29 3 rfl ?_
      refine kj_iadd F dX5_indexOf_31 ?_
      refine kj_iconst F dX5_indexOf_32 (v := 2) (by decide) ?_
      refine kj_idivK F dX5_indexOf_33 (by decide) ?_
      refine kj_istore F dX5_indexOf_34 (lv' := [(6, .int ((x3 + x4) / (2 : Int32))), (0, .ref (q 3)), (1, .long x1), (3, .int x3), (4, .int x4), (5, .int x5)]) (by decide) rfl ?_
      refine kj_aload_n F dX5_indexOf_36 1 rfl rfl ?_
      refine kj_get F dX5_indexOf_37 in_X5_indexOf_X5 4 rfl rfl 0 (by decide) (by decide +kernel) rfl rfl ?_
      refine kj_iload F dX5_indexOf_40 0 rfl ?_
      refine kx_lald F dX5_indexOf_42 0 (by decide) h (fun v1 h => ?_)
      refine kj_lload_n F dX5_indexOf_43 2 rfl rfl ?_
      refine kj_lcmp F dX5_indexOf_44 ?_
      refine kj_if_ne F dX5_indexOf_45 (tgt := 51) (by decide) h (fun hc h => ?_) (fun hc h => ?_)
      · refine kj_J.sub [0] rfl ?_
        exact ke0 ((x3 + x4) / (2 : Int32)) z (Option.some.inj h).symm
      · refine kj_aload_n F dX5_indexOf_51 1 rfl rfl ?_
        refine kj_get F dX5_indexOf_52 in_X5_indexOf_X5 4 rfl rfl 0 (by decide) (by decide +kernel) rfl rfl ?_
        refine kj_iload F dX5_indexOf_55 0 rfl ?_
        refine kx_lald F dX5_indexOf_57 0 (by decide) h (fun v2 h => ?_)
        refine kj_lload_n F dX5_indexOf_58 2 rfl rfl ?_
        refine kj_lcmp F dX5_indexOf_59 ?_
        refine kj_if_ge F dX5_indexOf_60 (tgt := 71) (by decide) h (fun hc h => ?_) (fun hc h => ?_)
        · refine kj_iload F dX5_indexOf_71 0 rfl ?_
          refine kj_iconst F dX5_indexOf_73 (v := 1) (by decide) ?_
          refine kj_isub F dX5_indexOf_74 ?_
          refine kj_istore F dX5_indexOf_75 (lv' := [(4, .int (((x3 + x4) / (2 : Int32)) - (1 : Int32))), (6, .int ((x3 + x4) / (2 : Int32))), (0, .ref (q 3)), (1, .long x1), (3, .int x3), (5, .int x5)]) (by decide) rfl ?_
          refine kj_J.sub [2, 3, 4, 0, 5] rfl ?_
          exact js_indexOf_77 F h kb ke0 ke1
        · refine kj_iload F dX5_indexOf_63 0 rfl ?_
          refine kj_iconst F dX5_indexOf_65 (v := 1) (by decide) ?_
          refine kj_iadd F dX5_indexOf_66 ?_
          refine kj_istore_n F dX5_indexOf_67 (lv' := [(3, .int (((x3 + x4) / (2 : Int32)) + (1 : Int32))), (6, .int ((x3 + x4) / (2 : Int32))), (0, .ref (q 3)), (1, .long x1), (4, .int x4), (5, .int x5)]) rfl (by decide) rfl ?_
          refine kj_goto F dX5_indexOf_68 (tgt := 77) (by decide) ?_
          refine kj_J.sub [2, 3, 0, 4, 5] rfl ?_
          exact js_indexOf_77 F h kb ke0 ke1
theorem jls_indexOf_13 {p : Program} {l : Launch} {e : Env} {s : State} {m : MethodId} {args : Array Value} {below : List Frame} {meth : Method} {c : Code} {A : Nat → Prop} {D : va_G} {cA : Nat → ClassId} {h0 : Nat} {q : Nat → Nat} {P : va_W} {Q : State → Prop} (F : kj_Fx p s m args meth c cX5_indexOf 7 wsX5_indexOf RX5 (some .int) D (kx_T cA) A) {n : Nat} {x1 : Int64} {x3 : Int32} {x4 : Int32} {x5 : Int32} {z : kx_S} {r : ((Int32 × kx_S) ⊕ kx_S)} (h : ls_indexOf_13 n x1 x3 x4 x5 z = some r) (ke : (∀ a, r = (.inl a) → kj_J p l e rm_X5_indexOf s m args below meth c 0 0 Q 7 D A ((kx_W cA h0 q P) (a.2)) 48 [(6, .int (a.1))] []) ∧ (∀ a, r = (.inr a) → kj_J p l e rm_X5_indexOf s m args below meth c 0 0 Q 7 D A ((kx_W cA h0 q P) (a)) 83 [] [])) : kj_J p l e rm_X5_indexOf s m args below meth c 0 0 Q 7 D A ((kx_W cA h0 q P) z) 13 [(0, .ref (q 3)), (1, .long x1), (3, .int x3), (4, .int x4), (5, .int x5)] [] :=
  kj_it_J (Wh := fun (u : (Int64 × Int32 × Int32 × Int32 × kx_S)) => kj_J p l e rm_X5_indexOf s m args below meth c 0 0 Q 7 D A ((kx_W cA h0 q P) (u.2.2.2.2)) 13 [(0, .ref (q 3)), (1, .long (u.1)), (3, .int (u.2.1)), (4, .int (u.2.2.1)), (5, .int (u.2.2.2.1))] []) (We := fun r => (∀ a, r = (.inl a) → kj_J p l e rm_X5_indexOf s m args below meth c 0 0 Q 7 D A ((kx_W cA h0 q P) (a.2)) 48 [(6, .int (a.1))] []) ∧ (∀ a, r = (.inr a) → kj_J p l e rm_X5_indexOf s m args below meth c 0 0 Q 7 D A ((kx_W cA h0 q P) (a)) 83 [] [])) (fun u o h kb ke => js_indexOf_13 F h (fun a0' a1' a2' a3' a4' e => kb (a0', a1', a2', a3', a4') e) (fun a0' a1' e => (ke (.inl (a0', a1')) e).1 (a0', a1') rfl) (fun a0' e => (ke (.inr a0') e).2 a0' rfl)) n (x1, x3, x4, x5, z) r h ke
set_option maxRecDepth 20000 in
theorem js_indexOf {p : Program} {l : Launch} {e : Env} {s : State} {m : MethodId} {args : Array Value} {below : List Frame} {meth : Method} {c : Code} {A : Nat → Prop} {D : va_G} {cA : Nat → ClassId} {h0 : Nat} {q : Nat → Nat} {P : va_W} (F : kj_Fx p s m args meth c cX5_indexOf 7 wsX5_indexOf RX5 (some .int) D (kx_T cA) A) {x1 : Int64} {z : kx_S} {o : (Int32 × kx_S)} (h : fs_indexOf x1 z = some o) : kj_J p l e rm_X5_indexOf s m args below meth c 0 0 (MQ below (kj_Qi D (kx_T cA) A (kx_W cA h0 q P) o) args s 0 0 A) 7 D A ((kx_W cA h0 q P) z) 0 [(0, .ref (q 3)), (1, .long x1)] [] := by
  unfold fs_indexOf at h
  refine kj_iconst F dX5_indexOf_0 (v := 0) (by decide) ?_
  refine kj_istore_n F dX5_indexOf_1 (lv' := [(3, .int (0 : Int32)), (0, .ref (q 3)), (1, .long x1)]) rfl (by decide) rfl ?_
  refine kj_aload_n F dX5_indexOf_2 1 rfl rfl ?_
  refine kj_get F dX5_indexOf_3 in_X5_indexOf_X5 4 rfl rfl 3 (by decide) (by decide +kernel) rfl rfl ?_
  refine kj_iconst F dX5_indexOf_6 (v := 1) (by decide) ?_
  refine kj_isub F dX5_indexOf_7 ?_
  refine kj_istore F dX5_indexOf_8 (lv' := [(4, .int ((z.1 10) - (1 : Int32))), (3, .int (0 : Int32)), (0, .ref (q 3)), (1, .long x1)]) (by decide) rfl ?_
  refine kj_iconst F dX5_indexOf_10 (v := 0) (by decide) ?_
  refine kj_istore F dX5_indexOf_11 (lv' := [(5, .int (0 : Int32)), (4, .int ((z.1 10) - (1 : Int32))), (3, .int (0 : Int32)), (0, .ref (q 3)), (1, .long x1)]) (by decide) rfl ?_
  refine kj_J.sub [3, 4, 2, 1, 0] rfl ?_
  refine kj_bn h (fun r1 h1 h => ?_)
  refine jls_indexOf_13 F h1 ?_
  refine ⟨fun a2 e => ?_, fun b3 e => ?_⟩
  · subst e
    refine kj_seL h (fun h => ?_)
    refine kj_iload F dX5_indexOf_48 0 rfl ?_
    exact kj_iret F dX5_indexOf_50 h
  · subst e
    refine kj_seR h (fun h => ?_)
    refine kj_iconst F dX5_indexOf_83 (v := (-1)) (by decide) ?_
    exact kj_iret F dX5_indexOf_84 h
theorem cs_indexOf {l : Launch} {D : va_G} {cA : Nat → ClassId} {h0 : Nat} {q : Nat → Nat} {P : va_W} {x1 : Int64} {z : kx_S} {o : (Int32 × kx_S)} (h : fs_indexOf x1 z = some o) : kj_Mi l yX5_indexOf wsX5_indexOf rm_X5_indexOf D (kx_T cA) (kx_W cA h0 q P) z [.ref (q 3), .long x1] o :=
  fun sz => kj_start (by decide) rfl (Nat.le_of_ble_eq_true rfl) rfl fun p e s m args below meth c hsz F => js_indexOf F h
/-! X5_reach -/
abbrev rm_X5_reach : Room := { frames := 0, cells := 0, slots := 0, locals := 0 }
theorem in_X5_reach_X5 : ∀ w ∈ u_ws RX5 TX5 5, w ∈ wsX5_reach := by decide +kernel
def fs_reach (x1 : Int32) (x2 : Int32) (z : kx_S) : Option kx_S :=
  if x1 < 0 then
  some z
  else
  (kx_rd z 2 x1).bind fun v1 =>
  if v1 = (-1 : Int32) then
  if (z.1 10) ≤ (z.1 11) then
  some z
  else
  (kx_wr z 2 x1 x2).bind fun z2 =>
  (kx_wr z2 3 (z2.1 11) x1).bind fun z3 =>
  (kx_pI z3 11 ((z3.1 11) + (1 : Int32))).bind fun z4 =>
  some z4
  else
  some z
set_option maxRecDepth 20000 in
theorem js_reach {p : Program} {l : Launch} {e : Env} {s : State} {m : MethodId} {args : Array Value} {below : List Frame} {meth : Method} {c : Code} {A : Nat → Prop} {D : va_G} {cA : Nat → ClassId} {h0 : Nat} {q : Nat → Nat} {P : va_W} (F : kj_Fx p s m args meth c cX5_reach 3 wsX5_reach RX5 none D (kx_T cA) A) {x1 : Int32} {x2 : Int32} {z : kx_S} {o : kx_S} (h : fs_reach x1 x2 z = some o) : kj_J p l e rm_X5_reach s m args below meth c 0 0 (MQ below (kj_Qv D (kx_T cA) A (kx_W cA h0 q P) o) args s 0 0 A) 3 D A ((kx_W cA h0 q P) z) 0 [(0, .ref (q 3)), (1, .int x1), (2, .int x2)] [] := by
  unfold fs_reach at h
  refine kj_iload_n F dX5_reach_0 1 rfl rfl ?_
  refine kj_if_lt F dX5_reach_1 (tgt := 52) (by decide) h (fun hc h => ?_) (fun hc h => ?_)
  · exact kj_vret F dX5_reach_52 h
  · refine kj_aload_n F dX5_reach_4 0 rfl rfl ?_
    refine kj_get F dX5_reach_5 in_X5_reach_X5 4 rfl rfl 1 (by decide) (by decide +kernel) rfl rfl ?_
    refine kj_iload_n F dX5_reach_8 1 rfl rfl ?_
    refine kx_iald F dX5_reach_9 2 (by decide) h (fun v1 h => ?_)
    refine kj_iconst F dX5_reach_10 (v := (-1)) (by decide) ?_
    refine kj_icmp_ne F dX5_reach_11 (tgt := 52) (by decide) h (fun hc h => ?_) (fun hc h => ?_)
    · refine kj_aload_n F dX5_reach_14 0 rfl rfl ?_
      refine kj_get F dX5_reach_15 in_X5_reach_X5 4 rfl rfl 4 (by decide) (by decide +kernel) rfl rfl ?_
      refine kj_aload_n F dX5_reach_18 0 rfl rfl ?_
      refine kj_get F dX5_reach_19 in_X5_reach_X5 4 rfl rfl 3 (by decide) (by decide +kernel) rfl rfl ?_
      refine kj_icmp_ge F dX5_reach_22 (tgt := 52) (by decide) h (fun hc h => ?_) (fun hc h => ?_)
      · exact kj_vret F dX5_reach_52 h
      · refine kj_aload_n F dX5_reach_25 0 rfl rfl ?_
        refine kj_get F dX5_reach_26 in_X5_reach_X5 4 rfl rfl 1 (by decide) (by decide +kernel) rfl rfl ?_
        refine kj_iload_n F dX5_reach_29 1 rfl rfl ?_
        refine kj_iload_n F dX5_reach_30 2 rfl rfl ?_
        refine kx_iast F dX5_reach_31 2 (by decide) h (fun z2 h => ?_)
        refine kj_aload_n F dX5_reach_32 0 rfl rfl ?_
        refine kj_get F dX5_reach_33 in_X5_reach_X5 4 rfl rfl 2 (by decide) (by decide +kernel) rfl rfl ?_
        refine kj_aload_n F dX5_reach_36 0 rfl rfl ?_
        refine kj_get F dX5_reach_37 in_X5_reach_X5 4 rfl rfl 4 (by decide) (by decide +kernel) rfl rfl ?_
        refine kj_iload_n F dX5_reach_40 1 rfl rfl ?_
        refine kx_iast F dX5_reach_41 3 (by decide) h (fun z3 h => ?_)
        refine kj_aload_n F dX5_reach_42 0 rfl rfl ?_
        refine kj_dup F dX5_reach_43 rfl ?_
        refine kj_get F dX5_reach_44 in_X5_reach_X5 4 rfl rfl 4 (by decide) (by decide +kernel) rfl rfl ?_
        refine kj_iconst F dX5_reach_47 (v := 1) (by decide) ?_
        refine kj_iadd F dX5_reach_48 ?_
        refine kx_pt F dX5_reach_49 in_X5_reach_X5 tyX5 tyX5_ok nmX5 4 rfl rfl 4 11 (by decide) (by decide +kernel) rfl rfl (by decide +kernel) (Nat.le_of_ble_eq_true rfl) (kx_put11 cA h0 q P _ _) h (fun z4 h => ?_)
        exact kj_vret F dX5_reach_52 h
    · exact kj_vret F dX5_reach_52 h
theorem cs_reach {l : Launch} {D : va_G} {cA : Nat → ClassId} {h0 : Nat} {q : Nat → Nat} {P : va_W} {x1 : Int32} {x2 : Int32} {z : kx_S} {o : kx_S} (h : fs_reach x1 x2 z = some o) : kj_Mv l yX5_reach wsX5_reach rm_X5_reach D (kx_T cA) (kx_W cA h0 q P) z [.ref (q 3), .int x1, .int x2] o :=
  fun sz => kj_start (by decide) rfl (Nat.le_of_ble_eq_true rfl) rfl fun p e s m args below meth c hsz F => js_reach F h
/-! X5_reachNeighbours -/
abbrev rm_X5_reachNeighbours : Room := { frames := 2, cells := 0, slots := 0, locals := 49 }
theorem in_X5_reachNeighbours_X0 : ∀ w ∈ u_ws RX0 TX0 3, w ∈ wsX5_reachNeighbours := by decide +kernel
theorem in_X5_reachNeighbours_X5 : ∀ w ∈ u_ws RX5 TX5 5, w ∈ wsX5_reachNeighbours := by decide +kernel
def fs_reachNeighbours_105 (ba1 bb1 bc1 : Int32) (x2 : Int32) (x3 : Int64) (x5 : Int32) (x6 : Int32) (z : kx_S) : Option ((Int32 × Int64 × Int32 × Int32 × kx_S) ⊕ (Int32 × Int64 × Int32 × kx_S)) :=
  some (.inl (x2, x3, x5, (x6 + 1), z))
def fs_reachNeighbours_68 (ba1 bb1 bc1 : Int32) (x2 : Int32) (x3 : Int64) (x5 : Int32) (x6 : Int32) (z : kx_S) : Option ((Int32 × Int64 × Int32 × Int32 × kx_S) ⊕ (Int32 × Int64 × Int32 × kx_S)) :=
  (fx_shrinksAt ba1 bb1 bc1 x3 x5 x6).bind fun o1 =>
  if o1 = 0 then
  fs_reachNeighbours_105 ba1 bb1 bc1 x2 x3 x5 x6 z
  else
  (fx_cube x5 x6).bind fun o2 =>
  (fs_indexOf (x3 - o2) z).bind fun o3 =>
  (kx_rd (o3.2) 2 x2).bind fun v4 =>
  (fs_reach (o3.1) (v4 + (1 : Int32)) (o3.2)).bind fun o5 =>
  fs_reachNeighbours_105 ba1 bb1 bc1 x2 x3 x5 x6 o5
def fs_reachNeighbours_22 (ba1 bb1 bc1 : Int32) (x2 : Int32) (x3 : Int64) (x5 : Int32) (x6 : Int32) (z : kx_S) : Option ((Int32 × Int64 × Int32 × Int32 × kx_S) ⊕ (Int32 × Int64 × Int32 × kx_S)) :=
  if bb1 ≤ x6 then
  some (.inr (x2, x3, x5, z))
  else
  (fx_growsAt ba1 bb1 bc1 x3 x5 x6).bind fun o1 =>
  if o1 = 0 then
  fs_reachNeighbours_68 ba1 bb1 bc1 x2 x3 x5 x6 z
  else
  (fx_cube x5 x6).bind fun o2 =>
  (fs_indexOf (x3 + o2) z).bind fun o3 =>
  (kx_rd (o3.2) 2 x2).bind fun v4 =>
  (fs_reach (o3.1) (v4 + (1 : Int32)) (o3.2)).bind fun o5 =>
  fs_reachNeighbours_68 ba1 bb1 bc1 x2 x3 x5 x6 o5
def ls_reachNeighbours_22 (ba1 bb1 bc1 : Int32) (n : Nat) (x2 : Int32) (x3 : Int64) (x5 : Int32) (x6 : Int32) (z : kx_S) : Option (Int32 × Int64 × Int32 × kx_S) :=
  kj_it (fun (s : (Int32 × Int64 × Int32 × Int32 × kx_S)) => fs_reachNeighbours_22 ba1 bb1 bc1 (s.1) (s.2.1) (s.2.2.1) (s.2.2.2.1) (s.2.2.2.2)) n (x2, x3, x5, x6, z)
def fs_reachNeighbours_10 (ba1 bb1 bc1 : Int32) (x2 : Int32) (x3 : Int64) (x5 : Int32) (z : kx_S) : Option ((Int32 × Int64 × Int32 × kx_S) ⊕ kx_S) :=
  if ba1 ≤ x5 then
  some (.inr z)
  else
  (ls_reachNeighbours_22 ba1 bb1 bc1 5000 x2 x3 x5 (0 : Int32) z).bind fun r1 =>
  some (.inl ((r1.1), (r1.2.1), ((r1.2.2.1) + 1), (r1.2.2.2)))
def ls_reachNeighbours_10 (ba1 bb1 bc1 : Int32) (n : Nat) (x2 : Int32) (x3 : Int64) (x5 : Int32) (z : kx_S) : Option kx_S :=
  kj_it (fun (s : (Int32 × Int64 × Int32 × kx_S)) => fs_reachNeighbours_10 ba1 bb1 bc1 (s.1) (s.2.1) (s.2.2.1) (s.2.2.2)) n (x2, x3, x5, z)
def fs_reachNeighbours (ba1 bb1 bc1 : Int32) (x2 : Int32) (z : kx_S) : Option kx_S :=
  (kx_rl z 0 x2).bind fun v1 =>
  (ls_reachNeighbours_10 ba1 bb1 bc1 5000 x2 v1 (0 : Int32) z).bind fun r2 =>
  some (r2)
set_option maxRecDepth 20000 in
theorem js_reachNeighbours_105 {p : Program} {l : Launch} {e : Env} {s : State} {m : MethodId} {args : Array Value} {below : List Frame} {meth : Method} {c : Code} {A : Nat → Prop} {D : va_G} {cA : Nat → ClassId} {h0 : Nat} {q : Nat → Nat} {P : va_W} {Q : State → Prop} (F : kj_Fx p s m args meth c cX5_reachNeighbours 7 wsX5_reachNeighbours RX5 none D (kx_T cA) A) {ba1 bb1 bc1 : Int32} {b1 i1 : Nat} (hB1 : P[i1]? = some (b1, .inr (0, [.int ba1, .int bb1, .int bc1]))) {x2 : Int32} {x3 : Int64} {x5 : Int32} {x6 : Int32} {z : kx_S} {o : ((Int32 × Int64 × Int32 × Int32 × kx_S) ⊕ (Int32 × Int64 × Int32 × kx_S))} (h : fs_reachNeighbours_105 ba1 bb1 bc1 x2 x3 x5 x6 z = some o) (kb : ∀ (a0' : Int32) (a1' : Int64) (a2' : Int32) (a3' : Int32) (a4' : kx_S), o = .inl (a0', a1', a2', a3', a4') → kj_J p l e rm_X5_reachNeighbours s m args below meth c 0 0 Q 7 D A ((kx_W cA h0 q P) a4') 22 [(0, .ref (q 3)), (1, .ref b1), (2, .int a0'), (3, .long a1'), (5, .int a2'), (6, .int a3')] []) (ke0 : ∀ (a0' : Int32) (a1' : Int64) (a2' : Int32) (a3' : kx_S), o = .inr (a0', a1', a2', a3') → kj_J p l e rm_X5_reachNeighbours s m args below meth c 0 0 Q 7 D A ((kx_W cA h0 q P) a3') 111 [(0, .ref (q 3)), (1, .ref b1), (2, .int a0'), (3, .long a1'), (5, .int a2')] []) : kj_J p l e rm_X5_reachNeighbours s m args below meth c 0 0 Q 7 D A ((kx_W cA h0 q P) z) 105 [(0, .ref (q 3)), (1, .ref b1), (2, .int x2), (3, .long x3), (5, .int x5), (6, .int x6)] [] := by
  unfold fs_reachNeighbours_105 at h
  refine kj_iinc F dX5_reachNeighbours_105 5 rfl (v := 1) (by decide) (by decide) (lv' := [(6, .int (x6 + 1)), (0, .ref (q 3)), (1, .ref b1), (2, .int x2), (3, .long x3), (5, .int x5)]) rfl ?_
  refine kj_goto F dX5_reachNeighbours_108 (tgt := 22) (by decide) ?_
  refine kj_J.sub [1, 2, 3, 4, 5, 0] rfl ?_
  exact kb x2 x3 x5 (x6 + 1) z (Option.some.inj h).symm
set_option maxRecDepth 20000 in
theorem js_reachNeighbours_68 {p : Program} {l : Launch} {e : Env} {s : State} {m : MethodId} {args : Array Value} {below : List Frame} {meth : Method} {c : Code} {A : Nat → Prop} {D : va_G} {cA : Nat → ClassId} {h0 : Nat} {q : Nat → Nat} {P : va_W} {Q : State → Prop} (F : kj_Fx p s m args meth c cX5_reachNeighbours 7 wsX5_reachNeighbours RX5 none D (kx_T cA) A) {ba1 bb1 bc1 : Int32} {b1 i1 : Nat} (hB1 : P[i1]? = some (b1, .inr (0, [.int ba1, .int bb1, .int bc1]))) {x2 : Int32} {x3 : Int64} {x5 : Int32} {x6 : Int32} {z : kx_S} {o : ((Int32 × Int64 × Int32 × Int32 × kx_S) ⊕ (Int32 × Int64 × Int32 × kx_S))} (h : fs_reachNeighbours_68 ba1 bb1 bc1 x2 x3 x5 x6 z = some o) (kb : ∀ (a0' : Int32) (a1' : Int64) (a2' : Int32) (a3' : Int32) (a4' : kx_S), o = .inl (a0', a1', a2', a3', a4') → kj_J p l e rm_X5_reachNeighbours s m args below meth c 0 0 Q 7 D A ((kx_W cA h0 q P) a4') 22 [(0, .ref (q 3)), (1, .ref b1), (2, .int a0'), (3, .long a1'), (5, .int a2'), (6, .int a3')] []) (ke0 : ∀ (a0' : Int32) (a1' : Int64) (a2' : Int32) (a3' : kx_S), o = .inr (a0', a1', a2', a3') → kj_J p l e rm_X5_reachNeighbours s m args below meth c 0 0 Q 7 D A ((kx_W cA h0 q P) a3') 111 [(0, .ref (q 3)), (1, .ref b1), (2, .int a0'), (3, .long a1'), (5, .int a2')] []) : kj_J p l e rm_X5_reachNeighbours s m args below meth c 0 0 Q 7 D A ((kx_W cA h0 q P) z) 68 [(0, .ref (q 3)), (1, .ref b1), (2, .int x2), (3, .long x3), (5, .int x5), (6, .int x6)] [] := by
  unfold fs_reachNeighbours_68 at h
  refine kj_aload_n F dX5_reachNeighbours_68 1 rfl rfl ?_
  refine kj_lload_n F dX5_reachNeighbours_69 3 rfl rfl ?_
  refine kj_iload F dX5_reachNeighbours_70 4 rfl ?_
  refine kj_iload F dX5_reachNeighbours_72 5 rfl ?_
  refine kj_cVip (As := [.long x3, .int x5, .int x6]) (rest := []) F dX5_reachNeighbours_74 h (fun o h1 => cx_shrinksAt (w := (kx_W cA h0 q P)) (kx_pool hB1) h1) (cwV 3 F.2.2.2.2.1 gX5_reachNeighbours_X0_shrinksAt rfl rfl rfl (by decide +kernel) ⟨Nat.le_of_ble_eq_true rfl, Nat.le_of_ble_eq_true rfl⟩) _ (kx_pool hB1) rfl rfl rfl rfl (Nat.le_of_ble_eq_true rfl) ⟨Nat.zero_le _, Nat.zero_le _⟩ (fun o1 h => ?_)
  refine kj_if_eq F dX5_reachNeighbours_77 (tgt := 105) (by decide) h (fun hc h => ?_) (fun hc h => ?_)
  · exact js_reachNeighbours_105 F hB1 h kb ke0
  · refine kj_aload_n F dX5_reachNeighbours_80 0 rfl rfl ?_
    refine kj_aload_n F dX5_reachNeighbours_81 0 rfl rfl ?_
    refine kj_lload_n F dX5_reachNeighbours_82 3 rfl rfl ?_
    refine kj_iload F dX5_reachNeighbours_83 4 rfl ?_
    refine kj_iload F dX5_reachNeighbours_85 5 rfl ?_
    refine kj_cSlp (As := [.int x5, .int x6]) (rest := [.long x3, .ref (q 3), .ref (q 3)]) F dX5_reachNeighbours_87 h (fun o h1 => cx_cube (w := (kx_W cA h0 q P)) h1) (va_cwS 2 F.2.2.2.2.1 gX5_reachNeighbours_X0_cube rfl rfl rfl (by decide +kernel) ⟨Nat.le_of_ble_eq_true rfl, Nat.le_of_ble_eq_true rfl⟩) rfl rfl (Nat.le_of_ble_eq_true rfl) ⟨Nat.zero_le _, Nat.zero_le _⟩ (fun o2 h => ?_)
    refine kj_lsub F dX5_reachNeighbours_90 ?_
    refine kj_cVi (As := [.long (x3 - o2)]) (rest := [.ref (q 3)]) F dX5_reachNeighbours_91 h (fun o h1 => cs_indexOf h1) (cwV 1 F.2.2.2.2.1 gX5_reachNeighbours_X5_indexOf rfl rfl rfl (by decide +kernel) ⟨Nat.le_of_ble_eq_true rfl, Nat.le_of_ble_eq_true rfl⟩) 4 rfl rfl rfl rfl rfl (Nat.le_of_ble_eq_true rfl) ⟨Nat.zero_le _, Nat.zero_le _⟩ (fun o3 h => ?_)
    refine kj_aload_n F dX5_reachNeighbours_94 0 rfl rfl ?_
    refine kj_get F dX5_reachNeighbours_95 in_X5_reachNeighbours_X5 4 rfl rfl 1 (by decide) (by decide +kernel) rfl rfl ?_
    refine kj_iload_n F dX5_reachNeighbours_98 2 rfl rfl ?_
    refine kx_iald F dX5_reachNeighbours_99 2 (by decide) h (fun v4 h => ?_)
    refine kj_iconst F dX5_reachNeighbours_100 (v := 1) (by decide) ?_
    refine kj_iadd F dX5_reachNeighbours_101 ?_
    refine kj_cVv (As := [.int (o3.1), .int (v4 + (1 : Int32))]) (rest := []) F dX5_reachNeighbours_102 h (fun o h1 => cs_reach h1) (cwV 2 F.2.2.2.2.1 gX5_reachNeighbours_X5_reach rfl rfl rfl (by decide +kernel) ⟨Nat.le_of_ble_eq_true rfl, Nat.le_of_ble_eq_true rfl⟩) 4 rfl rfl rfl rfl rfl (Nat.le_of_ble_eq_true rfl) ⟨Nat.zero_le _, Nat.zero_le _⟩ (fun o5 h => ?_)
    exact js_reachNeighbours_105 F hB1 h kb ke0
set_option maxRecDepth 20000 in
theorem js_reachNeighbours_22 {p : Program} {l : Launch} {e : Env} {s : State} {m : MethodId} {args : Array Value} {below : List Frame} {meth : Method} {c : Code} {A : Nat → Prop} {D : va_G} {cA : Nat → ClassId} {h0 : Nat} {q : Nat → Nat} {P : va_W} {Q : State → Prop} (F : kj_Fx p s m args meth c cX5_reachNeighbours 7 wsX5_reachNeighbours RX5 none D (kx_T cA) A) {ba1 bb1 bc1 : Int32} {b1 i1 : Nat} (hB1 : P[i1]? = some (b1, .inr (0, [.int ba1, .int bb1, .int bc1]))) {x2 : Int32} {x3 : Int64} {x5 : Int32} {x6 : Int32} {z : kx_S} {o : ((Int32 × Int64 × Int32 × Int32 × kx_S) ⊕ (Int32 × Int64 × Int32 × kx_S))} (h : fs_reachNeighbours_22 ba1 bb1 bc1 x2 x3 x5 x6 z = some o) (kb : ∀ (a0' : Int32) (a1' : Int64) (a2' : Int32) (a3' : Int32) (a4' : kx_S), o = .inl (a0', a1', a2', a3', a4') → kj_J p l e rm_X5_reachNeighbours s m args below meth c 0 0 Q 7 D A ((kx_W cA h0 q P) a4') 22 [(0, .ref (q 3)), (1, .ref b1), (2, .int a0'), (3, .long a1'), (5, .int a2'), (6, .int a3')] []) (ke0 : ∀ (a0' : Int32) (a1' : Int64) (a2' : Int32) (a3' : kx_S), o = .inr (a0', a1', a2', a3') → kj_J p l e rm_X5_reachNeighbours s m args below meth c 0 0 Q 7 D A ((kx_W cA h0 q P) a3') 111 [(0, .ref (q 3)), (1, .ref b1), (2, .int a0'), (3, .long a1'), (5, .int a2')] []) : kj_J p l e rm_X5_reachNeighbours s m args below meth c 0 0 Q 7 D A ((kx_W cA h0 q P) z) 22 [(0, .ref (q 3)), (1, .ref b1), (2, .int x2), (3, .long x3), (5, .int x5), (6, .int x6)] [] := by
  unfold fs_reachNeighbours_22 at h
  refine kj_iload F dX5_reachNeighbours_22 5 rfl ?_
  refine kj_aload_n F dX5_reachNeighbours_24 1 rfl rfl ?_
  refine kj_get F dX5_reachNeighbours_25 in_X5_reachNeighbours_X0 _ (kx_pool hB1) rfl 1 (by decide) (by decide +kernel) rfl rfl ?_
  refine kj_icmp_ge F dX5_reachNeighbours_28 (tgt := 111) (by decide) h (fun hc h => ?_) (fun hc h => ?_)
  · refine kj_J.sub [0, 1, 2, 3, 4] rfl ?_
    exact ke0 x2 x3 x5 z (Option.some.inj h).symm
  · refine kj_aload_n F dX5_reachNeighbours_31 1 rfl rfl ?_
    refine kj_lload_n F dX5_reachNeighbours_32 3 rfl rfl ?_
    refine kj_iload F dX5_reachNeighbours_33 4 rfl ?_
    refine kj_iload F dX5_reachNeighbours_35 5 rfl ?_
    refine kj_cVip (As := [.long x3, .int x5, .int x6]) (rest := []) F dX5_reachNeighbours_37 h (fun o h1 => cx_growsAt (w := (kx_W cA h0 q P)) (kx_pool hB1) h1) (cwV 3 F.2.2.2.2.1 gX5_reachNeighbours_X0_growsAt rfl rfl rfl (by decide +kernel) ⟨Nat.le_of_ble_eq_true rfl, Nat.le_of_ble_eq_true rfl⟩) _ (kx_pool hB1) rfl rfl rfl rfl (Nat.le_of_ble_eq_true rfl) ⟨Nat.zero_le _, Nat.zero_le _⟩ (fun o1 h => ?_)
    refine kj_if_eq F dX5_reachNeighbours_40 (tgt := 68) (by decide) h (fun hc h => ?_) (fun hc h => ?_)
    · exact js_reachNeighbours_68 F hB1 h kb ke0
    · refine kj_aload_n F dX5_reachNeighbours_43 0 rfl rfl ?_
      refine kj_aload_n F dX5_reachNeighbours_44 0 rfl rfl ?_
      refine kj_lload_n F dX5_reachNeighbours_45 3 rfl rfl ?_
      refine kj_iload F dX5_reachNeighbours_46 4 rfl ?_
      refine kj_iload F dX5_reachNeighbours_48 5 rfl ?_
      refine kj_cSlp (As := [.int x5, .int x6]) (rest := [.long x3, .ref (q 3), .ref (q 3)]) F dX5_reachNeighbours_50 h (fun o h1 => cx_cube (w := (kx_W cA h0 q P)) h1) (va_cwS 2 F.2.2.2.2.1 gX5_reachNeighbours_X0_cube rfl rfl rfl (by decide +kernel) ⟨Nat.le_of_ble_eq_true rfl, Nat.le_of_ble_eq_true rfl⟩) rfl rfl (Nat.le_of_ble_eq_true rfl) ⟨Nat.zero_le _, Nat.zero_le _⟩ (fun o2 h => ?_)
      refine kj_ladd F dX5_reachNeighbours_53 ?_
      refine kj_cVi (As := [.long (x3 + o2)]) (rest := [.ref (q 3)]) F dX5_reachNeighbours_54 h (fun o h1 => cs_indexOf h1) (cwV 1 F.2.2.2.2.1 gX5_reachNeighbours_X5_indexOf rfl rfl rfl (by decide +kernel) ⟨Nat.le_of_ble_eq_true rfl, Nat.le_of_ble_eq_true rfl⟩) 4 rfl rfl rfl rfl rfl (Nat.le_of_ble_eq_true rfl) ⟨Nat.zero_le _, Nat.zero_le _⟩ (fun o3 h => ?_)
      refine kj_aload_n F dX5_reachNeighbours_57 0 rfl rfl ?_
      refine kj_get F dX5_reachNeighbours_58 in_X5_reachNeighbours_X5 4 rfl rfl 1 (by decide) (by decide +kernel) rfl rfl ?_
      refine kj_iload_n F dX5_reachNeighbours_61 2 rfl rfl ?_
      refine kx_iald F dX5_reachNeighbours_62 2 (by decide) h (fun v4 h => ?_)
      refine kj_iconst F dX5_reachNeighbours_63 (v := 1) (by decide) ?_
      refine kj_iadd F dX5_reachNeighbours_64 ?_
      refine kj_cVv (As := [.int (o3.1), .int (v4 + (1 : Int32))]) (rest := []) F dX5_reachNeighbours_65 h (fun o h1 => cs_reach h1) (cwV 2 F.2.2.2.2.1 gX5_reachNeighbours_X5_reach rfl rfl rfl (by decide +kernel) ⟨Nat.le_of_ble_eq_true rfl, Nat.le_of_ble_eq_true rfl⟩) 4 rfl rfl rfl rfl rfl (Nat.le_of_ble_eq_true rfl) ⟨Nat.zero_le _, Nat.zero_le _⟩ (fun o5 h => ?_)
      exact js_reachNeighbours_68 F hB1 h kb ke0
theorem jls_reachNeighbours_22 {p : Program} {l : Launch} {e : Env} {s : State} {m : MethodId} {args : Array Value} {below : List Frame} {meth : Method} {c : Code} {A : Nat → Prop} {D : va_G} {cA : Nat → ClassId} {h0 : Nat} {q : Nat → Nat} {P : va_W} {Q : State → Prop} (F : kj_Fx p s m args meth c cX5_reachNeighbours 7 wsX5_reachNeighbours RX5 none D (kx_T cA) A) {ba1 bb1 bc1 : Int32} {b1 i1 : Nat} (hB1 : P[i1]? = some (b1, .inr (0, [.int ba1, .int bb1, .int bc1]))) {n : Nat} {x2 : Int32} {x3 : Int64} {x5 : Int32} {x6 : Int32} {z : kx_S} {r : (Int32 × Int64 × Int32 × kx_S)} (h : ls_reachNeighbours_22 ba1 bb1 bc1 n x2 x3 x5 x6 z = some r) (ke : kj_J p l e rm_X5_reachNeighbours s m args below meth c 0 0 Q 7 D A ((kx_W cA h0 q P) (r.2.2.2)) 111 [(0, .ref (q 3)), (1, .ref b1), (2, .int (r.1)), (3, .long (r.2.1)), (5, .int (r.2.2.1))] []) : kj_J p l e rm_X5_reachNeighbours s m args below meth c 0 0 Q 7 D A ((kx_W cA h0 q P) z) 22 [(0, .ref (q 3)), (1, .ref b1), (2, .int x2), (3, .long x3), (5, .int x5), (6, .int x6)] [] :=
  kj_it_J (Wh := fun (u : (Int32 × Int64 × Int32 × Int32 × kx_S)) => kj_J p l e rm_X5_reachNeighbours s m args below meth c 0 0 Q 7 D A ((kx_W cA h0 q P) (u.2.2.2.2)) 22 [(0, .ref (q 3)), (1, .ref b1), (2, .int (u.1)), (3, .long (u.2.1)), (5, .int (u.2.2.1)), (6, .int (u.2.2.2.1))] []) (We := fun r => kj_J p l e rm_X5_reachNeighbours s m args below meth c 0 0 Q 7 D A ((kx_W cA h0 q P) (r.2.2.2)) 111 [(0, .ref (q 3)), (1, .ref b1), (2, .int (r.1)), (3, .long (r.2.1)), (5, .int (r.2.2.1))] []) (fun u o h kb ke => js_reachNeighbours_22 F hB1 h (fun a0' a1' a2' a3' a4' e => kb (a0', a1', a2', a3', a4') e) (fun a0' a1' a2' a3' e => ke (a0', a1', a2', a3') e)) n (x2, x3, x5, x6, z) r h ke
set_option maxRecDepth 20000 in
theorem js_reachNeighbours_10 {p : Program} {l : Launch} {e : Env} {s : State} {m : MethodId} {args : Array Value} {below : List Frame} {meth : Method} {c : Code} {A : Nat → Prop} {D : va_G} {cA : Nat → ClassId} {h0 : Nat} {q : Nat → Nat} {P : va_W} {Q : State → Prop} (F : kj_Fx p s m args meth c cX5_reachNeighbours 7 wsX5_reachNeighbours RX5 none D (kx_T cA) A) {ba1 bb1 bc1 : Int32} {b1 i1 : Nat} (hB1 : P[i1]? = some (b1, .inr (0, [.int ba1, .int bb1, .int bc1]))) {x2 : Int32} {x3 : Int64} {x5 : Int32} {z : kx_S} {o : ((Int32 × Int64 × Int32 × kx_S) ⊕ kx_S)} (h : fs_reachNeighbours_10 ba1 bb1 bc1 x2 x3 x5 z = some o) (kb : ∀ (a0' : Int32) (a1' : Int64) (a2' : Int32) (a3' : kx_S), o = .inl (a0', a1', a2', a3') → kj_J p l e rm_X5_reachNeighbours s m args below meth c 0 0 Q 7 D A ((kx_W cA h0 q P) a3') 10 [(0, .ref (q 3)), (1, .ref b1), (2, .int a0'), (3, .long a1'), (5, .int a2')] []) (ke0 : ∀ (a0' : kx_S), o = .inr a0' → kj_J p l e rm_X5_reachNeighbours s m args below meth c 0 0 Q 7 D A ((kx_W cA h0 q P) a0') 117 [] []) : kj_J p l e rm_X5_reachNeighbours s m args below meth c 0 0 Q 7 D A ((kx_W cA h0 q P) z) 10 [(0, .ref (q 3)), (1, .ref b1), (2, .int x2), (3, .long x3), (5, .int x5)] [] := by
  unfold fs_reachNeighbours_10 at h
  refine kj_iload F dX5_reachNeighbours_10 4 rfl ?_
  refine kj_aload_n F dX5_reachNeighbours_12 1 rfl rfl ?_
  refine kj_get F dX5_reachNeighbours_13 in_X5_reachNeighbours_X0 _ (kx_pool hB1) rfl 0 (by decide) (by decide +kernel) rfl rfl ?_
  refine kj_icmp_ge F dX5_reachNeighbours_16 (tgt := 117) (by decide) h (fun hc h => ?_) (fun hc h => ?_)
  · refine kj_J.sub [] rfl ?_
    exact ke0 z (Option.some.inj h).symm
  · refine kj_iconst F dX5_reachNeighbours_19 (v := 0) (by decide) ?_
    refine kj_istore F dX5_reachNeighbours_20 (lv' := [(6, .int (0 : Int32)), (0, .ref (q 3)), (1, .ref b1), (2, .int x2), (3, .long x3), (5, .int x5)]) (by decide) rfl ?_
    refine kj_J.sub [1, 2, 3, 4, 5, 0] rfl ?_
    refine kj_bn h (fun r1 h1 h => ?_)
    refine jls_reachNeighbours_22 F hB1 h1 ?_
    refine kj_iinc F dX5_reachNeighbours_111 4 rfl (v := 1) (by decide) (by decide) (lv' := [(5, .int ((r1.2.2.1) + 1)), (0, .ref (q 3)), (1, .ref b1), (2, .int (r1.1)), (3, .long (r1.2.1))]) rfl ?_
    refine kj_goto F dX5_reachNeighbours_114 (tgt := 10) (by decide) ?_
    refine kj_J.sub [1, 2, 3, 4, 0] rfl ?_
    exact kb (r1.1) (r1.2.1) ((r1.2.2.1) + 1) (r1.2.2.2) (Option.some.inj h).symm
theorem jls_reachNeighbours_10 {p : Program} {l : Launch} {e : Env} {s : State} {m : MethodId} {args : Array Value} {below : List Frame} {meth : Method} {c : Code} {A : Nat → Prop} {D : va_G} {cA : Nat → ClassId} {h0 : Nat} {q : Nat → Nat} {P : va_W} {Q : State → Prop} (F : kj_Fx p s m args meth c cX5_reachNeighbours 7 wsX5_reachNeighbours RX5 none D (kx_T cA) A) {ba1 bb1 bc1 : Int32} {b1 i1 : Nat} (hB1 : P[i1]? = some (b1, .inr (0, [.int ba1, .int bb1, .int bc1]))) {n : Nat} {x2 : Int32} {x3 : Int64} {x5 : Int32} {z : kx_S} {r : kx_S} (h : ls_reachNeighbours_10 ba1 bb1 bc1 n x2 x3 x5 z = some r) (ke : kj_J p l e rm_X5_reachNeighbours s m args below meth c 0 0 Q 7 D A ((kx_W cA h0 q P) (r)) 117 [] []) : kj_J p l e rm_X5_reachNeighbours s m args below meth c 0 0 Q 7 D A ((kx_W cA h0 q P) z) 10 [(0, .ref (q 3)), (1, .ref b1), (2, .int x2), (3, .long x3), (5, .int x5)] [] :=
  kj_it_J (Wh := fun (u : (Int32 × Int64 × Int32 × kx_S)) => kj_J p l e rm_X5_reachNeighbours s m args below meth c 0 0 Q 7 D A ((kx_W cA h0 q P) (u.2.2.2)) 10 [(0, .ref (q 3)), (1, .ref b1), (2, .int (u.1)), (3, .long (u.2.1)), (5, .int (u.2.2.1))] []) (We := fun r => kj_J p l e rm_X5_reachNeighbours s m args below meth c 0 0 Q 7 D A ((kx_W cA h0 q P) (r)) 117 [] []) (fun u o h kb ke => js_reachNeighbours_10 F hB1 h (fun a0' a1' a2' a3' e => kb (a0', a1', a2', a3') e) (fun a0' e => ke a0' e)) n (x2, x3, x5, z) r h ke
set_option maxRecDepth 20000 in
theorem js_reachNeighbours {p : Program} {l : Launch} {e : Env} {s : State} {m : MethodId} {args : Array Value} {below : List Frame} {meth : Method} {c : Code} {A : Nat → Prop} {D : va_G} {cA : Nat → ClassId} {h0 : Nat} {q : Nat → Nat} {P : va_W} (F : kj_Fx p s m args meth c cX5_reachNeighbours 7 wsX5_reachNeighbours RX5 none D (kx_T cA) A) {ba1 bb1 bc1 : Int32} {b1 i1 : Nat} (hB1 : P[i1]? = some (b1, .inr (0, [.int ba1, .int bb1, .int bc1]))) {x2 : Int32} {z : kx_S} {o : kx_S} (h : fs_reachNeighbours ba1 bb1 bc1 x2 z = some o) : kj_J p l e rm_X5_reachNeighbours s m args below meth c 0 0 (MQ below (kj_Qv D (kx_T cA) A (kx_W cA h0 q P) o) args s 0 0 A) 7 D A ((kx_W cA h0 q P) z) 0 [(0, .ref (q 3)), (1, .ref b1), (2, .int x2)] [] := by
  unfold fs_reachNeighbours at h
  refine kj_aload_n F dX5_reachNeighbours_0 0 rfl rfl ?_
  refine kj_get F dX5_reachNeighbours_1 in_X5_reachNeighbours_X5 4 rfl rfl 0 (by decide) (by decide +kernel) rfl rfl ?_
  refine kj_iload_n F dX5_reachNeighbours_4 2 rfl rfl ?_
  refine kx_lald F dX5_reachNeighbours_5 0 (by decide) h (fun v1 h => ?_)
  refine kj_lstore_n F dX5_reachNeighbours_6 (lv' := [(3, .long v1), (0, .ref (q 3)), (1, .ref b1), (2, .int x2)]) rfl (by decide) rfl ?_
  refine kj_iconst F dX5_reachNeighbours_7 (v := 0) (by decide) ?_
  refine kj_istore F dX5_reachNeighbours_8 (lv' := [(5, .int (0 : Int32)), (3, .long v1), (0, .ref (q 3)), (1, .ref b1), (2, .int x2)]) (by decide) rfl ?_
  refine kj_J.sub [2, 3, 4, 1, 0] rfl ?_
  refine kj_bn h (fun r2 h1 h => ?_)
  refine jls_reachNeighbours_10 F hB1 h1 ?_
  exact kj_vret F dX5_reachNeighbours_117 h
theorem cs_reachNeighbours {l : Launch} {D : va_G} {cA : Nat → ClassId} {h0 : Nat} {q : Nat → Nat} {P : va_W} {ba1 bb1 bc1 : Int32} {b1 i1 : Nat} (hB1 : P[i1]? = some (b1, .inr (0, [.int ba1, .int bb1, .int bc1]))) {x2 : Int32} {z : kx_S} {o : kx_S} (h : fs_reachNeighbours ba1 bb1 bc1 x2 z = some o) : kj_Mv l yX5_reachNeighbours wsX5_reachNeighbours rm_X5_reachNeighbours D (kx_T cA) (kx_W cA h0 q P) z [.ref (q 3), .ref b1, .int x2] o :=
  fun sz => kj_start (by decide) rfl (Nat.le_of_ble_eq_true rfl) rfl fun p e s m args below meth c hsz F => js_reachNeighbours F hB1 h
/-! X5_shortest -/
abbrev rm_X5_shortest : Room := { frames := 3, cells := 0, slots := 0, locals := 75 }
theorem in_X5_shortest_X5 : ∀ w ∈ u_ws RX5 TX5 5, w ∈ wsX5_shortest := by decide +kernel
def fs_shortest_54 (ba1 bb1 bc1 : Int32) (x7 : Int32) (x8 : Int32) (z : kx_S) : Option ((Int32 × Int32 × kx_S) ⊕ (Int32 × kx_S)) :=
  if (z.1 11) ≤ x8 then
  some (.inr (x7, z))
  else
  (kx_rd z 2 x7).bind fun v1 =>
  if 0 ≤ v1 then
  some (.inr (x7, z))
  else
  (kx_rd z 3 x8).bind fun v2 =>
  (fs_reachNeighbours ba1 bb1 bc1 v2 z).bind fun o3 =>
  some (.inl (x7, (x8 + 1), o3))
def ls_shortest_54 (ba1 bb1 bc1 : Int32) (n : Nat) (x7 : Int32) (x8 : Int32) (z : kx_S) : Option (Int32 × kx_S) :=
  kj_it (fun (s : (Int32 × Int32 × kx_S)) => fs_shortest_54 ba1 bb1 bc1 (s.1) (s.2.1) (s.2.2)) n (x7, x8, z)
def fs_shortest_91 (ba1 bb1 bc1 : Int32) (x7 : Int32) (z : kx_S) : Option (Int32 × kx_S) :=
  (kx_rd z 2 x7).bind fun v1 =>
  if 0 ≤ v1 then
  (kx_rd z 2 x7).bind fun v2 =>
  some (v2, z)
  else
  some (((-1000000) : Int32), z)
def fs_shortest (ba1 bb1 bc1 : Int32) (x2 : Int64) (x4 : Int64) (z : kx_S) : Option (Int32 × kx_S) :=
  (fs_indexOf x2 z).bind fun o1 =>
  (fs_indexOf x4 (o1.2)).bind fun o2 =>
  if (o1.1) < 0 then
  some (((-1000000) : Int32), (o2.2))
  else
  if 0 ≤ (o2.1) then
  (kx_wr (o2.2) 2 (o2.1) (-1 : Int32)).bind fun z3 =>
  (kx_wr z3 2 (o1.1) (-1 : Int32)).bind fun z4 =>
  (fs_reach (o1.1) (0 : Int32) z4).bind fun o5 =>
  (ls_shortest_54 ba1 bb1 bc1 5000 (o2.1) (0 : Int32) o5).bind fun r6 =>
  fs_shortest_91 ba1 bb1 bc1 (r6.1) (r6.2)
  else
  some (((-1000000) : Int32), (o2.2))
set_option maxRecDepth 20000 in
theorem js_shortest_54 {p : Program} {l : Launch} {e : Env} {s : State} {m : MethodId} {args : Array Value} {below : List Frame} {meth : Method} {c : Code} {A : Nat → Prop} {D : va_G} {cA : Nat → ClassId} {h0 : Nat} {q : Nat → Nat} {P : va_W} {Q : State → Prop} (F : kj_Fx p s m args meth c cX5_shortest 9 wsX5_shortest RX5 (some .int) D (kx_T cA) A) {ba1 bb1 bc1 : Int32} {b1 i1 : Nat} (hB1 : P[i1]? = some (b1, .inr (0, [.int ba1, .int bb1, .int bc1]))) {x7 : Int32} {x8 : Int32} {z : kx_S} {o : ((Int32 × Int32 × kx_S) ⊕ (Int32 × kx_S))} (h : fs_shortest_54 ba1 bb1 bc1 x7 x8 z = some o) (kb : ∀ (a0' : Int32) (a1' : Int32) (a2' : kx_S), o = .inl (a0', a1', a2') → kj_J p l e rm_X5_shortest s m args below meth c 0 0 Q 9 D A ((kx_W cA h0 q P) a2') 54 [(0, .ref (q 3)), (1, .ref b1), (7, .int a0'), (8, .int a1')] []) (ke0 : ∀ (a0' : Int32) (a1' : kx_S), o = .inr (a0', a1') → kj_J p l e rm_X5_shortest s m args below meth c 0 0 Q 9 D A ((kx_W cA h0 q P) a1') 91 [(0, .ref (q 3)), (7, .int a0')] []) : kj_J p l e rm_X5_shortest s m args below meth c 0 0 Q 9 D A ((kx_W cA h0 q P) z) 54 [(0, .ref (q 3)), (1, .ref b1), (7, .int x7), (8, .int x8)] [] := by
  unfold fs_shortest_54 at h
  refine kj_iload F dX5_shortest_54 3 rfl ?_
  refine kj_aload_n F dX5_shortest_56 0 rfl rfl ?_
  refine kj_get F dX5_shortest_57 in_X5_shortest_X5 4 rfl rfl 4 (by decide) (by decide +kernel) rfl rfl ?_
  refine kj_icmp_ge F dX5_shortest_60 (tgt := 91) (by decide) h (fun hc h => ?_) (fun hc h => ?_)
  · refine kj_J.sub [0, 2] rfl ?_
    exact ke0 x7 z (Option.some.inj h).symm
  · refine kj_aload_n F dX5_shortest_63 0 rfl rfl ?_
    refine kj_get F dX5_shortest_64 in_X5_shortest_X5 4 rfl rfl 1 (by decide) (by decide +kernel) rfl rfl ?_
    refine kj_iload F dX5_shortest_67 2 rfl ?_
    refine kx_iald F dX5_shortest_69 2 (by decide) h (fun v1 h => ?_)
    refine kj_if_ge F dX5_shortest_70 (tgt := 91) (by decide) h (fun hc h => ?_) (fun hc h => ?_)
    · refine kj_J.sub [0, 2] rfl ?_
      exact ke0 x7 z (Option.some.inj h).symm
    · refine kj_aload_n F dX5_shortest_73 0 rfl rfl ?_
      refine kj_aload_n F dX5_shortest_74 1 rfl rfl ?_
      refine kj_aload_n F dX5_shortest_75 0 rfl rfl ?_
      refine kj_get F dX5_shortest_76 in_X5_shortest_X5 4 rfl rfl 2 (by decide) (by decide +kernel) rfl rfl ?_
      refine kj_iload F dX5_shortest_79 3 rfl ?_
      refine kx_iald F dX5_shortest_81 3 (by decide) h (fun v2 h => ?_)
      refine kj_cVv (As := [.ref b1, .int v2]) (rest := []) F dX5_shortest_82 h (fun o h1 => cs_reachNeighbours hB1 h1) (cwV 2 F.2.2.2.2.1 gX5_shortest_X5_reachNeighbours rfl rfl rfl (by decide +kernel) ⟨Nat.le_of_ble_eq_true rfl, Nat.le_of_ble_eq_true rfl⟩) 4 rfl rfl rfl rfl rfl (Nat.le_of_ble_eq_true rfl) ⟨Nat.zero_le _, Nat.zero_le _⟩ (fun o3 h => ?_)
      refine kj_iinc F dX5_shortest_85 3 rfl (v := 1) (by decide) (by decide) (lv' := [(8, .int (x8 + 1)), (0, .ref (q 3)), (1, .ref b1), (7, .int x7)]) rfl ?_
      refine kj_goto F dX5_shortest_88 (tgt := 54) (by decide) ?_
      refine kj_J.sub [1, 2, 3, 0] rfl ?_
      exact kb x7 (x8 + 1) o3 (Option.some.inj h).symm
theorem jls_shortest_54 {p : Program} {l : Launch} {e : Env} {s : State} {m : MethodId} {args : Array Value} {below : List Frame} {meth : Method} {c : Code} {A : Nat → Prop} {D : va_G} {cA : Nat → ClassId} {h0 : Nat} {q : Nat → Nat} {P : va_W} {Q : State → Prop} (F : kj_Fx p s m args meth c cX5_shortest 9 wsX5_shortest RX5 (some .int) D (kx_T cA) A) {ba1 bb1 bc1 : Int32} {b1 i1 : Nat} (hB1 : P[i1]? = some (b1, .inr (0, [.int ba1, .int bb1, .int bc1]))) {n : Nat} {x7 : Int32} {x8 : Int32} {z : kx_S} {r : (Int32 × kx_S)} (h : ls_shortest_54 ba1 bb1 bc1 n x7 x8 z = some r) (ke : kj_J p l e rm_X5_shortest s m args below meth c 0 0 Q 9 D A ((kx_W cA h0 q P) (r.2)) 91 [(0, .ref (q 3)), (7, .int (r.1))] []) : kj_J p l e rm_X5_shortest s m args below meth c 0 0 Q 9 D A ((kx_W cA h0 q P) z) 54 [(0, .ref (q 3)), (1, .ref b1), (7, .int x7), (8, .int x8)] [] :=
  kj_it_J (Wh := fun (u : (Int32 × Int32 × kx_S)) => kj_J p l e rm_X5_shortest s m args below meth c 0 0 Q 9 D A ((kx_W cA h0 q P) (u.2.2)) 54 [(0, .ref (q 3)), (1, .ref b1), (7, .int (u.1)), (8, .int (u.2.1))] []) (We := fun r => kj_J p l e rm_X5_shortest s m args below meth c 0 0 Q 9 D A ((kx_W cA h0 q P) (r.2)) 91 [(0, .ref (q 3)), (7, .int (r.1))] []) (fun u o h kb ke => js_shortest_54 F hB1 h (fun a0' a1' a2' e => kb (a0', a1', a2') e) (fun a0' a1' e => ke (a0', a1') e)) n (x7, x8, z) r h ke
set_option maxRecDepth 20000 in
theorem js_shortest_91 {p : Program} {l : Launch} {e : Env} {s : State} {m : MethodId} {args : Array Value} {below : List Frame} {meth : Method} {c : Code} {A : Nat → Prop} {D : va_G} {cA : Nat → ClassId} {h0 : Nat} {q : Nat → Nat} {P : va_W} (F : kj_Fx p s m args meth c cX5_shortest 9 wsX5_shortest RX5 (some .int) D (kx_T cA) A) {ba1 bb1 bc1 : Int32} {b1 i1 : Nat} (hB1 : P[i1]? = some (b1, .inr (0, [.int ba1, .int bb1, .int bc1]))) {x7 : Int32} {z : kx_S} {o : (Int32 × kx_S)} (h : fs_shortest_91 ba1 bb1 bc1 x7 z = some o) : kj_J p l e rm_X5_shortest s m args below meth c 0 0 (MQ below (kj_Qi D (kx_T cA) A (kx_W cA h0 q P) o) args s 0 0 A) 9 D A ((kx_W cA h0 q P) z) 91 [(0, .ref (q 3)), (7, .int x7)] [] := by
  unfold fs_shortest_91 at h
  refine kj_aload_n F dX5_shortest_91 0 rfl rfl ?_
  refine kj_get F dX5_shortest_92 in_X5_shortest_X5 4 rfl rfl 1 (by decide) (by decide +kernel) rfl rfl ?_
  refine kj_iload F dX5_shortest_95 1 rfl ?_
  refine kx_iald F dX5_shortest_97 2 (by decide) h (fun v1 h => ?_)
  refine kj_if_ge F dX5_shortest_98 (tgt := 106) (by decide) h (fun hc h => ?_) (fun hc h => ?_)
  · refine kj_aload_n F dX5_shortest_106 0 rfl rfl ?_
    refine kj_get F dX5_shortest_107 in_X5_shortest_X5 4 rfl rfl 1 (by decide) (by decide +kernel) rfl rfl ?_
    refine kj_iload F dX5_shortest_110 1 rfl ?_
    refine kx_iald F dX5_shortest_112 2 (by decide) h (fun v2 h => ?_)
    exact kj_iret F dX5_shortest_113 h
  · refine kj_ldc F dX5_shortest_101 (v := (-1000000)) (by decide +kernel) ?_
    refine kj_goto F dX5_shortest_103 (tgt := 113) (by decide) ?_
    exact kj_iret F dX5_shortest_113 h
set_option maxRecDepth 20000 in
theorem js_shortest {p : Program} {l : Launch} {e : Env} {s : State} {m : MethodId} {args : Array Value} {below : List Frame} {meth : Method} {c : Code} {A : Nat → Prop} {D : va_G} {cA : Nat → ClassId} {h0 : Nat} {q : Nat → Nat} {P : va_W} (F : kj_Fx p s m args meth c cX5_shortest 9 wsX5_shortest RX5 (some .int) D (kx_T cA) A) {ba1 bb1 bc1 : Int32} {b1 i1 : Nat} (hB1 : P[i1]? = some (b1, .inr (0, [.int ba1, .int bb1, .int bc1]))) {x2 : Int64} {x4 : Int64} {z : kx_S} {o : (Int32 × kx_S)} (h : fs_shortest ba1 bb1 bc1 x2 x4 z = some o) : kj_J p l e rm_X5_shortest s m args below meth c 0 0 (MQ below (kj_Qi D (kx_T cA) A (kx_W cA h0 q P) o) args s 0 0 A) 9 D A ((kx_W cA h0 q P) z) 0 [(0, .ref (q 3)), (1, .ref b1), (2, .long x2), (4, .long x4)] [] := by
  unfold fs_shortest at h
  refine kj_aload_n F dX5_shortest_0 0 rfl rfl ?_
  refine kj_lload_n F dX5_shortest_1 2 rfl rfl ?_
  refine kj_cVi (As := [.long x2]) (rest := []) F dX5_shortest_2 h (fun o h1 => cs_indexOf h1) (cwV 1 F.2.2.2.2.1 gX5_shortest_X5_indexOf rfl rfl rfl (by decide +kernel) ⟨Nat.le_of_ble_eq_true rfl, Nat.le_of_ble_eq_true rfl⟩) 4 rfl rfl rfl rfl rfl (Nat.le_of_ble_eq_true rfl) ⟨Nat.zero_le _, Nat.zero_le _⟩ (fun o1 h => ?_)
  refine kj_istore F dX5_shortest_5 (lv' := [(6, .int (o1.1)), (0, .ref (q 3)), (1, .ref b1), (2, .long x2), (4, .long x4)]) (by decide) rfl ?_
  refine kj_aload_n F dX5_shortest_7 1 rfl rfl ?_
  refine kj_lload F dX5_shortest_8 4 rfl ?_
  refine kj_cVi (As := [.long x4]) (rest := []) F dX5_shortest_10 h (fun o h1 => cs_indexOf h1) (cwV 1 F.2.2.2.2.1 gX5_shortest_X5_indexOf rfl rfl rfl (by decide +kernel) ⟨Nat.le_of_ble_eq_true rfl, Nat.le_of_ble_eq_true rfl⟩) 4 rfl rfl rfl rfl rfl (Nat.le_of_ble_eq_true rfl) ⟨Nat.zero_le _, Nat.zero_le _⟩ (fun o2 h => ?_)
  refine kj_istore F dX5_shortest_13 (lv' := [(7, .int (o2.1)), (6, .int (o1.1)), (0, .ref (q 3)), (1, .ref b1), (2, .long x2), (4, .long x4)]) (by decide) rfl ?_
  refine kj_iload F dX5_shortest_15 1 rfl ?_
  refine kj_if_lt F dX5_shortest_17 (tgt := 25) (by decide) h (fun hc h => ?_) (fun hc h => ?_)
  · refine kj_ldc F dX5_shortest_25 (v := (-1000000)) (by decide +kernel) ?_
    exact kj_iret F dX5_shortest_27 h
  · refine kj_iload F dX5_shortest_20 0 rfl ?_
    refine kj_if_ge F dX5_shortest_22 (tgt := 28) (by decide) h (fun hc h => ?_) (fun hc h => ?_)
    · refine kj_aload_n F dX5_shortest_28 2 rfl rfl ?_
      refine kj_get F dX5_shortest_29 in_X5_shortest_X5 4 rfl rfl 1 (by decide) (by decide +kernel) rfl rfl ?_
      refine kj_iload F dX5_shortest_32 0 rfl ?_
      refine kj_iconst F dX5_shortest_34 (v := (-1)) (by decide) ?_
      refine kx_iast F dX5_shortest_35 2 (by decide) h (fun z3 h => ?_)
      refine kj_aload_n F dX5_shortest_36 2 rfl rfl ?_
      refine kj_get F dX5_shortest_37 in_X5_shortest_X5 4 rfl rfl 1 (by decide) (by decide +kernel) rfl rfl ?_
      refine kj_iload F dX5_shortest_40 1 rfl ?_
      refine kj_iconst F dX5_shortest_42 (v := (-1)) (by decide) ?_
      refine kx_iast F dX5_shortest_43 2 (by decide) h (fun z4 h => ?_)
      refine kj_aload_n F dX5_shortest_44 2 rfl rfl ?_
      refine kj_iload F dX5_shortest_45 1 rfl ?_
      refine kj_iconst F dX5_shortest_47 (v := 0) (by decide) ?_
      refine kj_cVv (As := [.int (o1.1), .int (0 : Int32)]) (rest := []) F dX5_shortest_48 h (fun o h1 => cs_reach h1) (cwV 2 F.2.2.2.2.1 gX5_shortest_X5_reach rfl rfl rfl (by decide +kernel) ⟨Nat.le_of_ble_eq_true rfl, Nat.le_of_ble_eq_true rfl⟩) 4 rfl rfl rfl rfl rfl (Nat.le_of_ble_eq_true rfl) ⟨Nat.zero_le _, Nat.zero_le _⟩ (fun o5 h => ?_)
      refine kj_iconst F dX5_shortest_51 (v := 0) (by decide) ?_
      refine kj_istore F dX5_shortest_52 (lv' := [(8, .int (0 : Int32)), (7, .int (o2.1)), (6, .int (o1.1)), (0, .ref (q 3)), (1, .ref b1), (2, .long x2), (4, .long x4)]) (by decide) rfl ?_
      refine kj_J.sub [3, 4, 1, 0] rfl ?_
      refine kj_bn h (fun r6 h1 h => ?_)
      refine jls_shortest_54 F hB1 h1 ?_
      exact js_shortest_91 F hB1 h
    · refine kj_ldc F dX5_shortest_25 (v := (-1000000)) (by decide +kernel) ?_
      exact kj_iret F dX5_shortest_27 h
theorem cs_shortest {l : Launch} {D : va_G} {cA : Nat → ClassId} {h0 : Nat} {q : Nat → Nat} {P : va_W} {ba1 bb1 bc1 : Int32} {b1 i1 : Nat} (hB1 : P[i1]? = some (b1, .inr (0, [.int ba1, .int bb1, .int bc1]))) {x2 : Int64} {x4 : Int64} {z : kx_S} {o : (Int32 × kx_S)} (h : fs_shortest ba1 bb1 bc1 x2 x4 z = some o) : kj_Mi l yX5_shortest wsX5_shortest rm_X5_shortest D (kx_T cA) (kx_W cA h0 q P) z [.ref (q 3), .ref b1, .long x2, .long x4] o :=
  fun sz => kj_start (by decide) rfl (Nat.le_of_ble_eq_true rfl) rfl fun p e s m args below meth c hsz F => js_shortest F hB1 h
/-! X5_prepare -/
abbrev rm_X5_prepare : Room := { frames := 3, cells := 0, slots := 0, locals := 75 }
theorem in_X5_prepare_X5 : ∀ w ∈ u_ws RX5 TX5 5, w ∈ wsX5_prepare := by decide +kernel
def fs_prepare_66 (ba1 bb1 bc1 : Int32) (x3 : Int32) (x4 : Int64) (x6 : Int32) (t0 : Int32) (t1 : Int32) (z : kx_S) : Option ((Int32 × Int64 × Int32 × kx_S) ⊕ kx_S) :=
  (kx_wr z 2 t1 t0).bind fun z1 =>
  (fx_following ba1 bb1 bc1 x4).bind fun o2 =>
  some (.inl (x3, o2, (x6 + 1), z1))
def fs_prepare_65 (ba1 bb1 bc1 : Int32) (x3 : Int32) (x4 : Int64) (x6 : Int32) (t0 : Int32) (z : kx_S) : Option ((Int32 × Int64 × Int32 × kx_S) ⊕ kx_S) :=
  fs_prepare_66 ba1 bb1 bc1 x3 x4 x6 (-1 : Int32) t0 z
def fs_prepare_22 (ba1 bb1 bc1 : Int32) (x3 : Int32) (x4 : Int64) (x6 : Int32) (z : kx_S) : Option ((Int32 × Int64 × Int32 × kx_S) ⊕ kx_S) :=
  if (z.1 10) ≤ x6 then
  some (.inr z)
  else
  (kx_wl z 0 x6 x4).bind fun z1 =>
  if x3 = 0 then
  fs_prepare_65 ba1 bb1 bc1 x3 x4 x6 x6 z1
  else
  (fx_volume x4).bind fun o2 =>
  if x3 = 0 then none else
  if (o2 - o2 / x3 * x3) = 0 then
  fs_prepare_66 ba1 bb1 bc1 x3 x4 x6 (-2 : Int32) x6 z1
  else
  fs_prepare_65 ba1 bb1 bc1 x3 x4 x6 x6 z1
def ls_prepare_22 (ba1 bb1 bc1 : Int32) (n : Nat) (x3 : Int32) (x4 : Int64) (x6 : Int32) (z : kx_S) : Option kx_S :=
  kj_it (fun (s : (Int32 × Int64 × Int32 × kx_S)) => fs_prepare_22 ba1 bb1 bc1 (s.1) (s.2.1) (s.2.2.1) (s.2.2.2)) n (x3, x4, x6, z)
def fs_prepare (ba1 bb1 bc1 : Int32) (x2 : Int32) (x3 : Int32) (z : kx_S) : Option kx_S :=
  (kx_pI z 10 (if (200 : Int32) < x2 then (200 : Int32) else x2)).bind fun z1 =>
  (kx_pI z1 11 (0 : Int32)).bind fun z2 =>
  (ls_prepare_22 ba1 bb1 bc1 5000 x3 (0 : Int64) (0 : Int32) z2).bind fun r3 =>
  some (r3)
set_option maxRecDepth 20000 in
theorem js_prepare_66 {p : Program} {l : Launch} {e : Env} {s : State} {m : MethodId} {args : Array Value} {below : List Frame} {meth : Method} {c : Code} {A : Nat → Prop} {D : va_G} {cA : Nat → ClassId} {h0 : Nat} {q : Nat → Nat} {P : va_W} {Q : State → Prop} (F : kj_Fx p s m args meth c cX5_prepare 7 wsX5_prepare RX5 none D (kx_T cA) A) {ba1 bb1 bc1 : Int32} {b1 i1 : Nat} (hB1 : P[i1]? = some (b1, .inr (0, [.int ba1, .int bb1, .int bc1]))) {x3 : Int32} {x4 : Int64} {x6 : Int32} {t0 : Int32} {t1 : Int32} {z : kx_S} {o : ((Int32 × Int64 × Int32 × kx_S) ⊕ kx_S)} (h : fs_prepare_66 ba1 bb1 bc1 x3 x4 x6 t0 t1 z = some o) (kb : ∀ (a0' : Int32) (a1' : Int64) (a2' : Int32) (a3' : kx_S), o = .inl (a0', a1', a2', a3') → kj_J p l e rm_X5_prepare s m args below meth c 0 0 Q 7 D A ((kx_W cA h0 q P) a3') 22 [(0, .ref (q 3)), (1, .ref b1), (3, .int a0'), (4, .long a1'), (6, .int a2')] []) (ke0 : ∀ (a0' : kx_S), o = .inr a0' → kj_J p l e rm_X5_prepare s m args below meth c 0 0 Q 7 D A ((kx_W cA h0 q P) a0') 81 [] []) : kj_J p l e rm_X5_prepare s m args below meth c 0 0 Q 7 D A ((kx_W cA h0 q P) z) 66 [(0, .ref (q 3)), (1, .ref b1), (3, .int x3), (4, .long x4), (6, .int x6)] [.int t0, .int t1, .ref (q (2 + 4))] := by
  unfold fs_prepare_66 at h
  refine kx_iast F dX5_prepare_66 2 (by decide) h (fun z1 h => ?_)
  refine kj_aload_n F dX5_prepare_67 1 rfl rfl ?_
  refine kj_lload F dX5_prepare_68 3 rfl ?_
  refine kj_cVlp (As := [.long x4]) (rest := []) F dX5_prepare_70 h (fun o h1 => cx_following (w := (kx_W cA h0 q P)) (kx_pool hB1) h1) (cwV 1 F.2.2.2.2.1 gX5_prepare_X0_following rfl rfl rfl (by decide +kernel) ⟨Nat.le_of_ble_eq_true rfl, Nat.le_of_ble_eq_true rfl⟩) _ (kx_pool hB1) rfl rfl rfl rfl (Nat.le_of_ble_eq_true rfl) ⟨Nat.zero_le _, Nat.zero_le _⟩ (fun o2 h => ?_)
  refine kj_lstore F dX5_prepare_73 (lv' := [(4, .long o2), (0, .ref (q 3)), (1, .ref b1), (3, .int x3), (6, .int x6)]) (by decide) rfl ?_
  refine kj_iinc F dX5_prepare_75 4 rfl (v := 1) (by decide) (by decide) (lv' := [(6, .int (x6 + 1)), (4, .long o2), (0, .ref (q 3)), (1, .ref b1), (3, .int x3)]) rfl ?_
  refine kj_goto F dX5_prepare_78 (tgt := 22) (by decide) ?_
  refine kj_J.sub [2, 3, 4, 1, 0] rfl ?_
  exact kb x3 o2 (x6 + 1) z1 (Option.some.inj h).symm
set_option maxRecDepth 20000 in
theorem js_prepare_65 {p : Program} {l : Launch} {e : Env} {s : State} {m : MethodId} {args : Array Value} {below : List Frame} {meth : Method} {c : Code} {A : Nat → Prop} {D : va_G} {cA : Nat → ClassId} {h0 : Nat} {q : Nat → Nat} {P : va_W} {Q : State → Prop} (F : kj_Fx p s m args meth c cX5_prepare 7 wsX5_prepare RX5 none D (kx_T cA) A) {ba1 bb1 bc1 : Int32} {b1 i1 : Nat} (hB1 : P[i1]? = some (b1, .inr (0, [.int ba1, .int bb1, .int bc1]))) {x3 : Int32} {x4 : Int64} {x6 : Int32} {t0 : Int32} {z : kx_S} {o : ((Int32 × Int64 × Int32 × kx_S) ⊕ kx_S)} (h : fs_prepare_65 ba1 bb1 bc1 x3 x4 x6 t0 z = some o) (kb : ∀ (a0' : Int32) (a1' : Int64) (a2' : Int32) (a3' : kx_S), o = .inl (a0', a1', a2', a3') → kj_J p l e rm_X5_prepare s m args below meth c 0 0 Q 7 D A ((kx_W cA h0 q P) a3') 22 [(0, .ref (q 3)), (1, .ref b1), (3, .int a0'), (4, .long a1'), (6, .int a2')] []) (ke0 : ∀ (a0' : kx_S), o = .inr a0' → kj_J p l e rm_X5_prepare s m args below meth c 0 0 Q 7 D A ((kx_W cA h0 q P) a0') 81 [] []) : kj_J p l e rm_X5_prepare s m args below meth c 0 0 Q 7 D A ((kx_W cA h0 q P) z) 65 [(0, .ref (q 3)), (1, .ref b1), (3, .int x3), (4, .long x4), (6, .int x6)] [.int t0, .ref (q (2 + 4))] := by
  unfold fs_prepare_65 at h
  refine kj_iconst F dX5_prepare_65 (v := (-1)) (by decide) ?_
  exact js_prepare_66 F hB1 h kb ke0
set_option maxRecDepth 20000 in
theorem js_prepare_22 {p : Program} {l : Launch} {e : Env} {s : State} {m : MethodId} {args : Array Value} {below : List Frame} {meth : Method} {c : Code} {A : Nat → Prop} {D : va_G} {cA : Nat → ClassId} {h0 : Nat} {q : Nat → Nat} {P : va_W} {Q : State → Prop} (F : kj_Fx p s m args meth c cX5_prepare 7 wsX5_prepare RX5 none D (kx_T cA) A) {ba1 bb1 bc1 : Int32} {b1 i1 : Nat} (hB1 : P[i1]? = some (b1, .inr (0, [.int ba1, .int bb1, .int bc1]))) {x3 : Int32} {x4 : Int64} {x6 : Int32} {z : kx_S} {o : ((Int32 × Int64 × Int32 × kx_S) ⊕ kx_S)} (h : fs_prepare_22 ba1 bb1 bc1 x3 x4 x6 z = some o) (kb : ∀ (a0' : Int32) (a1' : Int64) (a2' : Int32) (a3' : kx_S), o = .inl (a0', a1', a2', a3') → kj_J p l e rm_X5_prepare s m args below meth c 0 0 Q 7 D A ((kx_W cA h0 q P) a3') 22 [(0, .ref (q 3)), (1, .ref b1), (3, .int a0'), (4, .long a1'), (6, .int a2')] []) (ke0 : ∀ (a0' : kx_S), o = .inr a0' → kj_J p l e rm_X5_prepare s m args below meth c 0 0 Q 7 D A ((kx_W cA h0 q P) a0') 81 [] []) : kj_J p l e rm_X5_prepare s m args below meth c 0 0 Q 7 D A ((kx_W cA h0 q P) z) 22 [(0, .ref (q 3)), (1, .ref b1), (3, .int x3), (4, .long x4), (6, .int x6)] [] := by
  unfold fs_prepare_22 at h
  refine kj_iload F dX5_prepare_22 4 rfl ?_
  refine kj_aload_n F dX5_prepare_24 0 rfl rfl ?_
  refine kj_get F dX5_prepare_25 in_X5_prepare_X5 4 rfl rfl 3 (by decide) (by decide +kernel) rfl rfl ?_
  refine kj_icmp_ge F dX5_prepare_28 (tgt := 81) (by decide) h (fun hc h => ?_) (fun hc h => ?_)
  · refine kj_J.sub [] rfl ?_
    exact ke0 z (Option.some.inj h).symm
  · refine kj_aload_n F dX5_prepare_31 0 rfl rfl ?_
    refine kj_get F dX5_prepare_32 in_X5_prepare_X5 4 rfl rfl 0 (by decide) (by decide +kernel) rfl rfl ?_
    refine kj_iload F dX5_prepare_35 4 rfl ?_
    refine kj_lload F dX5_prepare_37 3 rfl ?_
    refine kx_last F dX5_prepare_39 0 (by decide) h (fun z1 h => ?_)
    refine kj_aload_n F dX5_prepare_40 0 rfl rfl ?_
    refine kj_get F dX5_prepare_41 in_X5_prepare_X5 4 rfl rfl 1 (by decide) (by decide +kernel) rfl rfl ?_
    refine kj_iload F dX5_prepare_44 4 rfl ?_
    refine kj_iload_n F dX5_prepare_46 2 rfl rfl ?_
    refine kj_if_eq F dX5_prepare_47 (tgt := 65) (by decide) h (fun hc h => ?_) (fun hc h => ?_)
    · exact js_prepare_65 F hB1 h kb ke0
    · refine kj_lload F dX5_prepare_50 3 rfl ?_
      refine kj_cSip (As := [.long x4]) (rest := [.int x6, .ref (q (2 + 4))]) F dX5_prepare_52 h (fun o h1 => cx_volume (w := (kx_W cA h0 q P)) h1) (va_cwS 1 F.2.2.2.2.1 gX5_prepare_X0_volume rfl rfl rfl (by decide +kernel) ⟨Nat.le_of_ble_eq_true rfl, Nat.le_of_ble_eq_true rfl⟩) rfl rfl (Nat.le_of_ble_eq_true rfl) ⟨Nat.zero_le _, Nat.zero_le _⟩ (fun o2 h => ?_)
      refine kj_iload_n F dX5_prepare_55 2 rfl rfl ?_
      refine kj_irem F dX5_prepare_56 h (fun h => ?_)
      refine kj_if_ne F dX5_prepare_57 (tgt := 65) (by decide) h (fun hc h => ?_) (fun hc h => ?_)
      · refine kj_bipush F dX5_prepare_60 (v := (-2)) (by decide) ?_
        refine kj_goto F dX5_prepare_62 (tgt := 66) (by decide) ?_
        exact js_prepare_66 F hB1 h kb ke0
      · exact js_prepare_65 F hB1 h kb ke0
theorem jls_prepare_22 {p : Program} {l : Launch} {e : Env} {s : State} {m : MethodId} {args : Array Value} {below : List Frame} {meth : Method} {c : Code} {A : Nat → Prop} {D : va_G} {cA : Nat → ClassId} {h0 : Nat} {q : Nat → Nat} {P : va_W} {Q : State → Prop} (F : kj_Fx p s m args meth c cX5_prepare 7 wsX5_prepare RX5 none D (kx_T cA) A) {ba1 bb1 bc1 : Int32} {b1 i1 : Nat} (hB1 : P[i1]? = some (b1, .inr (0, [.int ba1, .int bb1, .int bc1]))) {n : Nat} {x3 : Int32} {x4 : Int64} {x6 : Int32} {z : kx_S} {r : kx_S} (h : ls_prepare_22 ba1 bb1 bc1 n x3 x4 x6 z = some r) (ke : kj_J p l e rm_X5_prepare s m args below meth c 0 0 Q 7 D A ((kx_W cA h0 q P) (r)) 81 [] []) : kj_J p l e rm_X5_prepare s m args below meth c 0 0 Q 7 D A ((kx_W cA h0 q P) z) 22 [(0, .ref (q 3)), (1, .ref b1), (3, .int x3), (4, .long x4), (6, .int x6)] [] :=
  kj_it_J (Wh := fun (u : (Int32 × Int64 × Int32 × kx_S)) => kj_J p l e rm_X5_prepare s m args below meth c 0 0 Q 7 D A ((kx_W cA h0 q P) (u.2.2.2)) 22 [(0, .ref (q 3)), (1, .ref b1), (3, .int (u.1)), (4, .long (u.2.1)), (6, .int (u.2.2.1))] []) (We := fun r => kj_J p l e rm_X5_prepare s m args below meth c 0 0 Q 7 D A ((kx_W cA h0 q P) (r)) 81 [] []) (fun u o h kb ke => js_prepare_22 F hB1 h (fun a0' a1' a2' a3' e => kb (a0', a1', a2', a3') e) (fun a0' e => ke a0' e)) n (x3, x4, x6, z) r h ke
set_option maxRecDepth 20000 in
theorem js_prepare {p : Program} {l : Launch} {e : Env} {s : State} {m : MethodId} {args : Array Value} {below : List Frame} {meth : Method} {c : Code} {A : Nat → Prop} {D : va_G} {cA : Nat → ClassId} {h0 : Nat} {q : Nat → Nat} {P : va_W} (F : kj_Fx p s m args meth c cX5_prepare 7 wsX5_prepare RX5 none D (kx_T cA) A) {ba1 bb1 bc1 : Int32} {b1 i1 : Nat} (hB1 : P[i1]? = some (b1, .inr (0, [.int ba1, .int bb1, .int bc1]))) {x2 : Int32} {x3 : Int32} {z : kx_S} {o : kx_S} (h : fs_prepare ba1 bb1 bc1 x2 x3 z = some o) : kj_J p l e rm_X5_prepare s m args below meth c 0 0 (MQ below (kj_Qv D (kx_T cA) A (kx_W cA h0 q P) o) args s 0 0 A) 7 D A ((kx_W cA h0 q P) z) 0 [(0, .ref (q 3)), (1, .ref b1), (2, .int x2), (3, .int x3)] [] := by
  unfold fs_prepare at h
  refine kj_aload_n F dX5_prepare_0 0 rfl rfl ?_
  refine kj_iload_n F dX5_prepare_1 2 rfl rfl ?_
  refine kj_sipush F dX5_prepare_2 (v := 200) (by decide) ?_
  refine kj_mmin F dX5_prepare_5 (by decide +kernel) (by decide +kernel) (by decide +kernel) (by decide +kernel) (Nat.le_of_ble_eq_true rfl) (Nat.le_of_ble_eq_true rfl) ⟨Nat.zero_le _, Nat.zero_le _⟩ ?_
  refine kx_pt F dX5_prepare_8 in_X5_prepare_X5 tyX5 tyX5_ok nmX5 4 rfl rfl 3 10 (by decide) (by decide +kernel) rfl rfl (by decide +kernel) (Nat.le_of_ble_eq_true rfl) (kx_put10 cA h0 q P _ _) h (fun z1 h => ?_)
  refine kj_aload_n F dX5_prepare_11 0 rfl rfl ?_
  refine kj_iconst F dX5_prepare_12 (v := 0) (by decide) ?_
  refine kx_pt F dX5_prepare_13 in_X5_prepare_X5 tyX5 tyX5_ok nmX5 4 rfl rfl 4 11 (by decide) (by decide +kernel) rfl rfl (by decide +kernel) (Nat.le_of_ble_eq_true rfl) (kx_put11 cA h0 q P _ _) h (fun z2 h => ?_)
  refine kj_lconst F dX5_prepare_16 (v := 0) (by decide) ?_
  refine kj_lstore F dX5_prepare_17 (lv' := [(4, .long (0 : Int64)), (0, .ref (q 3)), (1, .ref b1), (2, .int x2), (3, .int x3)]) (by decide) rfl ?_
  refine kj_iconst F dX5_prepare_19 (v := 0) (by decide) ?_
  refine kj_istore F dX5_prepare_20 (lv' := [(6, .int (0 : Int32)), (4, .long (0 : Int64)), (0, .ref (q 3)), (1, .ref b1), (2, .int x2), (3, .int x3)]) (by decide) rfl ?_
  refine kj_J.sub [2, 3, 5, 1, 0] rfl ?_
  refine kj_bn h (fun r3 h1 h => ?_)
  refine jls_prepare_22 F hB1 h1 ?_
  exact kj_vret F dX5_prepare_81 h
theorem cs_prepare {l : Launch} {D : va_G} {cA : Nat → ClassId} {h0 : Nat} {q : Nat → Nat} {P : va_W} {ba1 bb1 bc1 : Int32} {b1 i1 : Nat} (hB1 : P[i1]? = some (b1, .inr (0, [.int ba1, .int bb1, .int bc1]))) {x2 : Int32} {x3 : Int32} {z : kx_S} {o : kx_S} (h : fs_prepare ba1 bb1 bc1 x2 x3 z = some o) : kj_Mv l yX5_prepare wsX5_prepare rm_X5_prepare D (kx_T cA) (kx_W cA h0 q P) z [.ref (q 3), .ref b1, .int x2, .int x3] o :=
  fun sz => kj_start (by decide) rfl (Nat.le_of_ble_eq_true rfl) rfl fun p e s m args below meth c hsz F => js_prepare F hB1 h
/-! X7_feed -/
abbrev rm_X7_feed : Room := { frames := 1, cells := 0, slots := 0, locals := 21 }
theorem in_X7_feed_X6 : ∀ w ∈ u_ws RX6 TX6 8, w ∈ wsX7_feed := by decide +kernel
theorem in_X7_feed_X7 : ∀ w ∈ u_ws RX7 TX7 10, w ∈ wsX7_feed := by decide +kernel
def fc_feed (x1 : Int32) (z : kx_S) : Option (Int32 × kx_S) :=
  if x1 < 0 then
  some (((-1000001) : Int32), z)
  else
  if x1 ≤ (255 : Int32) then
  (ft_append x1 z).bind fun o1 =>
  if (o1.1) = 0 then
  some (((-1000003) : Int32), (o1.2))
  else
  some (((o1.2).1 4), (o1.2))
  else
  some (((-1000001) : Int32), z)
set_option maxRecDepth 20000 in
theorem jc_feed {p : Program} {l : Launch} {e : Env} {s : State} {m : MethodId} {args : Array Value} {below : List Frame} {meth : Method} {c : Code} {A : Nat → Prop} {D : va_G} {cA : Nat → ClassId} {h0 : Nat} {q : Nat → Nat} {P : va_W} (F : kj_Fx p s m args meth c cX7_feed 2 wsX7_feed RX7 (some .int) D (kx_T cA) A) {x1 : Int32} {z : kx_S} {o : (Int32 × kx_S)} (h : fc_feed x1 z = some o) : kj_J p l e rm_X7_feed s m args below meth c 0 0 (MQ below (kj_Qi D (kx_T cA) A (kx_W cA h0 q P) o) args s 0 0 A) 2 D A ((kx_W cA h0 q P) z) 0 [(0, .ref h0), (1, .int x1)] [] := by
  unfold fc_feed at h
  refine kj_iload_n F dX7_feed_0 1 rfl rfl ?_
  refine kj_if_lt F dX7_feed_1 (tgt := 11) (by decide) h (fun hc h => ?_) (fun hc h => ?_)
  · refine kj_ldc F dX7_feed_11 (v := (-1000001)) (by decide +kernel) ?_
    exact kj_iret F dX7_feed_13 h
  · refine kj_iload_n F dX7_feed_4 1 rfl rfl ?_
    refine kj_sipush F dX7_feed_5 (v := 255) (by decide) ?_
    refine kj_icmp_le F dX7_feed_8 (tgt := 14) (by decide) h (fun hc h => ?_) (fun hc h => ?_)
    · refine kj_aload_n F dX7_feed_14 0 rfl rfl ?_
      refine kj_get F dX7_feed_15 in_X7_feed_X7 0 rfl rfl 0 (by decide) (by decide +kernel) rfl rfl ?_
      refine kj_iload_n F dX7_feed_18 1 rfl rfl ?_
      refine kj_cVi (As := [.int x1]) (rest := []) F dX7_feed_19 h (fun o h1 => ct_append h1) (cwV 1 F.2.2.2.2.1 gX7_feed_X6_append rfl rfl rfl (by decide +kernel) ⟨Nat.le_of_ble_eq_true rfl, Nat.le_of_ble_eq_true rfl⟩) 1 rfl rfl rfl rfl rfl (Nat.le_of_ble_eq_true rfl) ⟨Nat.zero_le _, Nat.zero_le _⟩ (fun o1 h => ?_)
      refine kj_if_eq F dX7_feed_22 (tgt := 35) (by decide) h (fun hc h => ?_) (fun hc h => ?_)
      · refine kj_ldc F dX7_feed_35 (v := (-1000003)) (by decide +kernel) ?_
        exact kj_iret F dX7_feed_37 h
      · refine kj_aload_n F dX7_feed_25 0 rfl rfl ?_
        refine kj_get F dX7_feed_26 in_X7_feed_X7 0 rfl rfl 0 (by decide) (by decide +kernel) rfl rfl ?_
        refine kj_get F dX7_feed_29 in_X7_feed_X6 1 rfl rfl 5 (by decide) (by decide +kernel) rfl rfl ?_
        refine kj_goto F dX7_feed_32 (tgt := 37) (by decide) ?_
        exact kj_iret F dX7_feed_37 h
    · refine kj_ldc F dX7_feed_11 (v := (-1000001)) (by decide +kernel) ?_
      exact kj_iret F dX7_feed_13 h
theorem cc_feed {l : Launch} {D : va_G} {cA : Nat → ClassId} {h0 : Nat} {q : Nat → Nat} {P : va_W} {x1 : Int32} {z : kx_S} {o : (Int32 × kx_S)} (h : fc_feed x1 z = some o) : kj_Mi l yX7_feed wsX7_feed rm_X7_feed D (kx_T cA) (kx_W cA h0 q P) z [.ref h0, .int x1] o :=
  fun sz => kj_start (by decide) rfl (Nat.le_of_ble_eq_true rfl) rfl fun p e s m args below meth c hsz F => jc_feed F h
/-! X7_fault -/
abbrev rm_X7_fault : Room := { frames := 0, cells := 0, slots := 0, locals := 0 }
theorem in_X7_fault_X7 : ∀ w ∈ u_ws RX7 TX7 10, w ∈ wsX7_fault := by decide +kernel
def fc_fault (z : kx_S) : Option (Int32 × kx_S) :=
  some ((z.1 0), z)
set_option maxRecDepth 20000 in
theorem jc_fault {p : Program} {l : Launch} {e : Env} {s : State} {m : MethodId} {args : Array Value} {below : List Frame} {meth : Method} {c : Code} {A : Nat → Prop} {D : va_G} {cA : Nat → ClassId} {h0 : Nat} {q : Nat → Nat} {P : va_W} (F : kj_Fx p s m args meth c cX7_fault 1 wsX7_fault RX7 (some .int) D (kx_T cA) A) {z : kx_S} {o : (Int32 × kx_S)} (h : fc_fault z = some o) : kj_J p l e rm_X7_fault s m args below meth c 0 0 (MQ below (kj_Qi D (kx_T cA) A (kx_W cA h0 q P) o) args s 0 0 A) 1 D A ((kx_W cA h0 q P) z) 0 [(0, .ref h0)] [] := by
  unfold fc_fault at h
  refine kj_aload_n F dX7_fault_0 0 rfl rfl ?_
  refine kj_get F dX7_fault_1 in_X7_fault_X7 0 rfl rfl 9 (by decide) (by decide +kernel) rfl rfl ?_
  exact kj_iret F dX7_fault_4 h
theorem cc_fault {l : Launch} {D : va_G} {cA : Nat → ClassId} {h0 : Nat} {q : Nat → Nat} {P : va_W} {z : kx_S} {o : (Int32 × kx_S)} (h : fc_fault z = some o) : kj_Mi l yX7_fault wsX7_fault rm_X7_fault D (kx_T cA) (kx_W cA h0 q P) z [.ref h0] o :=
  fun sz => kj_start (by decide) rfl (Nat.le_of_ble_eq_true rfl) rfl fun p e s m args below meth c hsz F => jc_fault F h
