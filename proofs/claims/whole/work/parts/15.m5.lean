/-! X8_isStep -/
abbrev rm_X8_isStep : Room := { frames := 0, cells := 0, slots := 0, locals := 0 }
theorem in_X8_isStep : ∀ w ∈ u_ws RX8 TX8 29, w ∈ wsX8_isStep := by decide +kernel
def fm_isStep_53 (x1 : Int32) (x2 : Int32) (x4 : Int32) (t0 : Int32) (t1 : Int32) (z : km_S) : Option ((Int32 × Int32 × Int32 × Int32 × km_S) ⊕ (Int32 × km_S)) :=
  some (.inl (x1, x2, (t1 + t0), (x4 + 1), z))
def fm_isStep_5 (x1 : Int32) (x2 : Int32) (x3 : Int32) (x4 : Int32) (z : km_S) : Option ((Int32 × Int32 × Int32 × Int32 × km_S) ⊕ (Int32 × km_S)) :=
  if (20 : Int32) ≤ x4 then
  some (.inr (x3, z))
  else
  (km_rd z 15 (((20 : Int32) * x1) + x4)).bind fun v1 =>
  (km_rd z 15 (((20 : Int32) * x2) + x4)).bind fun v2 =>
  if 0 ≤ (v1 - v2) then
  fm_isStep_53 x1 x2 x4 (v1 - v2) x3 z
  else
  fm_isStep_53 x1 x2 x4 (-(v1 - v2)) x3 z
def lm_isStep_5 (n : Nat) (x1 : Int32) (x2 : Int32) (x3 : Int32) (x4 : Int32) (z : km_S) : Option (Int32 × km_S) :=
  kj_it (fun (s : (Int32 × Int32 × Int32 × Int32 × km_S)) => fm_isStep_5 (s.1) (s.2.1) (s.2.2.1) (s.2.2.2.1) (s.2.2.2.2)) n (x1, x2, x3, x4, z)
def fm_isStep (x1 : Int32) (x2 : Int32) (z : km_S) : Option (Int32 × km_S) :=
  (lm_isStep_5 5000 x1 x2 (0 : Int32) (4 : Int32) z).bind fun r1 =>
  if (r1.1) = (1 : Int32) then
  some ((1 : Int32), (r1.2))
  else
  some ((0 : Int32), (r1.2))
set_option maxRecDepth 20000 in
theorem jm_isStep_53 {p : Program} {l : Launch} {e : Env} {s : State} {m : MethodId} {args : Array Value} {below : List Frame} {meth : Method} {c : Code} {A : Nat → Prop} {D : va_G} {cA : Nat → ClassId} {h0 : Nat} {q : Nat → Nat} {Q : State → Prop} (F : kj_Fx p s m args meth c cX8_isStep 6 wsX8_isStep RX8 (some .boolean) D (km_T cA) A) {x1 : Int32} {x2 : Int32} {x4 : Int32} {t0 : Int32} {t1 : Int32} {z : km_S} {o : ((Int32 × Int32 × Int32 × Int32 × km_S) ⊕ (Int32 × km_S))} (h : fm_isStep_53 x1 x2 x4 t0 t1 z = some o) (kb : ∀ (a0' : Int32) (a1' : Int32) (a2' : Int32) (a3' : Int32) (a4' : km_S), o = .inl (a0', a1', a2', a3', a4') → kj_J p l e rm_X8_isStep s m args below meth c 0 0 Q 6 D A ((km_w cA h0 q) a4') 5 [(0, .ref h0), (1, .int a0'), (2, .int a1'), (3, .int a2'), (4, .int a3')] []) (ke0 : ∀ (a0' : Int32) (a1' : km_S), o = .inr (a0', a1') → kj_J p l e rm_X8_isStep s m args below meth c 0 0 Q 6 D A ((km_w cA h0 q) a1') 61 [(3, .int a0')] []) : kj_J p l e rm_X8_isStep s m args below meth c 0 0 Q 6 D A ((km_w cA h0 q) z) 53 [(0, .ref h0), (1, .int x1), (2, .int x2), (4, .int x4)] [.int t0, .int t1] := by
  unfold fm_isStep_53 at h
  refine kj_iadd F dX8_isStep_53 ?_
  refine kj_istore_n F dX8_isStep_54 (lv' := [(3, .int (t1 + t0)), (0, .ref h0), (1, .int x1), (2, .int x2), (4, .int x4)]) rfl (by decide) rfl ?_
  refine kj_iinc F dX8_isStep_55 4 rfl (v := 1) (by decide) (by decide) (lv' := [(4, .int (x4 + 1)), (3, .int (t1 + t0)), (0, .ref h0), (1, .int x1), (2, .int x2)]) rfl ?_
  refine kj_goto F dX8_isStep_58 (tgt := 5) (by decide) ?_
  refine kj_J.sub [2, 3, 4, 1, 0] rfl ?_
  exact kb x1 x2 (t1 + t0) (x4 + 1) z (Option.some.inj h).symm
set_option maxRecDepth 20000 in
theorem jm_isStep_5 {p : Program} {l : Launch} {e : Env} {s : State} {m : MethodId} {args : Array Value} {below : List Frame} {meth : Method} {c : Code} {A : Nat → Prop} {D : va_G} {cA : Nat → ClassId} {h0 : Nat} {q : Nat → Nat} {Q : State → Prop} (F : kj_Fx p s m args meth c cX8_isStep 6 wsX8_isStep RX8 (some .boolean) D (km_T cA) A) {x1 : Int32} {x2 : Int32} {x3 : Int32} {x4 : Int32} {z : km_S} {o : ((Int32 × Int32 × Int32 × Int32 × km_S) ⊕ (Int32 × km_S))} (h : fm_isStep_5 x1 x2 x3 x4 z = some o) (kb : ∀ (a0' : Int32) (a1' : Int32) (a2' : Int32) (a3' : Int32) (a4' : km_S), o = .inl (a0', a1', a2', a3', a4') → kj_J p l e rm_X8_isStep s m args below meth c 0 0 Q 6 D A ((km_w cA h0 q) a4') 5 [(0, .ref h0), (1, .int a0'), (2, .int a1'), (3, .int a2'), (4, .int a3')] []) (ke0 : ∀ (a0' : Int32) (a1' : km_S), o = .inr (a0', a1') → kj_J p l e rm_X8_isStep s m args below meth c 0 0 Q 6 D A ((km_w cA h0 q) a1') 61 [(3, .int a0')] []) : kj_J p l e rm_X8_isStep s m args below meth c 0 0 Q 6 D A ((km_w cA h0 q) z) 5 [(0, .ref h0), (1, .int x1), (2, .int x2), (3, .int x3), (4, .int x4)] [] := by
  unfold fm_isStep_5 at h
  refine kj_iload F dX8_isStep_5 4 rfl ?_
  refine kj_bipush F dX8_isStep_7 (v := 20) (by decide) ?_
  refine kj_icmp_ge F dX8_isStep_9 (tgt := 61) (by decide) h (fun hc h => ?_) (fun hc h => ?_)
  · refine kj_J.sub [3] rfl ?_
    exact ke0 x3 z (Option.some.inj h).symm
  · refine kj_aload_n F dX8_isStep_12 0 rfl rfl ?_
    refine km_get F dX8_isStep_13 in_X8_isStep 26 (by decide) (by decide +kernel) rfl rfl ?_
    refine kj_bipush F dX8_isStep_16 (v := 20) (by decide) ?_
    refine kj_iload_n F dX8_isStep_18 1 rfl rfl ?_
    refine kj_imul F dX8_isStep_19 ?_
    refine kj_iload F dX8_isStep_20 4 rfl ?_
    refine kj_iadd F dX8_isStep_22 ?_
    refine km_iald F dX8_isStep_23 15 (by decide) h (fun v1 h => ?_)
    refine kj_aload_n F dX8_isStep_24 0 rfl rfl ?_
    refine km_get F dX8_isStep_25 in_X8_isStep 26 (by decide) (by decide +kernel) rfl rfl ?_
    refine kj_bipush F dX8_isStep_28 (v := 20) (by decide) ?_
    refine kj_iload_n F dX8_isStep_30 2 rfl rfl ?_
    refine kj_imul F dX8_isStep_31 ?_
    refine kj_iload F dX8_isStep_32 4 rfl ?_
    refine kj_iadd F dX8_isStep_34 ?_
    refine km_iald F dX8_isStep_35 15 (by decide) h (fun v2 h => ?_)
    refine kj_isub F dX8_isStep_36 ?_
    refine kj_istore F dX8_isStep_37 (lv' := [(5, .int (v1 - v2)), (0, .ref h0), (1, .int x1), (2, .int x2), (3, .int x3), (4, .int x4)]) (by decide) rfl ?_
    refine kj_iload_n F dX8_isStep_39 4 rfl rfl ?_
    refine kj_iload F dX8_isStep_40 0 rfl ?_
    refine kj_if_ge F dX8_isStep_42 (tgt := 51) (by decide) h (fun hc h => ?_) (fun hc h => ?_)
    · refine kj_iload F dX8_isStep_51 0 rfl ?_
      refine kj_J.sub [1, 2, 3, 5] rfl ?_
      exact jm_isStep_53 F h kb ke0
    · refine kj_iload F dX8_isStep_45 0 rfl ?_
      refine kj_ineg F dX8_isStep_47 ?_
      refine kj_goto F dX8_isStep_48 (tgt := 53) (by decide) ?_
      refine kj_J.sub [1, 2, 3, 5] rfl ?_
      exact jm_isStep_53 F h kb ke0
theorem jlm_isStep_5 {p : Program} {l : Launch} {e : Env} {s : State} {m : MethodId} {args : Array Value} {below : List Frame} {meth : Method} {c : Code} {A : Nat → Prop} {D : va_G} {cA : Nat → ClassId} {h0 : Nat} {q : Nat → Nat} {Q : State → Prop} (F : kj_Fx p s m args meth c cX8_isStep 6 wsX8_isStep RX8 (some .boolean) D (km_T cA) A) {n : Nat} {x1 : Int32} {x2 : Int32} {x3 : Int32} {x4 : Int32} {z : km_S} {r : (Int32 × km_S)} (h : lm_isStep_5 n x1 x2 x3 x4 z = some r) (ke : kj_J p l e rm_X8_isStep s m args below meth c 0 0 Q 6 D A ((km_w cA h0 q) (r.2)) 61 [(3, .int (r.1))] []) : kj_J p l e rm_X8_isStep s m args below meth c 0 0 Q 6 D A ((km_w cA h0 q) z) 5 [(0, .ref h0), (1, .int x1), (2, .int x2), (3, .int x3), (4, .int x4)] [] :=
  kj_it_J (Wh := fun (u : (Int32 × Int32 × Int32 × Int32 × km_S)) => kj_J p l e rm_X8_isStep s m args below meth c 0 0 Q 6 D A ((km_w cA h0 q) (u.2.2.2.2)) 5 [(0, .ref h0), (1, .int (u.1)), (2, .int (u.2.1)), (3, .int (u.2.2.1)), (4, .int (u.2.2.2.1))] []) (We := fun r => kj_J p l e rm_X8_isStep s m args below meth c 0 0 Q 6 D A ((km_w cA h0 q) (r.2)) 61 [(3, .int (r.1))] []) (fun u o h kb ke => jm_isStep_5 F h (fun a0' a1' a2' a3' a4' e => kb (a0', a1', a2', a3', a4') e) (fun a0' a1' e => ke (a0', a1') e)) n (x1, x2, x3, x4, z) r h ke
set_option maxRecDepth 20000 in
theorem jm_isStep {p : Program} {l : Launch} {e : Env} {s : State} {m : MethodId} {args : Array Value} {below : List Frame} {meth : Method} {c : Code} {A : Nat → Prop} {D : va_G} {cA : Nat → ClassId} {h0 : Nat} {q : Nat → Nat} (F : kj_Fx p s m args meth c cX8_isStep 6 wsX8_isStep RX8 (some .boolean) D (km_T cA) A) {x1 : Int32} {x2 : Int32} {z : km_S} {o : (Int32 × km_S)} (h : fm_isStep x1 x2 z = some o) : kj_J p l e rm_X8_isStep s m args below meth c 0 0 (MQ below (kj_Qi D (km_T cA) A (km_w cA h0 q) o) args s 0 0 A) 6 D A ((km_w cA h0 q) z) 0 [(0, .ref h0), (1, .int x1), (2, .int x2)] [] := by
  unfold fm_isStep at h
  refine kj_iconst F dX8_isStep_0 (v := 0) (by decide) ?_
  refine kj_istore_n F dX8_isStep_1 (lv' := [(3, .int (0 : Int32)), (0, .ref h0), (1, .int x1), (2, .int x2)]) rfl (by decide) rfl ?_
  refine kj_iconst F dX8_isStep_2 (v := 4) (by decide) ?_
  refine kj_istore F dX8_isStep_3 (lv' := [(4, .int (4 : Int32)), (3, .int (0 : Int32)), (0, .ref h0), (1, .int x1), (2, .int x2)]) (by decide) rfl ?_
  refine kj_J.sub [2, 3, 4, 1, 0] rfl ?_
  refine kj_bn h (fun r1 h1 h => ?_)
  refine jlm_isStep_5 F h1 ?_
  refine kj_iload_n F dX8_isStep_61 0 rfl rfl ?_
  refine kj_iconst F dX8_isStep_62 (v := 1) (by decide) ?_
  refine kj_icmp_ne F dX8_isStep_63 (tgt := 70) (by decide) h (fun hc h => ?_) (fun hc h => ?_)
  · refine kj_iconst F dX8_isStep_66 (v := 1) (by decide) ?_
    refine kj_goto F dX8_isStep_67 (tgt := 71) (by decide) ?_
    exact kj_zret F dX8_isStep_71 (by decide) h
  · refine kj_iconst F dX8_isStep_70 (v := 0) (by decide) ?_
    exact kj_zret F dX8_isStep_71 (by decide) h
theorem cm_isStep {l : Launch} {D : va_G} {cA : Nat → ClassId} {h0 : Nat} {q : Nat → Nat} {x1 : Int32} {x2 : Int32} {z : km_S} {o : (Int32 × km_S)} (h : fm_isStep x1 x2 z = some o) : kj_Mi l yX8_isStep wsX8_isStep rm_X8_isStep D (km_T cA) (km_w cA h0 q) z [.ref h0, .int x1, .int x2] o :=
  fun sz => kj_start (by decide) rfl (Nat.le_of_ble_eq_true rfl) rfl fun p e s m args below meth c hsz F => jm_isStep F h
/-! X8_wayFrom -/
abbrev rm_X8_wayFrom : Room := { frames := 1, cells := 0, slots := 0, locals := 25 }
theorem in_X8_wayFrom : ∀ w ∈ u_ws RX8 TX8 29, w ∈ wsX8_wayFrom := by decide +kernel
def fm_wayFrom_3 (x1 : Int32) (x2 : Int32) (x3 : Int32) (x4 : Int32) (x5 : Int32) (z : km_S) : Option ((Int32 × Int32 × Int32 × Int32 × Int32 × km_S) ⊕ (Int32 × Int32 × Int32 × Int32 × km_S)) :=
  if x1 ≤ x5 then
  some (.inr (x1, x2, x3, x4, z))
  else
  (km_wr z 16 x5 ((-1000000) : Int32)).bind fun z1 =>
  some (.inl (x1, x2, x3, x4, (x5 + 1), z1))
def lm_wayFrom_3 (n : Nat) (x1 : Int32) (x2 : Int32) (x3 : Int32) (x4 : Int32) (x5 : Int32) (z : km_S) : Option (Int32 × Int32 × Int32 × Int32 × km_S) :=
  kj_it (fun (s : (Int32 × Int32 × Int32 × Int32 × Int32 × km_S)) => fm_wayFrom_3 (s.1) (s.2.1) (s.2.2.1) (s.2.2.2.1) (s.2.2.2.2.1) (s.2.2.2.2.2)) n (x1, x2, x3, x4, x5, z)
def fm_wayFrom_167 (x1 : Int32) (x2 : Int32) (x3 : Int32) (x4 : Int32) (x5 : Int32) (x6 : Int32) (x7 : Int32) (x8 : Int32) (x9 : Int32) (z : km_S) : Option ((Int32 × Int32 × Int32 × Int32 × Int32 × Int32 × Int32 × Int32 × Int32 × km_S) ⊕ (Int32 × Int32 × Int32 × Int32 × Int32 × Int32 × km_S)) :=
  some (.inl (x1, x2, x3, x4, x5, x6, x7, x8, (x9 + 1), z))
def fm_wayFrom_105 (x1 : Int32) (x2 : Int32) (x3 : Int32) (x4 : Int32) (x5 : Int32) (x6 : Int32) (x7 : Int32) (x8 : Int32) (x9 : Int32) (z : km_S) : Option ((Int32 × Int32 × Int32 × Int32 × Int32 × Int32 × Int32 × Int32 × Int32 × km_S) ⊕ (Int32 × Int32 × Int32 × Int32 × Int32 × Int32 × km_S)) :=
  if x1 ≤ x9 then
  some (.inr (x1, x2, x3, x4, x5, x6, z))
  else
  if x8 = 0 then
  some (.inr (x1, x2, x3, x4, x5, x6, z))
  else
  (km_rd z 16 x9).bind fun v1 =>
  if v1 = ((-1000000) : Int32) then
  (fm_isStep x7 x9 z).bind fun o2 =>
  if (o2.1) = 0 then
  fm_wayFrom_167 x1 x2 x3 x4 x5 x6 x7 x8 x9 (o2.2)
  else
  (km_rd (o2.2) 16 x7).bind fun v3 =>
  (km_wr (o2.2) 16 x9 (v3 + (1 : Int32))).bind fun z4 =>
  (km_wr z4 17 x5 x9).bind fun z5 =>
  fm_wayFrom_167 x1 x2 x3 x4 (x5 + 1) x6 x7 x8 x9 z5
  else
  fm_wayFrom_167 x1 x2 x3 x4 x5 x6 x7 x8 x9 z
def lm_wayFrom_105 (n : Nat) (x1 : Int32) (x2 : Int32) (x3 : Int32) (x4 : Int32) (x5 : Int32) (x6 : Int32) (x7 : Int32) (x8 : Int32) (x9 : Int32) (z : km_S) : Option (Int32 × Int32 × Int32 × Int32 × Int32 × Int32 × km_S) :=
  kj_it (fun (s : (Int32 × Int32 × Int32 × Int32 × Int32 × Int32 × Int32 × Int32 × Int32 × km_S)) => fm_wayFrom_105 (s.1) (s.2.1) (s.2.2.1) (s.2.2.2.1) (s.2.2.2.2.1) (s.2.2.2.2.2.1) (s.2.2.2.2.2.2.1) (s.2.2.2.2.2.2.2.1) (s.2.2.2.2.2.2.2.2.1) (s.2.2.2.2.2.2.2.2.2)) n (x1, x2, x3, x4, x5, x6, x7, x8, x9, z)
def fm_wayFrom_173 (x1 : Int32) (x2 : Int32) (x3 : Int32) (x4 : Int32) (x5 : Int32) (x6 : Int32) (z : km_S) : Option ((Int32 × Int32 × Int32 × Int32 × Int32 × Int32 × km_S) ⊕ (Int32 × km_S)) :=
  some (.inl (x1, x2, x3, x4, x5, (x6 + 1), z))
def fm_wayFrom_100 (x1 : Int32) (x2 : Int32) (x3 : Int32) (x4 : Int32) (x5 : Int32) (x6 : Int32) (x7 : Int32) (t0 : Int32) (z : km_S) : Option ((Int32 × Int32 × Int32 × Int32 × Int32 × Int32 × km_S) ⊕ (Int32 × km_S)) :=
  (lm_wayFrom_105 5000 x1 x2 x3 x4 x5 x6 x7 t0 (0 : Int32) z).bind fun r1 =>
  fm_wayFrom_173 (r1.1) (r1.2.1) (r1.2.2.1) (r1.2.2.2.1) (r1.2.2.2.2.1) (r1.2.2.2.2.2.1) (r1.2.2.2.2.2.2)
def fm_wayFrom_95 (x1 : Int32) (x2 : Int32) (x3 : Int32) (x4 : Int32) (x5 : Int32) (x6 : Int32) (x7 : Int32) (z : km_S) : Option ((Int32 × Int32 × Int32 × Int32 × Int32 × Int32 × km_S) ⊕ (Int32 × km_S)) :=
  fm_wayFrom_100 x1 x2 x3 x4 x5 x6 x7 (1 : Int32) z
def fm_wayFrom_99 (x1 : Int32) (x2 : Int32) (x3 : Int32) (x4 : Int32) (x5 : Int32) (x6 : Int32) (x7 : Int32) (z : km_S) : Option ((Int32 × Int32 × Int32 × Int32 × Int32 × Int32 × km_S) ⊕ (Int32 × km_S)) :=
  fm_wayFrom_100 x1 x2 x3 x4 x5 x6 x7 (0 : Int32) z
def fm_wayFrom_44 (x1 : Int32) (x2 : Int32) (x3 : Int32) (x4 : Int32) (x5 : Int32) (x6 : Int32) (z : km_S) : Option ((Int32 × Int32 × Int32 × Int32 × Int32 × Int32 × km_S) ⊕ (Int32 × km_S)) :=
  if x5 ≤ x6 then
  some (.inr (x3, z))
  else
  (km_rd z 17 x6).bind fun v1 =>
  if v1 = x2 then
  fm_wayFrom_95 x1 x2 x3 x4 x5 x6 v1 z
  else
  if v1 = x3 then
  fm_wayFrom_99 x1 x2 x3 x4 x5 x6 v1 z
  else
  if x4 = 0 then
  fm_wayFrom_95 x1 x2 x3 x4 x5 x6 v1 z
  else
  (fm_volume 15 ((20 : Int32) * v1) z).bind fun o2 =>
  if x4 = 0 then none else
  if ((o2.1) - (o2.1) / x4 * x4) = 0 then
  fm_wayFrom_99 x1 x2 x3 x4 x5 x6 v1 (o2.2)
  else
  fm_wayFrom_95 x1 x2 x3 x4 x5 x6 v1 (o2.2)
def lm_wayFrom_44 (n : Nat) (x1 : Int32) (x2 : Int32) (x3 : Int32) (x4 : Int32) (x5 : Int32) (x6 : Int32) (z : km_S) : Option (Int32 × km_S) :=
  kj_it (fun (s : (Int32 × Int32 × Int32 × Int32 × Int32 × Int32 × km_S)) => fm_wayFrom_44 (s.1) (s.2.1) (s.2.2.1) (s.2.2.2.1) (s.2.2.2.2.1) (s.2.2.2.2.2.1) (s.2.2.2.2.2.2)) n (x1, x2, x3, x4, x5, x6, z)
def fm_wayFrom (x1 : Int32) (x2 : Int32) (x3 : Int32) (x4 : Int32) (z : km_S) : Option (Int32 × km_S) :=
  (lm_wayFrom_3 5000 x1 x2 x3 x4 (0 : Int32) z).bind fun r1 =>
  (km_wr (r1.2.2.2.2) 17 (0 : Int32) (r1.2.1)).bind fun z2 =>
  (km_wr z2 16 (r1.2.1) (0 : Int32)).bind fun z3 =>
  (lm_wayFrom_44 5000 (r1.1) (r1.2.1) (r1.2.2.1) (r1.2.2.2.1) (1 : Int32) (0 : Int32) z3).bind fun r4 =>
  (km_rd (r4.2) 16 (r4.1)).bind fun v5 =>
  some (v5, (r4.2))
set_option maxRecDepth 20000 in
theorem jm_wayFrom_3 {p : Program} {l : Launch} {e : Env} {s : State} {m : MethodId} {args : Array Value} {below : List Frame} {meth : Method} {c : Code} {A : Nat → Prop} {D : va_G} {cA : Nat → ClassId} {h0 : Nat} {q : Nat → Nat} {Q : State → Prop} (F : kj_Fx p s m args meth c cX8_wayFrom 10 wsX8_wayFrom RX8 (some .int) D (km_T cA) A) {x1 : Int32} {x2 : Int32} {x3 : Int32} {x4 : Int32} {x5 : Int32} {z : km_S} {o : ((Int32 × Int32 × Int32 × Int32 × Int32 × km_S) ⊕ (Int32 × Int32 × Int32 × Int32 × km_S))} (h : fm_wayFrom_3 x1 x2 x3 x4 x5 z = some o) (kb : ∀ (a0' : Int32) (a1' : Int32) (a2' : Int32) (a3' : Int32) (a4' : Int32) (a5' : km_S), o = .inl (a0', a1', a2', a3', a4', a5') → kj_J p l e rm_X8_wayFrom s m args below meth c 0 0 Q 10 D A ((km_w cA h0 q) a5') 3 [(0, .ref h0), (1, .int a0'), (2, .int a1'), (3, .int a2'), (4, .int a3'), (5, .int a4')] []) (ke0 : ∀ (a0' : Int32) (a1' : Int32) (a2' : Int32) (a3' : Int32) (a4' : km_S), o = .inr (a0', a1', a2', a3', a4') → kj_J p l e rm_X8_wayFrom s m args below meth c 0 0 Q 10 D A ((km_w cA h0 q) a4') 24 [(0, .ref h0), (1, .int a0'), (2, .int a1'), (3, .int a2'), (4, .int a3')] []) : kj_J p l e rm_X8_wayFrom s m args below meth c 0 0 Q 10 D A ((km_w cA h0 q) z) 3 [(0, .ref h0), (1, .int x1), (2, .int x2), (3, .int x3), (4, .int x4), (5, .int x5)] [] := by
  unfold fm_wayFrom_3 at h
  refine kj_iload F dX8_wayFrom_3 5 rfl ?_
  refine kj_iload_n F dX8_wayFrom_5 1 rfl rfl ?_
  refine kj_icmp_ge F dX8_wayFrom_6 (tgt := 24) (by decide) h (fun hc h => ?_) (fun hc h => ?_)
  · refine kj_J.sub [0, 1, 2, 3, 4] rfl ?_
    exact ke0 x1 x2 x3 x4 z (Option.some.inj h).symm
  · refine kj_aload_n F dX8_wayFrom_9 0 rfl rfl ?_
    refine km_get F dX8_wayFrom_10 in_X8_wayFrom 27 (by decide) (by decide +kernel) rfl rfl ?_
    refine kj_iload F dX8_wayFrom_13 5 rfl ?_
    refine kj_ldc F dX8_wayFrom_15 (v := (-1000000)) (by decide +kernel) ?_
    refine km_iast F dX8_wayFrom_17 16 (by decide) h (fun z1 h => ?_)
    refine kj_iinc F dX8_wayFrom_18 5 rfl (v := 1) (by decide) (by decide) (lv' := [(5, .int (x5 + 1)), (0, .ref h0), (1, .int x1), (2, .int x2), (3, .int x3), (4, .int x4)]) rfl ?_
    refine kj_goto F dX8_wayFrom_21 (tgt := 3) (by decide) ?_
    refine kj_J.sub [1, 2, 3, 4, 5, 0] rfl ?_
    exact kb x1 x2 x3 x4 (x5 + 1) z1 (Option.some.inj h).symm
theorem jlm_wayFrom_3 {p : Program} {l : Launch} {e : Env} {s : State} {m : MethodId} {args : Array Value} {below : List Frame} {meth : Method} {c : Code} {A : Nat → Prop} {D : va_G} {cA : Nat → ClassId} {h0 : Nat} {q : Nat → Nat} {Q : State → Prop} (F : kj_Fx p s m args meth c cX8_wayFrom 10 wsX8_wayFrom RX8 (some .int) D (km_T cA) A) {n : Nat} {x1 : Int32} {x2 : Int32} {x3 : Int32} {x4 : Int32} {x5 : Int32} {z : km_S} {r : (Int32 × Int32 × Int32 × Int32 × km_S)} (h : lm_wayFrom_3 n x1 x2 x3 x4 x5 z = some r) (ke : kj_J p l e rm_X8_wayFrom s m args below meth c 0 0 Q 10 D A ((km_w cA h0 q) (r.2.2.2.2)) 24 [(0, .ref h0), (1, .int (r.1)), (2, .int (r.2.1)), (3, .int (r.2.2.1)), (4, .int (r.2.2.2.1))] []) : kj_J p l e rm_X8_wayFrom s m args below meth c 0 0 Q 10 D A ((km_w cA h0 q) z) 3 [(0, .ref h0), (1, .int x1), (2, .int x2), (3, .int x3), (4, .int x4), (5, .int x5)] [] :=
  kj_it_J (Wh := fun (u : (Int32 × Int32 × Int32 × Int32 × Int32 × km_S)) => kj_J p l e rm_X8_wayFrom s m args below meth c 0 0 Q 10 D A ((km_w cA h0 q) (u.2.2.2.2.2)) 3 [(0, .ref h0), (1, .int (u.1)), (2, .int (u.2.1)), (3, .int (u.2.2.1)), (4, .int (u.2.2.2.1)), (5, .int (u.2.2.2.2.1))] []) (We := fun r => kj_J p l e rm_X8_wayFrom s m args below meth c 0 0 Q 10 D A ((km_w cA h0 q) (r.2.2.2.2)) 24 [(0, .ref h0), (1, .int (r.1)), (2, .int (r.2.1)), (3, .int (r.2.2.1)), (4, .int (r.2.2.2.1))] []) (fun u o h kb ke => jm_wayFrom_3 F h (fun a0' a1' a2' a3' a4' a5' e => kb (a0', a1', a2', a3', a4', a5') e) (fun a0' a1' a2' a3' a4' e => ke (a0', a1', a2', a3', a4') e)) n (x1, x2, x3, x4, x5, z) r h ke
set_option maxRecDepth 20000 in
theorem jm_wayFrom_167 {p : Program} {l : Launch} {e : Env} {s : State} {m : MethodId} {args : Array Value} {below : List Frame} {meth : Method} {c : Code} {A : Nat → Prop} {D : va_G} {cA : Nat → ClassId} {h0 : Nat} {q : Nat → Nat} {Q : State → Prop} (F : kj_Fx p s m args meth c cX8_wayFrom 10 wsX8_wayFrom RX8 (some .int) D (km_T cA) A) {x1 : Int32} {x2 : Int32} {x3 : Int32} {x4 : Int32} {x5 : Int32} {x6 : Int32} {x7 : Int32} {x8 : Int32} {x9 : Int32} {z : km_S} {o : ((Int32 × Int32 × Int32 × Int32 × Int32 × Int32 × Int32 × Int32 × Int32 × km_S) ⊕ (Int32 × Int32 × Int32 × Int32 × Int32 × Int32 × km_S))} (h : fm_wayFrom_167 x1 x2 x3 x4 x5 x6 x7 x8 x9 z = some o) (kb : ∀ (a0' : Int32) (a1' : Int32) (a2' : Int32) (a3' : Int32) (a4' : Int32) (a5' : Int32) (a6' : Int32) (a7' : Int32) (a8' : Int32) (a9' : km_S), o = .inl (a0', a1', a2', a3', a4', a5', a6', a7', a8', a9') → kj_J p l e rm_X8_wayFrom s m args below meth c 0 0 Q 10 D A ((km_w cA h0 q) a9') 105 [(0, .ref h0), (1, .int a0'), (2, .int a1'), (3, .int a2'), (4, .int a3'), (5, .int a4'), (6, .int a5'), (7, .int a6'), (8, .int a7'), (9, .int a8')] []) (ke0 : ∀ (a0' : Int32) (a1' : Int32) (a2' : Int32) (a3' : Int32) (a4' : Int32) (a5' : Int32) (a6' : km_S), o = .inr (a0', a1', a2', a3', a4', a5', a6') → kj_J p l e rm_X8_wayFrom s m args below meth c 0 0 Q 10 D A ((km_w cA h0 q) a6') 173 [(0, .ref h0), (1, .int a0'), (2, .int a1'), (3, .int a2'), (4, .int a3'), (5, .int a4'), (6, .int a5')] []) : kj_J p l e rm_X8_wayFrom s m args below meth c 0 0 Q 10 D A ((km_w cA h0 q) z) 167 [(0, .ref h0), (1, .int x1), (2, .int x2), (3, .int x3), (4, .int x4), (5, .int x5), (6, .int x6), (7, .int x7), (8, .int x8), (9, .int x9)] [] := by
  unfold fm_wayFrom_167 at h
  refine kj_iinc F dX8_wayFrom_167 9 rfl (v := 1) (by decide) (by decide) (lv' := [(9, .int (x9 + 1)), (0, .ref h0), (1, .int x1), (2, .int x2), (3, .int x3), (4, .int x4), (5, .int x5), (6, .int x6), (7, .int x7), (8, .int x8)]) rfl ?_
  refine kj_goto F dX8_wayFrom_170 (tgt := 105) (by decide) ?_
  refine kj_J.sub [1, 2, 3, 4, 5, 6, 7, 8, 9, 0] rfl ?_
  exact kb x1 x2 x3 x4 x5 x6 x7 x8 (x9 + 1) z (Option.some.inj h).symm
set_option maxRecDepth 20000 in
theorem jm_wayFrom_105 {p : Program} {l : Launch} {e : Env} {s : State} {m : MethodId} {args : Array Value} {below : List Frame} {meth : Method} {c : Code} {A : Nat → Prop} {D : va_G} {cA : Nat → ClassId} {h0 : Nat} {q : Nat → Nat} {Q : State → Prop} (F : kj_Fx p s m args meth c cX8_wayFrom 10 wsX8_wayFrom RX8 (some .int) D (km_T cA) A) {x1 : Int32} {x2 : Int32} {x3 : Int32} {x4 : Int32} {x5 : Int32} {x6 : Int32} {x7 : Int32} {x8 : Int32} {x9 : Int32} {z : km_S} {o : ((Int32 × Int32 × Int32 × Int32 × Int32 × Int32 × Int32 × Int32 × Int32 × km_S) ⊕ (Int32 × Int32 × Int32 × Int32 × Int32 × Int32 × km_S))} (h : fm_wayFrom_105 x1 x2 x3 x4 x5 x6 x7 x8 x9 z = some o) (kb : ∀ (a0' : Int32) (a1' : Int32) (a2' : Int32) (a3' : Int32) (a4' : Int32) (a5' : Int32) (a6' : Int32) (a7' : Int32) (a8' : Int32) (a9' : km_S), o = .inl (a0', a1', a2', a3', a4', a5', a6', a7', a8', a9') → kj_J p l e rm_X8_wayFrom s m args below meth c 0 0 Q 10 D A ((km_w cA h0 q) a9') 105 [(0, .ref h0), (1, .int a0'), (2, .int a1'), (3, .int a2'), (4, .int a3'), (5, .int a4'), (6, .int a5'), (7, .int a6'), (8, .int a7'), (9, .int a8')] []) (ke0 : ∀ (a0' : Int32) (a1' : Int32) (a2' : Int32) (a3' : Int32) (a4' : Int32) (a5' : Int32) (a6' : km_S), o = .inr (a0', a1', a2', a3', a4', a5', a6') → kj_J p l e rm_X8_wayFrom s m args below meth c 0 0 Q 10 D A ((km_w cA h0 q) a6') 173 [(0, .ref h0), (1, .int a0'), (2, .int a1'), (3, .int a2'), (4, .int a3'), (5, .int a4'), (6, .int a5')] []) : kj_J p l e rm_X8_wayFrom s m args below meth c 0 0 Q 10 D A ((km_w cA h0 q) z) 105 [(0, .ref h0), (1, .int x1), (2, .int x2), (3, .int x3), (4, .int x4), (5, .int x5), (6, .int x6), (7, .int x7), (8, .int x8), (9, .int x9)] [] := by
  unfold fm_wayFrom_105 at h
  refine kj_iload F dX8_wayFrom_105 9 rfl ?_
  refine kj_iload_n F dX8_wayFrom_107 1 rfl rfl ?_
  refine kj_icmp_ge F dX8_wayFrom_108 (tgt := 173) (by decide) h (fun hc h => ?_) (fun hc h => ?_)
  · refine kj_J.sub [0, 1, 2, 3, 4, 5, 6] rfl ?_
    exact ke0 x1 x2 x3 x4 x5 x6 z (Option.some.inj h).symm
  · refine kj_iload F dX8_wayFrom_111 8 rfl ?_
    refine kj_if_eq F dX8_wayFrom_113 (tgt := 173) (by decide) h (fun hc h => ?_) (fun hc h => ?_)
    · refine kj_J.sub [0, 1, 2, 3, 4, 5, 6] rfl ?_
      exact ke0 x1 x2 x3 x4 x5 x6 z (Option.some.inj h).symm
    · refine kj_aload_n F dX8_wayFrom_116 0 rfl rfl ?_
      refine km_get F dX8_wayFrom_117 in_X8_wayFrom 27 (by decide) (by decide +kernel) rfl rfl ?_
      refine kj_iload F dX8_wayFrom_120 9 rfl ?_
      refine km_iald F dX8_wayFrom_122 16 (by decide) h (fun v1 h => ?_)
      refine kj_ldc F dX8_wayFrom_123 (v := (-1000000)) (by decide +kernel) ?_
      refine kj_icmp_ne F dX8_wayFrom_125 (tgt := 167) (by decide) h (fun hc h => ?_) (fun hc h => ?_)
      · refine kj_aload_n F dX8_wayFrom_128 0 rfl rfl ?_
        refine kj_iload F dX8_wayFrom_129 7 rfl ?_
        refine kj_iload F dX8_wayFrom_131 9 rfl ?_
        refine kj_cVi (As := [.int x7, .int x9]) (rest := []) F dX8_wayFrom_133 h (fun o h1 => cm_isStep h1) (cwV 2 F.2.2.2.2.1 gX8_wayFrom_X8_isStep rfl rfl rfl (by decide +kernel) ⟨Nat.le_of_ble_eq_true rfl, Nat.le_of_ble_eq_true rfl⟩) 0 rfl rfl rfl rfl rfl (Nat.le_of_ble_eq_true rfl) ⟨Nat.zero_le _, Nat.zero_le _⟩ (fun o2 h => ?_)
        refine kj_if_eq F dX8_wayFrom_136 (tgt := 167) (by decide) h (fun hc h => ?_) (fun hc h => ?_)
        · exact jm_wayFrom_167 F h kb ke0
        · refine kj_aload_n F dX8_wayFrom_139 0 rfl rfl ?_
          refine km_get F dX8_wayFrom_140 in_X8_wayFrom 27 (by decide) (by decide +kernel) rfl rfl ?_
          refine kj_iload F dX8_wayFrom_143 9 rfl ?_
          refine kj_aload_n F dX8_wayFrom_145 0 rfl rfl ?_
          refine km_get F dX8_wayFrom_146 in_X8_wayFrom 27 (by decide) (by decide +kernel) rfl rfl ?_
          refine kj_iload F dX8_wayFrom_149 7 rfl ?_
          refine km_iald F dX8_wayFrom_151 16 (by decide) h (fun v3 h => ?_)
          refine kj_iconst F dX8_wayFrom_152 (v := 1) (by decide) ?_
          refine kj_iadd F dX8_wayFrom_153 ?_
          refine km_iast F dX8_wayFrom_154 16 (by decide) h (fun z4 h => ?_)
          refine kj_aload_n F dX8_wayFrom_155 0 rfl rfl ?_
          refine km_get F dX8_wayFrom_156 in_X8_wayFrom 28 (by decide) (by decide +kernel) rfl rfl ?_
          refine kj_iload F dX8_wayFrom_159 5 rfl ?_
          refine kj_iload F dX8_wayFrom_161 9 rfl ?_
          refine km_iast F dX8_wayFrom_163 17 (by decide) h (fun z5 h => ?_)
          refine kj_iinc F dX8_wayFrom_164 5 rfl (v := 1) (by decide) (by decide) (lv' := [(5, .int (x5 + 1)), (0, .ref h0), (1, .int x1), (2, .int x2), (3, .int x3), (4, .int x4), (6, .int x6), (7, .int x7), (8, .int x8), (9, .int x9)]) rfl ?_
          refine kj_J.sub [1, 2, 3, 4, 5, 0, 6, 7, 8, 9] rfl ?_
          exact jm_wayFrom_167 F h kb ke0
      · exact jm_wayFrom_167 F h kb ke0
theorem jlm_wayFrom_105 {p : Program} {l : Launch} {e : Env} {s : State} {m : MethodId} {args : Array Value} {below : List Frame} {meth : Method} {c : Code} {A : Nat → Prop} {D : va_G} {cA : Nat → ClassId} {h0 : Nat} {q : Nat → Nat} {Q : State → Prop} (F : kj_Fx p s m args meth c cX8_wayFrom 10 wsX8_wayFrom RX8 (some .int) D (km_T cA) A) {n : Nat} {x1 : Int32} {x2 : Int32} {x3 : Int32} {x4 : Int32} {x5 : Int32} {x6 : Int32} {x7 : Int32} {x8 : Int32} {x9 : Int32} {z : km_S} {r : (Int32 × Int32 × Int32 × Int32 × Int32 × Int32 × km_S)} (h : lm_wayFrom_105 n x1 x2 x3 x4 x5 x6 x7 x8 x9 z = some r) (ke : kj_J p l e rm_X8_wayFrom s m args below meth c 0 0 Q 10 D A ((km_w cA h0 q) (r.2.2.2.2.2.2)) 173 [(0, .ref h0), (1, .int (r.1)), (2, .int (r.2.1)), (3, .int (r.2.2.1)), (4, .int (r.2.2.2.1)), (5, .int (r.2.2.2.2.1)), (6, .int (r.2.2.2.2.2.1))] []) : kj_J p l e rm_X8_wayFrom s m args below meth c 0 0 Q 10 D A ((km_w cA h0 q) z) 105 [(0, .ref h0), (1, .int x1), (2, .int x2), (3, .int x3), (4, .int x4), (5, .int x5), (6, .int x6), (7, .int x7), (8, .int x8), (9, .int x9)] [] :=
  kj_it_J (Wh := fun (u : (Int32 × Int32 × Int32 × Int32 × Int32 × Int32 × Int32 × Int32 × Int32 × km_S)) => kj_J p l e rm_X8_wayFrom s m args below meth c 0 0 Q 10 D A ((km_w cA h0 q) (u.2.2.2.2.2.2.2.2.2)) 105 [(0, .ref h0), (1, .int (u.1)), (2, .int (u.2.1)), (3, .int (u.2.2.1)), (4, .int (u.2.2.2.1)), (5, .int (u.2.2.2.2.1)), (6, .int (u.2.2.2.2.2.1)), (7, .int (u.2.2.2.2.2.2.1)), (8, .int (u.2.2.2.2.2.2.2.1)), (9, .int (u.2.2.2.2.2.2.2.2.1))] []) (We := fun r => kj_J p l e rm_X8_wayFrom s m args below meth c 0 0 Q 10 D A ((km_w cA h0 q) (r.2.2.2.2.2.2)) 173 [(0, .ref h0), (1, .int (r.1)), (2, .int (r.2.1)), (3, .int (r.2.2.1)), (4, .int (r.2.2.2.1)), (5, .int (r.2.2.2.2.1)), (6, .int (r.2.2.2.2.2.1))] []) (fun u o h kb ke => jm_wayFrom_105 F h (fun a0' a1' a2' a3' a4' a5' a6' a7' a8' a9' e => kb (a0', a1', a2', a3', a4', a5', a6', a7', a8', a9') e) (fun a0' a1' a2' a3' a4' a5' a6' e => ke (a0', a1', a2', a3', a4', a5', a6') e)) n (x1, x2, x3, x4, x5, x6, x7, x8, x9, z) r h ke
set_option maxRecDepth 20000 in
theorem jm_wayFrom_173 {p : Program} {l : Launch} {e : Env} {s : State} {m : MethodId} {args : Array Value} {below : List Frame} {meth : Method} {c : Code} {A : Nat → Prop} {D : va_G} {cA : Nat → ClassId} {h0 : Nat} {q : Nat → Nat} {Q : State → Prop} (F : kj_Fx p s m args meth c cX8_wayFrom 10 wsX8_wayFrom RX8 (some .int) D (km_T cA) A) {x1 : Int32} {x2 : Int32} {x3 : Int32} {x4 : Int32} {x5 : Int32} {x6 : Int32} {z : km_S} {o : ((Int32 × Int32 × Int32 × Int32 × Int32 × Int32 × km_S) ⊕ (Int32 × km_S))} (h : fm_wayFrom_173 x1 x2 x3 x4 x5 x6 z = some o) (kb : ∀ (a0' : Int32) (a1' : Int32) (a2' : Int32) (a3' : Int32) (a4' : Int32) (a5' : Int32) (a6' : km_S), o = .inl (a0', a1', a2', a3', a4', a5', a6') → kj_J p l e rm_X8_wayFrom s m args below meth c 0 0 Q 10 D A ((km_w cA h0 q) a6') 44 [(0, .ref h0), (1, .int a0'), (2, .int a1'), (3, .int a2'), (4, .int a3'), (5, .int a4'), (6, .int a5')] []) (ke0 : ∀ (a0' : Int32) (a1' : km_S), o = .inr (a0', a1') → kj_J p l e rm_X8_wayFrom s m args below meth c 0 0 Q 10 D A ((km_w cA h0 q) a1') 179 [(0, .ref h0), (3, .int a0')] []) : kj_J p l e rm_X8_wayFrom s m args below meth c 0 0 Q 10 D A ((km_w cA h0 q) z) 173 [(0, .ref h0), (1, .int x1), (2, .int x2), (3, .int x3), (4, .int x4), (5, .int x5), (6, .int x6)] [] := by
  unfold fm_wayFrom_173 at h
  refine kj_iinc F dX8_wayFrom_173 6 rfl (v := 1) (by decide) (by decide) (lv' := [(6, .int (x6 + 1)), (0, .ref h0), (1, .int x1), (2, .int x2), (3, .int x3), (4, .int x4), (5, .int x5)]) rfl ?_
  refine kj_goto F dX8_wayFrom_176 (tgt := 44) (by decide) ?_
  refine kj_J.sub [1, 2, 3, 4, 5, 6, 0] rfl ?_
  exact kb x1 x2 x3 x4 x5 (x6 + 1) z (Option.some.inj h).symm
set_option maxRecDepth 20000 in
theorem jm_wayFrom_100 {p : Program} {l : Launch} {e : Env} {s : State} {m : MethodId} {args : Array Value} {below : List Frame} {meth : Method} {c : Code} {A : Nat → Prop} {D : va_G} {cA : Nat → ClassId} {h0 : Nat} {q : Nat → Nat} {Q : State → Prop} (F : kj_Fx p s m args meth c cX8_wayFrom 10 wsX8_wayFrom RX8 (some .int) D (km_T cA) A) {x1 : Int32} {x2 : Int32} {x3 : Int32} {x4 : Int32} {x5 : Int32} {x6 : Int32} {x7 : Int32} {t0 : Int32} {z : km_S} {o : ((Int32 × Int32 × Int32 × Int32 × Int32 × Int32 × km_S) ⊕ (Int32 × km_S))} (h : fm_wayFrom_100 x1 x2 x3 x4 x5 x6 x7 t0 z = some o) (kb : ∀ (a0' : Int32) (a1' : Int32) (a2' : Int32) (a3' : Int32) (a4' : Int32) (a5' : Int32) (a6' : km_S), o = .inl (a0', a1', a2', a3', a4', a5', a6') → kj_J p l e rm_X8_wayFrom s m args below meth c 0 0 Q 10 D A ((km_w cA h0 q) a6') 44 [(0, .ref h0), (1, .int a0'), (2, .int a1'), (3, .int a2'), (4, .int a3'), (5, .int a4'), (6, .int a5')] []) (ke0 : ∀ (a0' : Int32) (a1' : km_S), o = .inr (a0', a1') → kj_J p l e rm_X8_wayFrom s m args below meth c 0 0 Q 10 D A ((km_w cA h0 q) a1') 179 [(0, .ref h0), (3, .int a0')] []) : kj_J p l e rm_X8_wayFrom s m args below meth c 0 0 Q 10 D A ((km_w cA h0 q) z) 100 [(0, .ref h0), (1, .int x1), (2, .int x2), (3, .int x3), (4, .int x4), (5, .int x5), (6, .int x6), (7, .int x7)] [.int t0] := by
  unfold fm_wayFrom_100 at h
  refine kj_istore F dX8_wayFrom_100 (lv' := [(8, .int t0), (0, .ref h0), (1, .int x1), (2, .int x2), (3, .int x3), (4, .int x4), (5, .int x5), (6, .int x6), (7, .int x7)]) (by decide) rfl ?_
  refine kj_iconst F dX8_wayFrom_102 (v := 0) (by decide) ?_
  refine kj_istore F dX8_wayFrom_103 (lv' := [(9, .int (0 : Int32)), (8, .int t0), (0, .ref h0), (1, .int x1), (2, .int x2), (3, .int x3), (4, .int x4), (5, .int x5), (6, .int x6), (7, .int x7)]) (by decide) rfl ?_
  refine kj_J.sub [2, 3, 4, 5, 6, 7, 8, 9, 1, 0] rfl ?_
  refine kj_bn h (fun r1 h1 h => ?_)
  refine jlm_wayFrom_105 F h1 ?_
  exact jm_wayFrom_173 F h kb ke0
set_option maxRecDepth 20000 in
theorem jm_wayFrom_95 {p : Program} {l : Launch} {e : Env} {s : State} {m : MethodId} {args : Array Value} {below : List Frame} {meth : Method} {c : Code} {A : Nat → Prop} {D : va_G} {cA : Nat → ClassId} {h0 : Nat} {q : Nat → Nat} {Q : State → Prop} (F : kj_Fx p s m args meth c cX8_wayFrom 10 wsX8_wayFrom RX8 (some .int) D (km_T cA) A) {x1 : Int32} {x2 : Int32} {x3 : Int32} {x4 : Int32} {x5 : Int32} {x6 : Int32} {x7 : Int32} {z : km_S} {o : ((Int32 × Int32 × Int32 × Int32 × Int32 × Int32 × km_S) ⊕ (Int32 × km_S))} (h : fm_wayFrom_95 x1 x2 x3 x4 x5 x6 x7 z = some o) (kb : ∀ (a0' : Int32) (a1' : Int32) (a2' : Int32) (a3' : Int32) (a4' : Int32) (a5' : Int32) (a6' : km_S), o = .inl (a0', a1', a2', a3', a4', a5', a6') → kj_J p l e rm_X8_wayFrom s m args below meth c 0 0 Q 10 D A ((km_w cA h0 q) a6') 44 [(0, .ref h0), (1, .int a0'), (2, .int a1'), (3, .int a2'), (4, .int a3'), (5, .int a4'), (6, .int a5')] []) (ke0 : ∀ (a0' : Int32) (a1' : km_S), o = .inr (a0', a1') → kj_J p l e rm_X8_wayFrom s m args below meth c 0 0 Q 10 D A ((km_w cA h0 q) a1') 179 [(0, .ref h0), (3, .int a0')] []) : kj_J p l e rm_X8_wayFrom s m args below meth c 0 0 Q 10 D A ((km_w cA h0 q) z) 95 [(0, .ref h0), (1, .int x1), (2, .int x2), (3, .int x3), (4, .int x4), (5, .int x5), (6, .int x6), (7, .int x7)] [] := by
  unfold fm_wayFrom_95 at h
  refine kj_iconst F dX8_wayFrom_95 (v := 1) (by decide) ?_
  refine kj_goto F dX8_wayFrom_96 (tgt := 100) (by decide) ?_
  exact jm_wayFrom_100 F h kb ke0
set_option maxRecDepth 20000 in
theorem jm_wayFrom_99 {p : Program} {l : Launch} {e : Env} {s : State} {m : MethodId} {args : Array Value} {below : List Frame} {meth : Method} {c : Code} {A : Nat → Prop} {D : va_G} {cA : Nat → ClassId} {h0 : Nat} {q : Nat → Nat} {Q : State → Prop} (F : kj_Fx p s m args meth c cX8_wayFrom 10 wsX8_wayFrom RX8 (some .int) D (km_T cA) A) {x1 : Int32} {x2 : Int32} {x3 : Int32} {x4 : Int32} {x5 : Int32} {x6 : Int32} {x7 : Int32} {z : km_S} {o : ((Int32 × Int32 × Int32 × Int32 × Int32 × Int32 × km_S) ⊕ (Int32 × km_S))} (h : fm_wayFrom_99 x1 x2 x3 x4 x5 x6 x7 z = some o) (kb : ∀ (a0' : Int32) (a1' : Int32) (a2' : Int32) (a3' : Int32) (a4' : Int32) (a5' : Int32) (a6' : km_S), o = .inl (a0', a1', a2', a3', a4', a5', a6') → kj_J p l e rm_X8_wayFrom s m args below meth c 0 0 Q 10 D A ((km_w cA h0 q) a6') 44 [(0, .ref h0), (1, .int a0'), (2, .int a1'), (3, .int a2'), (4, .int a3'), (5, .int a4'), (6, .int a5')] []) (ke0 : ∀ (a0' : Int32) (a1' : km_S), o = .inr (a0', a1') → kj_J p l e rm_X8_wayFrom s m args below meth c 0 0 Q 10 D A ((km_w cA h0 q) a1') 179 [(0, .ref h0), (3, .int a0')] []) : kj_J p l e rm_X8_wayFrom s m args below meth c 0 0 Q 10 D A ((km_w cA h0 q) z) 99 [(0, .ref h0), (1, .int x1), (2, .int x2), (3, .int x3), (4, .int x4), (5, .int x5), (6, .int x6), (7, .int x7)] [] := by
  unfold fm_wayFrom_99 at h
  refine kj_iconst F dX8_wayFrom_99 (v := 0) (by decide) ?_
  exact jm_wayFrom_100 F h kb ke0
set_option maxRecDepth 20000 in
theorem jm_wayFrom_44 {p : Program} {l : Launch} {e : Env} {s : State} {m : MethodId} {args : Array Value} {below : List Frame} {meth : Method} {c : Code} {A : Nat → Prop} {D : va_G} {cA : Nat → ClassId} {h0 : Nat} {q : Nat → Nat} {Q : State → Prop} (F : kj_Fx p s m args meth c cX8_wayFrom 10 wsX8_wayFrom RX8 (some .int) D (km_T cA) A) {x1 : Int32} {x2 : Int32} {x3 : Int32} {x4 : Int32} {x5 : Int32} {x6 : Int32} {z : km_S} {o : ((Int32 × Int32 × Int32 × Int32 × Int32 × Int32 × km_S) ⊕ (Int32 × km_S))} (h : fm_wayFrom_44 x1 x2 x3 x4 x5 x6 z = some o) (kb : ∀ (a0' : Int32) (a1' : Int32) (a2' : Int32) (a3' : Int32) (a4' : Int32) (a5' : Int32) (a6' : km_S), o = .inl (a0', a1', a2', a3', a4', a5', a6') → kj_J p l e rm_X8_wayFrom s m args below meth c 0 0 Q 10 D A ((km_w cA h0 q) a6') 44 [(0, .ref h0), (1, .int a0'), (2, .int a1'), (3, .int a2'), (4, .int a3'), (5, .int a4'), (6, .int a5')] []) (ke0 : ∀ (a0' : Int32) (a1' : km_S), o = .inr (a0', a1') → kj_J p l e rm_X8_wayFrom s m args below meth c 0 0 Q 10 D A ((km_w cA h0 q) a1') 179 [(0, .ref h0), (3, .int a0')] []) : kj_J p l e rm_X8_wayFrom s m args below meth c 0 0 Q 10 D A ((km_w cA h0 q) z) 44 [(0, .ref h0), (1, .int x1), (2, .int x2), (3, .int x3), (4, .int x4), (5, .int x5), (6, .int x6)] [] := by
  unfold fm_wayFrom_44 at h
  refine kj_iload F dX8_wayFrom_44 6 rfl ?_
  refine kj_iload F dX8_wayFrom_46 5 rfl ?_
  refine kj_icmp_ge F dX8_wayFrom_48 (tgt := 179) (by decide) h (fun hc h => ?_) (fun hc h => ?_)
  · refine kj_J.sub [0, 3] rfl ?_
    exact ke0 x3 z (Option.some.inj h).symm
  · refine kj_aload_n F dX8_wayFrom_51 0 rfl rfl ?_
    refine km_get F dX8_wayFrom_52 in_X8_wayFrom 28 (by decide) (by decide +kernel) rfl rfl ?_
    refine kj_iload F dX8_wayFrom_55 6 rfl ?_
    refine km_iald F dX8_wayFrom_57 17 (by decide) h (fun v1 h => ?_)
    refine kj_istore F dX8_wayFrom_58 (lv' := [(7, .int v1), (0, .ref h0), (1, .int x1), (2, .int x2), (3, .int x3), (4, .int x4), (5, .int x5), (6, .int x6)]) (by decide) rfl ?_
    refine kj_iload F dX8_wayFrom_60 0 rfl ?_
    refine kj_iload_n F dX8_wayFrom_62 3 rfl rfl ?_
    refine kj_icmp_eq F dX8_wayFrom_63 (tgt := 95) (by decide) h (fun hc h => ?_) (fun hc h => ?_)
    · refine kj_J.sub [1, 2, 3, 4, 5, 6, 7, 0] rfl ?_
      exact jm_wayFrom_95 F h kb ke0
    · refine kj_iload F dX8_wayFrom_66 0 rfl ?_
      refine kj_iload_n F dX8_wayFrom_68 4 rfl rfl ?_
      refine kj_icmp_eq F dX8_wayFrom_69 (tgt := 99) (by decide) h (fun hc h => ?_) (fun hc h => ?_)
      · refine kj_J.sub [1, 2, 3, 4, 5, 6, 7, 0] rfl ?_
        exact jm_wayFrom_99 F h kb ke0
      · refine kj_iload F dX8_wayFrom_72 5 rfl ?_
        refine kj_if_eq F dX8_wayFrom_74 (tgt := 95) (by decide) h (fun hc h => ?_) (fun hc h => ?_)
        · refine kj_J.sub [1, 2, 3, 4, 5, 6, 7, 0] rfl ?_
          exact jm_wayFrom_95 F h kb ke0
        · refine kj_aload_n F dX8_wayFrom_77 1 rfl rfl ?_
          refine km_get F dX8_wayFrom_78 in_X8_wayFrom 26 (by decide) (by decide +kernel) rfl rfl ?_
          refine kj_bipush F dX8_wayFrom_81 (v := 20) (by decide) ?_
          refine kj_iload F dX8_wayFrom_83 0 rfl ?_
          refine kj_imul F dX8_wayFrom_85 ?_
          refine kj_cSi (As := [.ref (q 15), .int ((20 : Int32) * v1)]) (rest := []) F dX8_wayFrom_86 h (fun o h1 => cm_volume (by decide) h1) (va_cwS 2 F.2.2.2.2.1 gX8_wayFrom_X8_volume rfl rfl rfl (by decide +kernel) ⟨Nat.le_of_ble_eq_true rfl, Nat.le_of_ble_eq_true rfl⟩) rfl rfl (Nat.le_of_ble_eq_true rfl) ⟨Nat.zero_le _, Nat.zero_le _⟩ (fun o2 h => ?_)
          refine kj_iload F dX8_wayFrom_89 5 rfl ?_
          refine kj_irem F dX8_wayFrom_91 h (fun h => ?_)
          refine kj_if_eq F dX8_wayFrom_92 (tgt := 99) (by decide) h (fun hc h => ?_) (fun hc h => ?_)
          · refine kj_J.sub [1, 2, 3, 4, 5, 6, 7, 0] rfl ?_
            exact jm_wayFrom_99 F h kb ke0
          · refine kj_J.sub [1, 2, 3, 4, 5, 6, 7, 0] rfl ?_
            exact jm_wayFrom_95 F h kb ke0
theorem jlm_wayFrom_44 {p : Program} {l : Launch} {e : Env} {s : State} {m : MethodId} {args : Array Value} {below : List Frame} {meth : Method} {c : Code} {A : Nat → Prop} {D : va_G} {cA : Nat → ClassId} {h0 : Nat} {q : Nat → Nat} {Q : State → Prop} (F : kj_Fx p s m args meth c cX8_wayFrom 10 wsX8_wayFrom RX8 (some .int) D (km_T cA) A) {n : Nat} {x1 : Int32} {x2 : Int32} {x3 : Int32} {x4 : Int32} {x5 : Int32} {x6 : Int32} {z : km_S} {r : (Int32 × km_S)} (h : lm_wayFrom_44 n x1 x2 x3 x4 x5 x6 z = some r) (ke : kj_J p l e rm_X8_wayFrom s m args below meth c 0 0 Q 10 D A ((km_w cA h0 q) (r.2)) 179 [(0, .ref h0), (3, .int (r.1))] []) : kj_J p l e rm_X8_wayFrom s m args below meth c 0 0 Q 10 D A ((km_w cA h0 q) z) 44 [(0, .ref h0), (1, .int x1), (2, .int x2), (3, .int x3), (4, .int x4), (5, .int x5), (6, .int x6)] [] :=
  kj_it_J (Wh := fun (u : (Int32 × Int32 × Int32 × Int32 × Int32 × Int32 × km_S)) => kj_J p l e rm_X8_wayFrom s m args below meth c 0 0 Q 10 D A ((km_w cA h0 q) (u.2.2.2.2.2.2)) 44 [(0, .ref h0), (1, .int (u.1)), (2, .int (u.2.1)), (3, .int (u.2.2.1)), (4, .int (u.2.2.2.1)), (5, .int (u.2.2.2.2.1)), (6, .int (u.2.2.2.2.2.1))] []) (We := fun r => kj_J p l e rm_X8_wayFrom s m args below meth c 0 0 Q 10 D A ((km_w cA h0 q) (r.2)) 179 [(0, .ref h0), (3, .int (r.1))] []) (fun u o h kb ke => jm_wayFrom_44 F h (fun a0' a1' a2' a3' a4' a5' a6' e => kb (a0', a1', a2', a3', a4', a5', a6') e) (fun a0' a1' e => ke (a0', a1') e)) n (x1, x2, x3, x4, x5, x6, z) r h ke
set_option maxRecDepth 20000 in
theorem jm_wayFrom {p : Program} {l : Launch} {e : Env} {s : State} {m : MethodId} {args : Array Value} {below : List Frame} {meth : Method} {c : Code} {A : Nat → Prop} {D : va_G} {cA : Nat → ClassId} {h0 : Nat} {q : Nat → Nat} (F : kj_Fx p s m args meth c cX8_wayFrom 10 wsX8_wayFrom RX8 (some .int) D (km_T cA) A) {x1 : Int32} {x2 : Int32} {x3 : Int32} {x4 : Int32} {z : km_S} {o : (Int32 × km_S)} (h : fm_wayFrom x1 x2 x3 x4 z = some o) : kj_J p l e rm_X8_wayFrom s m args below meth c 0 0 (MQ below (kj_Qi D (km_T cA) A (km_w cA h0 q) o) args s 0 0 A) 10 D A ((km_w cA h0 q) z) 0 [(0, .ref h0), (1, .int x1), (2, .int x2), (3, .int x3), (4, .int x4)] [] := by
  unfold fm_wayFrom at h
  refine kj_iconst F dX8_wayFrom_0 (v := 0) (by decide) ?_
  refine kj_istore F dX8_wayFrom_1 (lv' := [(5, .int (0 : Int32)), (0, .ref h0), (1, .int x1), (2, .int x2), (3, .int x3), (4, .int x4)]) (by decide) rfl ?_
  refine kj_J.sub [1, 2, 3, 4, 5, 0] rfl ?_
  refine kj_bn h (fun r1 h1 h => ?_)
  refine jlm_wayFrom_3 F h1 ?_
  refine kj_iconst F dX8_wayFrom_24 (v := 1) (by decide) ?_
  refine kj_istore F dX8_wayFrom_25 (lv' := [(5, .int (1 : Int32)), (0, .ref h0), (1, .int (r1.1)), (2, .int (r1.2.1)), (3, .int (r1.2.2.1)), (4, .int (r1.2.2.2.1))]) (by decide) rfl ?_
  refine kj_aload_n F dX8_wayFrom_27 1 rfl rfl ?_
  refine km_get F dX8_wayFrom_28 in_X8_wayFrom 28 (by decide) (by decide +kernel) rfl rfl ?_
  refine kj_iconst F dX8_wayFrom_31 (v := 0) (by decide) ?_
  refine kj_iload_n F dX8_wayFrom_32 3 rfl rfl ?_
  refine km_iast F dX8_wayFrom_33 17 (by decide) h (fun z2 h => ?_)
  refine kj_aload_n F dX8_wayFrom_34 1 rfl rfl ?_
  refine km_get F dX8_wayFrom_35 in_X8_wayFrom 27 (by decide) (by decide +kernel) rfl rfl ?_
  refine kj_iload_n F dX8_wayFrom_38 3 rfl rfl ?_
  refine kj_iconst F dX8_wayFrom_39 (v := 0) (by decide) ?_
  refine km_iast F dX8_wayFrom_40 16 (by decide) h (fun z3 h => ?_)
  refine kj_iconst F dX8_wayFrom_41 (v := 0) (by decide) ?_
  refine kj_istore F dX8_wayFrom_42 (lv' := [(6, .int (0 : Int32)), (5, .int (1 : Int32)), (0, .ref h0), (1, .int (r1.1)), (2, .int (r1.2.1)), (3, .int (r1.2.2.1)), (4, .int (r1.2.2.2.1))]) (by decide) rfl ?_
  refine kj_J.sub [2, 3, 4, 5, 6, 1, 0] rfl ?_
  refine kj_bn h (fun r4 h1 h => ?_)
  refine jlm_wayFrom_44 F h1 ?_
  refine kj_aload_n F dX8_wayFrom_179 0 rfl rfl ?_
  refine km_get F dX8_wayFrom_180 in_X8_wayFrom 27 (by decide) (by decide +kernel) rfl rfl ?_
  refine kj_iload_n F dX8_wayFrom_183 1 rfl rfl ?_
  refine km_iald F dX8_wayFrom_184 16 (by decide) h (fun v5 h => ?_)
  exact kj_iret F dX8_wayFrom_185 h
theorem cm_wayFrom {l : Launch} {D : va_G} {cA : Nat → ClassId} {h0 : Nat} {q : Nat → Nat} {x1 : Int32} {x2 : Int32} {x3 : Int32} {x4 : Int32} {z : km_S} {o : (Int32 × km_S)} (h : fm_wayFrom x1 x2 x3 x4 z = some o) : kj_Mi l yX8_wayFrom wsX8_wayFrom rm_X8_wayFrom D (km_T cA) (km_w cA h0 q) z [.ref h0, .int x1, .int x2, .int x3, .int x4] o :=
  fun sz => kj_start (by decide) rfl (Nat.le_of_ble_eq_true rfl) rfl fun p e s m args below meth c hsz F => jm_wayFrom F h
/-! X8_way -/
abbrev rm_X8_way : Room := { frames := 3, cells := 0, slots := 0, locals := 83 }
theorem in_X8_way : ∀ w ∈ u_ws RX8 TX8 29, w ∈ wsX8_way := by decide +kernel
def fm_way_134 (x3 : Int32) (x4 : Int32) (x5 : Int32) (x6 : Int32) (x7 : Int32) (x8 : Int32) (x9 : Int32) (x10 : Int32) (z : km_S) : Option ((Int32 × Int32 × Int32 × Int32 × Int32 × Int32 × Int32 × Int32 × km_S) ⊕ (Int32 × Int32 × Int32 × Int32 × km_S)) :=
  if x9 ≤ x10 then
  some (.inr (x3, x4, x5, x9, z))
  else
  (fm_makes x6 x7 x8 x10 z).bind fun o1 =>
  (fm_bring 4 15 (0 : Int32) ((20 : Int32) * x10) (20 : Int32) o1).bind fun o2 =>
  some (.inl (x3, x4, x5, x6, x7, x8, x9, (x10 + 1), o2))
def lm_way_134 (n : Nat) (x3 : Int32) (x4 : Int32) (x5 : Int32) (x6 : Int32) (x7 : Int32) (x8 : Int32) (x9 : Int32) (x10 : Int32) (z : km_S) : Option (Int32 × Int32 × Int32 × Int32 × km_S) :=
  kj_it (fun (s : (Int32 × Int32 × Int32 × Int32 × Int32 × Int32 × Int32 × Int32 × km_S)) => fm_way_134 (s.1) (s.2.1) (s.2.2.1) (s.2.2.2.1) (s.2.2.2.2.1) (s.2.2.2.2.2.1) (s.2.2.2.2.2.2.1) (s.2.2.2.2.2.2.2.1) (s.2.2.2.2.2.2.2.2)) n (x3, x4, x5, x6, x7, x8, x9, x10, z)
def fm_way (x1 : Int32) (x2 : Int32) (x3 : Int32) (z : km_S) : Option (Int32 × km_S) :=
  (fm_isHeap x1 z).bind fun o1 =>
  if (o1.1) = 0 then
  some (((-1000001) : Int32), (o1.2))
  else
  (fm_isHeap x2 (o1.2)).bind fun o2 =>
  if (o2.1) = 0 then
  some (((-1000001) : Int32), (o2.2))
  else
  (fm_in x3 (0 : Int32) (9 : Int32)).bind fun o3 =>
  if o3 = 0 then
  some (((-1000001) : Int32), (o2.2))
  else
  (fm_areAlike x1 x2 (o2.2)).bind fun o4 =>
  if (o4.1) = 0 then
  some (((-1000002) : Int32), (o4.2))
  else
  (fm_numberOf 0 ((20 : Int32) * x1) (o4.2)).bind fun o5 =>
  (fm_numberOf 0 ((20 : Int32) * x2) (o5.2)).bind fun o6 =>
  (km_rd (o6.2) 0 (((20 : Int32) * x1) + (1 : Int32))).bind fun v7 =>
  (km_rd (o6.2) 0 (((20 : Int32) * x1) + (2 : Int32))).bind fun v8 =>
  (km_rd (o6.2) 0 (((20 : Int32) * x1) + (3 : Int32))).bind fun v9 =>
  (fm_lays v7 v8 v9 (o6.2)).bind fun o10 =>
  if (o10.1) ≤ (200 : Int32) then
  (lm_way_134 5000 x3 (o5.1) (o6.1) v7 v8 v9 (o10.1) (0 : Int32) (o10.2)).bind fun r11 =>
  (fm_wayFrom (r11.2.2.2.1) (r11.2.1) (r11.2.2.1) (r11.1) (r11.2.2.2.2)).bind fun o12 =>
  some ((o12.1), (o12.2))
  else
  some (((-1000003) : Int32), (o10.2))
set_option maxRecDepth 20000 in
theorem jm_way_134 {p : Program} {l : Launch} {e : Env} {s : State} {m : MethodId} {args : Array Value} {below : List Frame} {meth : Method} {c : Code} {A : Nat → Prop} {D : va_G} {cA : Nat → ClassId} {h0 : Nat} {q : Nat → Nat} {Q : State → Prop} (F : kj_Fx p s m args meth c cX8_way 11 wsX8_way RX8 (some .int) D (km_T cA) A) {x3 : Int32} {x4 : Int32} {x5 : Int32} {x6 : Int32} {x7 : Int32} {x8 : Int32} {x9 : Int32} {x10 : Int32} {z : km_S} {o : ((Int32 × Int32 × Int32 × Int32 × Int32 × Int32 × Int32 × Int32 × km_S) ⊕ (Int32 × Int32 × Int32 × Int32 × km_S))} (h : fm_way_134 x3 x4 x5 x6 x7 x8 x9 x10 z = some o) (kb : ∀ (a0' : Int32) (a1' : Int32) (a2' : Int32) (a3' : Int32) (a4' : Int32) (a5' : Int32) (a6' : Int32) (a7' : Int32) (a8' : km_S), o = .inl (a0', a1', a2', a3', a4', a5', a6', a7', a8') → kj_J p l e rm_X8_way s m args below meth c 0 0 Q 11 D A ((km_w cA h0 q) a8') 134 [(0, .ref h0), (3, .int a0'), (4, .int a1'), (5, .int a2'), (6, .int a3'), (7, .int a4'), (8, .int a5'), (9, .int a6'), (10, .int a7')] []) (ke0 : ∀ (a0' : Int32) (a1' : Int32) (a2' : Int32) (a3' : Int32) (a4' : km_S), o = .inr (a0', a1', a2', a3', a4') → kj_J p l e rm_X8_way s m args below meth c 0 0 Q 11 D A ((km_w cA h0 q) a4') 178 [(0, .ref h0), (3, .int a0'), (4, .int a1'), (5, .int a2'), (9, .int a3')] []) : kj_J p l e rm_X8_way s m args below meth c 0 0 Q 11 D A ((km_w cA h0 q) z) 134 [(0, .ref h0), (3, .int x3), (4, .int x4), (5, .int x5), (6, .int x6), (7, .int x7), (8, .int x8), (9, .int x9), (10, .int x10)] [] := by
  unfold fm_way_134 at h
  refine kj_iload F dX8_way_134 8 rfl ?_
  refine kj_iload F dX8_way_136 7 rfl ?_
  refine kj_icmp_ge F dX8_way_138 (tgt := 178) (by decide) h (fun hc h => ?_) (fun hc h => ?_)
  · refine kj_J.sub [0, 1, 2, 3, 7] rfl ?_
    exact ke0 x3 x4 x5 x9 z (Option.some.inj h).symm
  · refine kj_aload_n F dX8_way_141 0 rfl rfl ?_
    refine kj_iload F dX8_way_142 4 rfl ?_
    refine kj_iload F dX8_way_144 5 rfl ?_
    refine kj_iload F dX8_way_146 6 rfl ?_
    refine kj_iload F dX8_way_148 8 rfl ?_
    refine kj_cVv (As := [.int x6, .int x7, .int x8, .int x10]) (rest := []) F dX8_way_150 h (fun o h1 => cm_makes h1) (cwV 4 F.2.2.2.2.1 gX8_way_X8_makes rfl rfl rfl (by decide +kernel) ⟨Nat.le_of_ble_eq_true rfl, Nat.le_of_ble_eq_true rfl⟩) 0 rfl rfl rfl rfl rfl (Nat.le_of_ble_eq_true rfl) ⟨Nat.zero_le _, Nat.zero_le _⟩ (fun o1 h => ?_)
    refine kj_aload_n F dX8_way_153 0 rfl rfl ?_
    refine km_get F dX8_way_154 in_X8_way 8 (by decide) (by decide +kernel) rfl rfl ?_
    refine kj_iconst F dX8_way_157 (v := 0) (by decide) ?_
    refine kj_aload_n F dX8_way_158 0 rfl rfl ?_
    refine km_get F dX8_way_159 in_X8_way 26 (by decide) (by decide +kernel) rfl rfl ?_
    refine kj_bipush F dX8_way_162 (v := 20) (by decide) ?_
    refine kj_iload F dX8_way_164 8 rfl ?_
    refine kj_imul F dX8_way_166 ?_
    refine kj_bipush F dX8_way_167 (v := 20) (by decide) ?_
    refine kj_cSv (As := [.ref (q 4), .int (0 : Int32), .ref (q 15), .int ((20 : Int32) * x10), .int (20 : Int32)]) (rest := []) F dX8_way_169 h (fun o h1 => cm_bring (by decide) (by decide) h1) (va_cwS 5 F.2.2.2.2.1 gX8_way_X8_bring rfl rfl rfl (by decide +kernel) ⟨Nat.le_of_ble_eq_true rfl, Nat.le_of_ble_eq_true rfl⟩) rfl rfl (Nat.le_of_ble_eq_true rfl) ⟨Nat.zero_le _, Nat.zero_le _⟩ (fun o2 h => ?_)
    refine kj_iinc F dX8_way_172 8 rfl (v := 1) (by decide) (by decide) (lv' := [(10, .int (x10 + 1)), (0, .ref h0), (3, .int x3), (4, .int x4), (5, .int x5), (6, .int x6), (7, .int x7), (8, .int x8), (9, .int x9)]) rfl ?_
    refine kj_goto F dX8_way_175 (tgt := 134) (by decide) ?_
    refine kj_J.sub [1, 2, 3, 4, 5, 6, 7, 8, 0] rfl ?_
    exact kb x3 x4 x5 x6 x7 x8 x9 (x10 + 1) o2 (Option.some.inj h).symm
theorem jlm_way_134 {p : Program} {l : Launch} {e : Env} {s : State} {m : MethodId} {args : Array Value} {below : List Frame} {meth : Method} {c : Code} {A : Nat → Prop} {D : va_G} {cA : Nat → ClassId} {h0 : Nat} {q : Nat → Nat} {Q : State → Prop} (F : kj_Fx p s m args meth c cX8_way 11 wsX8_way RX8 (some .int) D (km_T cA) A) {n : Nat} {x3 : Int32} {x4 : Int32} {x5 : Int32} {x6 : Int32} {x7 : Int32} {x8 : Int32} {x9 : Int32} {x10 : Int32} {z : km_S} {r : (Int32 × Int32 × Int32 × Int32 × km_S)} (h : lm_way_134 n x3 x4 x5 x6 x7 x8 x9 x10 z = some r) (ke : kj_J p l e rm_X8_way s m args below meth c 0 0 Q 11 D A ((km_w cA h0 q) (r.2.2.2.2)) 178 [(0, .ref h0), (3, .int (r.1)), (4, .int (r.2.1)), (5, .int (r.2.2.1)), (9, .int (r.2.2.2.1))] []) : kj_J p l e rm_X8_way s m args below meth c 0 0 Q 11 D A ((km_w cA h0 q) z) 134 [(0, .ref h0), (3, .int x3), (4, .int x4), (5, .int x5), (6, .int x6), (7, .int x7), (8, .int x8), (9, .int x9), (10, .int x10)] [] :=
  kj_it_J (Wh := fun (u : (Int32 × Int32 × Int32 × Int32 × Int32 × Int32 × Int32 × Int32 × km_S)) => kj_J p l e rm_X8_way s m args below meth c 0 0 Q 11 D A ((km_w cA h0 q) (u.2.2.2.2.2.2.2.2)) 134 [(0, .ref h0), (3, .int (u.1)), (4, .int (u.2.1)), (5, .int (u.2.2.1)), (6, .int (u.2.2.2.1)), (7, .int (u.2.2.2.2.1)), (8, .int (u.2.2.2.2.2.1)), (9, .int (u.2.2.2.2.2.2.1)), (10, .int (u.2.2.2.2.2.2.2.1))] []) (We := fun r => kj_J p l e rm_X8_way s m args below meth c 0 0 Q 11 D A ((km_w cA h0 q) (r.2.2.2.2)) 178 [(0, .ref h0), (3, .int (r.1)), (4, .int (r.2.1)), (5, .int (r.2.2.1)), (9, .int (r.2.2.2.1))] []) (fun u o h kb ke => jm_way_134 F h (fun a0' a1' a2' a3' a4' a5' a6' a7' a8' e => kb (a0', a1', a2', a3', a4', a5', a6', a7', a8') e) (fun a0' a1' a2' a3' a4' e => ke (a0', a1', a2', a3', a4') e)) n (x3, x4, x5, x6, x7, x8, x9, x10, z) r h ke
set_option maxRecDepth 20000 in
theorem jm_way {p : Program} {l : Launch} {e : Env} {s : State} {m : MethodId} {args : Array Value} {below : List Frame} {meth : Method} {c : Code} {A : Nat → Prop} {D : va_G} {cA : Nat → ClassId} {h0 : Nat} {q : Nat → Nat} (F : kj_Fx p s m args meth c cX8_way 11 wsX8_way RX8 (some .int) D (km_T cA) A) {x1 : Int32} {x2 : Int32} {x3 : Int32} {z : km_S} {o : (Int32 × km_S)} (h : fm_way x1 x2 x3 z = some o) : kj_J p l e rm_X8_way s m args below meth c 0 0 (MQ below (kj_Qi D (km_T cA) A (km_w cA h0 q) o) args s 0 0 A) 11 D A ((km_w cA h0 q) z) 0 [(0, .ref h0), (1, .int x1), (2, .int x2), (3, .int x3)] [] := by
  unfold fm_way at h
  refine kj_aload_n F dX8_way_0 0 rfl rfl ?_
  refine kj_iload_n F dX8_way_1 1 rfl rfl ?_
  refine kj_cVi (As := [.int x1]) (rest := []) F dX8_way_2 h (fun o h1 => cm_isHeap h1) (cwV 1 F.2.2.2.2.1 gX8_way_X8_isHeap rfl rfl rfl (by decide +kernel) ⟨Nat.le_of_ble_eq_true rfl, Nat.le_of_ble_eq_true rfl⟩) 0 rfl rfl rfl rfl rfl (Nat.le_of_ble_eq_true rfl) ⟨Nat.zero_le _, Nat.zero_le _⟩ (fun o1 h => ?_)
  refine kj_if_eq F dX8_way_5 (tgt := 26) (by decide) h (fun hc h => ?_) (fun hc h => ?_)
  · refine kj_ldc F dX8_way_26 (v := (-1000001)) (by decide +kernel) ?_
    exact kj_iret F dX8_way_28 h
  · refine kj_aload_n F dX8_way_8 0 rfl rfl ?_
    refine kj_iload_n F dX8_way_9 2 rfl rfl ?_
    refine kj_cVi (As := [.int x2]) (rest := []) F dX8_way_10 h (fun o h1 => cm_isHeap h1) (cwV 1 F.2.2.2.2.1 gX8_way_X8_isHeap rfl rfl rfl (by decide +kernel) ⟨Nat.le_of_ble_eq_true rfl, Nat.le_of_ble_eq_true rfl⟩) 0 rfl rfl rfl rfl rfl (Nat.le_of_ble_eq_true rfl) ⟨Nat.zero_le _, Nat.zero_le _⟩ (fun o2 h => ?_)
    refine kj_if_eq F dX8_way_13 (tgt := 26) (by decide) h (fun hc h => ?_) (fun hc h => ?_)
    · refine kj_ldc F dX8_way_26 (v := (-1000001)) (by decide +kernel) ?_
      exact kj_iret F dX8_way_28 h
    · refine kj_iload_n F dX8_way_16 3 rfl rfl ?_
      refine kj_iconst F dX8_way_17 (v := 0) (by decide) ?_
      refine kj_bipush F dX8_way_18 (v := 9) (by decide) ?_
      refine kj_cSip (As := [.int x3, .int (0 : Int32), .int (9 : Int32)]) (rest := []) F dX8_way_20 h (fun o h1 => cm_in (w := (km_w cA h0 q)) h1) (va_cwS 3 F.2.2.2.2.1 gX8_way_X8_in rfl rfl rfl (by decide +kernel) ⟨Nat.le_of_ble_eq_true rfl, Nat.le_of_ble_eq_true rfl⟩) rfl rfl (Nat.le_of_ble_eq_true rfl) ⟨Nat.zero_le _, Nat.zero_le _⟩ (fun o3 h => ?_)
      refine kj_if_ne F dX8_way_23 (tgt := 29) (by decide) h (fun hc h => ?_) (fun hc h => ?_)
      · refine kj_ldc F dX8_way_26 (v := (-1000001)) (by decide +kernel) ?_
        exact kj_iret F dX8_way_28 h
      · refine kj_aload_n F dX8_way_29 0 rfl rfl ?_
        refine kj_iload_n F dX8_way_30 1 rfl rfl ?_
        refine kj_iload_n F dX8_way_31 2 rfl rfl ?_
        refine kj_cVi (As := [.int x1, .int x2]) (rest := []) F dX8_way_32 h (fun o h1 => cm_areAlike h1) (cwV 2 F.2.2.2.2.1 gX8_way_X8_areAlike rfl rfl rfl (by decide +kernel) ⟨Nat.le_of_ble_eq_true rfl, Nat.le_of_ble_eq_true rfl⟩) 0 rfl rfl rfl rfl rfl (Nat.le_of_ble_eq_true rfl) ⟨Nat.zero_le _, Nat.zero_le _⟩ (fun o4 h => ?_)
        refine kj_if_ne F dX8_way_35 (tgt := 41) (by decide) h (fun hc h => ?_) (fun hc h => ?_)
        · refine kj_ldc F dX8_way_38 (v := (-1000002)) (by decide +kernel) ?_
          exact kj_iret F dX8_way_40 h
        · refine kj_aload_n F dX8_way_41 0 rfl rfl ?_
          refine kj_aload_n F dX8_way_42 0 rfl rfl ?_
          refine km_get F dX8_way_43 in_X8_way 0 (by decide) (by decide +kernel) rfl rfl ?_
          refine kj_bipush F dX8_way_46 (v := 20) (by decide) ?_
          refine kj_iload_n F dX8_way_48 1 rfl rfl ?_
          refine kj_imul F dX8_way_49 ?_
          refine kj_cVi (As := [.ref (q 0), .int ((20 : Int32) * x1)]) (rest := []) F dX8_way_50 h (fun o h1 => cm_numberOf (by decide) h1) (cwV 2 F.2.2.2.2.1 gX8_way_X8_numberOf rfl rfl rfl (by decide +kernel) ⟨Nat.le_of_ble_eq_true rfl, Nat.le_of_ble_eq_true rfl⟩) 0 rfl rfl rfl rfl rfl (Nat.le_of_ble_eq_true rfl) ⟨Nat.zero_le _, Nat.zero_le _⟩ (fun o5 h => ?_)
          refine kj_istore F dX8_way_53 (lv' := [(4, .int (o5.1)), (0, .ref h0), (1, .int x1), (2, .int x2), (3, .int x3)]) (by decide) rfl ?_
          refine kj_aload_n F dX8_way_55 1 rfl rfl ?_
          refine kj_aload_n F dX8_way_56 1 rfl rfl ?_
          refine km_get F dX8_way_57 in_X8_way 0 (by decide) (by decide +kernel) rfl rfl ?_
          refine kj_bipush F dX8_way_60 (v := 20) (by decide) ?_
          refine kj_iload_n F dX8_way_62 3 rfl rfl ?_
          refine kj_imul F dX8_way_63 ?_
          refine kj_cVi (As := [.ref (q 0), .int ((20 : Int32) * x2)]) (rest := []) F dX8_way_64 h (fun o h1 => cm_numberOf (by decide) h1) (cwV 2 F.2.2.2.2.1 gX8_way_X8_numberOf rfl rfl rfl (by decide +kernel) ⟨Nat.le_of_ble_eq_true rfl, Nat.le_of_ble_eq_true rfl⟩) 0 rfl rfl rfl rfl rfl (Nat.le_of_ble_eq_true rfl) ⟨Nat.zero_le _, Nat.zero_le _⟩ (fun o6 h => ?_)
          refine kj_istore F dX8_way_67 (lv' := [(5, .int (o6.1)), (4, .int (o5.1)), (0, .ref h0), (1, .int x1), (2, .int x2), (3, .int x3)]) (by decide) rfl ?_
          refine kj_aload_n F dX8_way_69 2 rfl rfl ?_
          refine km_get F dX8_way_70 in_X8_way 0 (by decide) (by decide +kernel) rfl rfl ?_
          refine kj_bipush F dX8_way_73 (v := 20) (by decide) ?_
          refine kj_iload_n F dX8_way_75 3 rfl rfl ?_
          refine kj_imul F dX8_way_76 ?_
          refine kj_iconst F dX8_way_77 (v := 1) (by decide) ?_
          refine kj_iadd F dX8_way_78 ?_
          refine km_iald F dX8_way_79 0 (by decide) h (fun v7 h => ?_)
          refine kj_istore F dX8_way_80 (lv' := [(6, .int v7), (5, .int (o6.1)), (4, .int (o5.1)), (0, .ref h0), (1, .int x1), (2, .int x2), (3, .int x3)]) (by decide) rfl ?_
          refine kj_aload_n F dX8_way_82 3 rfl rfl ?_
          refine km_get F dX8_way_83 in_X8_way 0 (by decide) (by decide +kernel) rfl rfl ?_
          refine kj_bipush F dX8_way_86 (v := 20) (by decide) ?_
          refine kj_iload_n F dX8_way_88 4 rfl rfl ?_
          refine kj_imul F dX8_way_89 ?_
          refine kj_iconst F dX8_way_90 (v := 2) (by decide) ?_
          refine kj_iadd F dX8_way_91 ?_
          refine km_iald F dX8_way_92 0 (by decide) h (fun v8 h => ?_)
          refine kj_istore F dX8_way_93 (lv' := [(7, .int v8), (6, .int v7), (5, .int (o6.1)), (4, .int (o5.1)), (0, .ref h0), (1, .int x1), (2, .int x2), (3, .int x3)]) (by decide) rfl ?_
          refine kj_aload_n F dX8_way_95 4 rfl rfl ?_
          refine km_get F dX8_way_96 in_X8_way 0 (by decide) (by decide +kernel) rfl rfl ?_
          refine kj_bipush F dX8_way_99 (v := 20) (by decide) ?_
          refine kj_iload_n F dX8_way_101 5 rfl rfl ?_
          refine kj_imul F dX8_way_102 ?_
          refine kj_iconst F dX8_way_103 (v := 3) (by decide) ?_
          refine kj_iadd F dX8_way_104 ?_
          refine km_iald F dX8_way_105 0 (by decide) h (fun v9 h => ?_)
          refine kj_istore F dX8_way_106 (lv' := [(8, .int v9), (7, .int v8), (6, .int v7), (5, .int (o6.1)), (4, .int (o5.1)), (0, .ref h0), (1, .int x1), (2, .int x2), (3, .int x3)]) (by decide) rfl ?_
          refine kj_aload_n F dX8_way_108 5 rfl rfl ?_
          refine kj_iload F dX8_way_109 2 rfl ?_
          refine kj_iload F dX8_way_111 1 rfl ?_
          refine kj_iload F dX8_way_113 0 rfl ?_
          refine kj_cVi (As := [.int v7, .int v8, .int v9]) (rest := []) F dX8_way_115 h (fun o h1 => cm_lays h1) (cwV 3 F.2.2.2.2.1 gX8_way_X8_lays rfl rfl rfl (by decide +kernel) ⟨Nat.le_of_ble_eq_true rfl, Nat.le_of_ble_eq_true rfl⟩) 0 rfl rfl rfl rfl rfl (Nat.le_of_ble_eq_true rfl) ⟨Nat.zero_le _, Nat.zero_le _⟩ (fun o10 h => ?_)
          refine kj_istore F dX8_way_118 (lv' := [(9, .int (o10.1)), (8, .int v9), (7, .int v8), (6, .int v7), (5, .int (o6.1)), (4, .int (o5.1)), (0, .ref h0), (1, .int x1), (2, .int x2), (3, .int x3)]) (by decide) rfl ?_
          refine kj_iload F dX8_way_120 0 rfl ?_
          refine kj_sipush F dX8_way_122 (v := 200) (by decide) ?_
          refine kj_icmp_le F dX8_way_125 (tgt := 131) (by decide) h (fun hc h => ?_) (fun hc h => ?_)
          · refine kj_iconst F dX8_way_131 (v := 0) (by decide) ?_
            refine kj_istore F dX8_way_132 (lv' := [(10, .int (0 : Int32)), (9, .int (o10.1)), (8, .int v9), (7, .int v8), (6, .int v7), (5, .int (o6.1)), (4, .int (o5.1)), (0, .ref h0), (1, .int x1), (2, .int x2), (3, .int x3)]) (by decide) rfl ?_
            refine kj_J.sub [7, 10, 6, 5, 4, 3, 2, 1, 0] rfl ?_
            refine kj_bn h (fun r11 h1 h => ?_)
            refine jlm_way_134 F h1 ?_
            refine kj_aload_n F dX8_way_178 0 rfl rfl ?_
            refine kj_iload F dX8_way_179 4 rfl ?_
            refine kj_iload F dX8_way_181 2 rfl ?_
            refine kj_iload F dX8_way_183 3 rfl ?_
            refine kj_iload_n F dX8_way_185 1 rfl rfl ?_
            refine kj_cVi (As := [.int (r11.2.2.2.1), .int (r11.2.1), .int (r11.2.2.1), .int (r11.1)]) (rest := []) F dX8_way_186 h (fun o h1 => cm_wayFrom h1) (cwV 4 F.2.2.2.2.1 gX8_way_X8_wayFrom rfl rfl rfl (by decide +kernel) ⟨Nat.le_of_ble_eq_true rfl, Nat.le_of_ble_eq_true rfl⟩) 0 rfl rfl rfl rfl rfl (Nat.le_of_ble_eq_true rfl) ⟨Nat.zero_le _, Nat.zero_le _⟩ (fun o12 h => ?_)
            exact kj_iret F dX8_way_189 h
          · refine kj_ldc F dX8_way_128 (v := (-1000003)) (by decide +kernel) ?_
            exact kj_iret F dX8_way_130 h
theorem cm_way {l : Launch} {D : va_G} {cA : Nat → ClassId} {h0 : Nat} {q : Nat → Nat} {x1 : Int32} {x2 : Int32} {x3 : Int32} {z : km_S} {o : (Int32 × km_S)} (h : fm_way x1 x2 x3 z = some o) : kj_Mi l yX8_way wsX8_way rm_X8_way D (km_T cA) (km_w cA h0 q) z [.ref h0, .int x1, .int x2, .int x3] o :=
  fun sz => kj_start (by decide) rfl (Nat.le_of_ble_eq_true rfl) rfl fun p e s m args below meth c hsz F => jm_way F h
/-! X8_heapsMany -/
abbrev rm_X8_heapsMany : Room := { frames := 0, cells := 0, slots := 0, locals := 0 }
theorem in_X8_heapsMany : ∀ w ∈ u_ws RX8 TX8 29, w ∈ wsX8_heapsMany := by decide +kernel
def fm_heapsMany (z : km_S) : Option (Int32 × km_S) :=
  (km_rd z 0 (0 : Int32)).bind fun v1 =>
  (km_rd z 0 (20 : Int32)).bind fun v2 =>
  (km_rd z 0 (40 : Int32)).bind fun v3 =>
  (km_rd z 0 (60 : Int32)).bind fun v4 =>
  some ((((v1 + v2) + v3) + v4), z)
set_option maxRecDepth 20000 in
theorem jm_heapsMany {p : Program} {l : Launch} {e : Env} {s : State} {m : MethodId} {args : Array Value} {below : List Frame} {meth : Method} {c : Code} {A : Nat → Prop} {D : va_G} {cA : Nat → ClassId} {h0 : Nat} {q : Nat → Nat} (F : kj_Fx p s m args meth c cX8_heapsMany 1 wsX8_heapsMany RX8 (some .int) D (km_T cA) A) {z : km_S} {o : (Int32 × km_S)} (h : fm_heapsMany z = some o) : kj_J p l e rm_X8_heapsMany s m args below meth c 0 0 (MQ below (kj_Qi D (km_T cA) A (km_w cA h0 q) o) args s 0 0 A) 1 D A ((km_w cA h0 q) z) 0 [(0, .ref h0)] [] := by
  unfold fm_heapsMany at h
  refine kj_aload_n F dX8_heapsMany_0 0 rfl rfl ?_
  refine km_get F dX8_heapsMany_1 in_X8_heapsMany 0 (by decide) (by decide +kernel) rfl rfl ?_
  refine kj_iconst F dX8_heapsMany_4 (v := 0) (by decide) ?_
  refine km_iald F dX8_heapsMany_5 0 (by decide) h (fun v1 h => ?_)
  refine kj_aload_n F dX8_heapsMany_6 0 rfl rfl ?_
  refine km_get F dX8_heapsMany_7 in_X8_heapsMany 0 (by decide) (by decide +kernel) rfl rfl ?_
  refine kj_bipush F dX8_heapsMany_10 (v := 20) (by decide) ?_
  refine km_iald F dX8_heapsMany_12 0 (by decide) h (fun v2 h => ?_)
  refine kj_iadd F dX8_heapsMany_13 ?_
  refine kj_aload_n F dX8_heapsMany_14 0 rfl rfl ?_
  refine km_get F dX8_heapsMany_15 in_X8_heapsMany 0 (by decide) (by decide +kernel) rfl rfl ?_
  refine kj_bipush F dX8_heapsMany_18 (v := 40) (by decide) ?_
  refine km_iald F dX8_heapsMany_20 0 (by decide) h (fun v3 h => ?_)
  refine kj_iadd F dX8_heapsMany_21 ?_
  refine kj_aload_n F dX8_heapsMany_22 0 rfl rfl ?_
  refine km_get F dX8_heapsMany_23 in_X8_heapsMany 0 (by decide) (by decide +kernel) rfl rfl ?_
  refine kj_bipush F dX8_heapsMany_26 (v := 60) (by decide) ?_
  refine km_iald F dX8_heapsMany_28 0 (by decide) h (fun v4 h => ?_)
  refine kj_iadd F dX8_heapsMany_29 ?_
  exact kj_iret F dX8_heapsMany_30 h
theorem cm_heapsMany {l : Launch} {D : va_G} {cA : Nat → ClassId} {h0 : Nat} {q : Nat → Nat} {z : km_S} {o : (Int32 × km_S)} (h : fm_heapsMany z = some o) : kj_Mi l yX8_heapsMany wsX8_heapsMany rm_X8_heapsMany D (km_T cA) (km_w cA h0 q) z [.ref h0] o :=
  fun sz => kj_start (by decide) rfl (Nat.le_of_ble_eq_true rfl) rfl fun p e s m args below meth c hsz F => jm_heapsMany F h
/-! X8_image -/
abbrev rm_X8_image : Room := { frames := 1, cells := 0, slots := 0, locals := 25 }
theorem in_X8_image : ∀ w ∈ u_ws RX8 TX8 29, w ∈ wsX8_image := by decide +kernel
def fm_image (x1 : Int32) (z : km_S) : Option (Int32 × km_S) :=
  (fm_in x1 (0 : Int32) (1 : Int32)).bind fun o1 =>
  if o1 = 0 then
  some (((-1000001) : Int32), z)
  else
  (km_wz z 18 x1 (1 : Int32)).bind fun z2 =>
  (fm_bring 0 2 (0 : Int32) ((80 : Int32) * x1) (80 : Int32) z2).bind fun o3 =>
  (fm_heapsMany o3).bind fun o4 =>
  some ((o4.1), (o4.2))
set_option maxRecDepth 20000 in
theorem jm_image {p : Program} {l : Launch} {e : Env} {s : State} {m : MethodId} {args : Array Value} {below : List Frame} {meth : Method} {c : Code} {A : Nat → Prop} {D : va_G} {cA : Nat → ClassId} {h0 : Nat} {q : Nat → Nat} (F : kj_Fx p s m args meth c cX8_image 2 wsX8_image RX8 (some .int) D (km_T cA) A) {x1 : Int32} {z : km_S} {o : (Int32 × km_S)} (h : fm_image x1 z = some o) : kj_J p l e rm_X8_image s m args below meth c 0 0 (MQ below (kj_Qi D (km_T cA) A (km_w cA h0 q) o) args s 0 0 A) 2 D A ((km_w cA h0 q) z) 0 [(0, .ref h0), (1, .int x1)] [] := by
  unfold fm_image at h
  refine kj_iload_n F dX8_image_0 1 rfl rfl ?_
  refine kj_iconst F dX8_image_1 (v := 0) (by decide) ?_
  refine kj_iconst F dX8_image_2 (v := 1) (by decide) ?_
  refine kj_cSip (As := [.int x1, .int (0 : Int32), .int (1 : Int32)]) (rest := []) F dX8_image_3 h (fun o h1 => cm_in (w := (km_w cA h0 q)) h1) (va_cwS 3 F.2.2.2.2.1 gX8_image_X8_in rfl rfl rfl (by decide +kernel) ⟨Nat.le_of_ble_eq_true rfl, Nat.le_of_ble_eq_true rfl⟩) rfl rfl (Nat.le_of_ble_eq_true rfl) ⟨Nat.zero_le _, Nat.zero_le _⟩ (fun o1 h => ?_)
  refine kj_if_ne F dX8_image_6 (tgt := 12) (by decide) h (fun hc h => ?_) (fun hc h => ?_)
  · refine kj_ldc F dX8_image_9 (v := (-1000001)) (by decide +kernel) ?_
    exact kj_iret F dX8_image_11 h
  · refine kj_aload_n F dX8_image_12 0 rfl rfl ?_
    refine km_get F dX8_image_13 in_X8_image 4 (by decide) (by decide +kernel) rfl rfl ?_
    refine kj_iload_n F dX8_image_16 1 rfl rfl ?_
    refine kj_iconst F dX8_image_17 (v := 1) (by decide) ?_
    refine km_zast F dX8_image_18 18 (by decide) rfl h (fun z2 h => ?_)
    refine kj_aload_n F dX8_image_19 0 rfl rfl ?_
    refine km_get F dX8_image_20 in_X8_image 0 (by decide) (by decide +kernel) rfl rfl ?_
    refine kj_iconst F dX8_image_23 (v := 0) (by decide) ?_
    refine kj_aload_n F dX8_image_24 0 rfl rfl ?_
    refine km_get F dX8_image_25 in_X8_image 3 (by decide) (by decide +kernel) rfl rfl ?_
    refine kj_bipush F dX8_image_28 (v := 80) (by decide) ?_
    refine kj_iload_n F dX8_image_30 1 rfl rfl ?_
    refine kj_imul F dX8_image_31 ?_
    refine kj_bipush F dX8_image_32 (v := 80) (by decide) ?_
    refine kj_cSv (As := [.ref (q 0), .int (0 : Int32), .ref (q 2), .int ((80 : Int32) * x1), .int (80 : Int32)]) (rest := []) F dX8_image_34 h (fun o h1 => cm_bring (by decide) (by decide) h1) (va_cwS 5 F.2.2.2.2.1 gX8_image_X8_bring rfl rfl rfl (by decide +kernel) ⟨Nat.le_of_ble_eq_true rfl, Nat.le_of_ble_eq_true rfl⟩) rfl rfl (Nat.le_of_ble_eq_true rfl) ⟨Nat.zero_le _, Nat.zero_le _⟩ (fun o3 h => ?_)
    refine kj_aload_n F dX8_image_37 0 rfl rfl ?_
    refine kj_cVi (As := []) (rest := []) F dX8_image_38 h (fun o h1 => cm_heapsMany h1) (cwV 0 F.2.2.2.2.1 gX8_image_X8_heapsMany rfl rfl rfl (by decide +kernel) ⟨Nat.le_of_ble_eq_true rfl, Nat.le_of_ble_eq_true rfl⟩) 0 rfl rfl rfl rfl rfl (Nat.le_of_ble_eq_true rfl) ⟨Nat.zero_le _, Nat.zero_le _⟩ (fun o4 h => ?_)
    exact kj_iret F dX8_image_41 h
theorem cm_image {l : Launch} {D : va_G} {cA : Nat → ClassId} {h0 : Nat} {q : Nat → Nat} {x1 : Int32} {z : km_S} {o : (Int32 × km_S)} (h : fm_image x1 z = some o) : kj_Mi l yX8_image wsX8_image rm_X8_image D (km_T cA) (km_w cA h0 q) z [.ref h0, .int x1] o :=
  fun sz => kj_start (by decide) rfl (Nat.le_of_ble_eq_true rfl) rfl fun p e s m args below meth c hsz F => jm_image F h
/-! X8_restore -/
abbrev rm_X8_restore : Room := { frames := 1, cells := 0, slots := 0, locals := 25 }
theorem in_X8_restore : ∀ w ∈ u_ws RX8 TX8 29, w ∈ wsX8_restore := by decide +kernel
def fm_restore (x1 : Int32) (z : km_S) : Option (Int32 × km_S) :=
  (fm_in x1 (0 : Int32) (1 : Int32)).bind fun o1 =>
  if o1 = 0 then
  some (((-1000001) : Int32), z)
  else
  (km_rd z 18 x1).bind fun v2 =>
  if v2 = 0 then
  some (((-1000002) : Int32), z)
  else
  (fm_bring 2 0 ((80 : Int32) * x1) (0 : Int32) (80 : Int32) z).bind fun o3 =>
  (km_pI o3 0 (0 : Int32)).bind fun z4 =>
  (fm_heapsMany z4).bind fun o5 =>
  some ((o5.1), (o5.2))
set_option maxRecDepth 20000 in
theorem jm_restore {p : Program} {l : Launch} {e : Env} {s : State} {m : MethodId} {args : Array Value} {below : List Frame} {meth : Method} {c : Code} {A : Nat → Prop} {D : va_G} {cA : Nat → ClassId} {h0 : Nat} {q : Nat → Nat} (F : kj_Fx p s m args meth c cX8_restore 2 wsX8_restore RX8 (some .int) D (km_T cA) A) {x1 : Int32} {z : km_S} {o : (Int32 × km_S)} (h : fm_restore x1 z = some o) : kj_J p l e rm_X8_restore s m args below meth c 0 0 (MQ below (kj_Qi D (km_T cA) A (km_w cA h0 q) o) args s 0 0 A) 2 D A ((km_w cA h0 q) z) 0 [(0, .ref h0), (1, .int x1)] [] := by
  unfold fm_restore at h
  refine kj_iload_n F dX8_restore_0 1 rfl rfl ?_
  refine kj_iconst F dX8_restore_1 (v := 0) (by decide) ?_
  refine kj_iconst F dX8_restore_2 (v := 1) (by decide) ?_
  refine kj_cSip (As := [.int x1, .int (0 : Int32), .int (1 : Int32)]) (rest := []) F dX8_restore_3 h (fun o h1 => cm_in (w := (km_w cA h0 q)) h1) (va_cwS 3 F.2.2.2.2.1 gX8_restore_X8_in rfl rfl rfl (by decide +kernel) ⟨Nat.le_of_ble_eq_true rfl, Nat.le_of_ble_eq_true rfl⟩) rfl rfl (Nat.le_of_ble_eq_true rfl) ⟨Nat.zero_le _, Nat.zero_le _⟩ (fun o1 h => ?_)
  refine kj_if_ne F dX8_restore_6 (tgt := 12) (by decide) h (fun hc h => ?_) (fun hc h => ?_)
  · refine kj_ldc F dX8_restore_9 (v := (-1000001)) (by decide +kernel) ?_
    exact kj_iret F dX8_restore_11 h
  · refine kj_aload_n F dX8_restore_12 0 rfl rfl ?_
    refine km_get F dX8_restore_13 in_X8_restore 4 (by decide) (by decide +kernel) rfl rfl ?_
    refine kj_iload_n F dX8_restore_16 1 rfl rfl ?_
    refine km_zald F dX8_restore_17 18 (by decide) rfl h (fun v2 h => ?_)
    refine kj_if_ne F dX8_restore_18 (tgt := 24) (by decide) h (fun hc h => ?_) (fun hc h => ?_)
    · refine kj_ldc F dX8_restore_21 (v := (-1000002)) (by decide +kernel) ?_
      exact kj_iret F dX8_restore_23 h
    · refine kj_aload_n F dX8_restore_24 0 rfl rfl ?_
      refine km_get F dX8_restore_25 in_X8_restore 3 (by decide) (by decide +kernel) rfl rfl ?_
      refine kj_bipush F dX8_restore_28 (v := 80) (by decide) ?_
      refine kj_iload_n F dX8_restore_30 1 rfl rfl ?_
      refine kj_imul F dX8_restore_31 ?_
      refine kj_aload_n F dX8_restore_32 0 rfl rfl ?_
      refine km_get F dX8_restore_33 in_X8_restore 0 (by decide) (by decide +kernel) rfl rfl ?_
      refine kj_iconst F dX8_restore_36 (v := 0) (by decide) ?_
      refine kj_bipush F dX8_restore_37 (v := 80) (by decide) ?_
      refine kj_cSv (As := [.ref (q 2), .int ((80 : Int32) * x1), .ref (q 0), .int (0 : Int32), .int (80 : Int32)]) (rest := []) F dX8_restore_39 h (fun o h1 => cm_bring (by decide) (by decide) h1) (va_cwS 5 F.2.2.2.2.1 gX8_restore_X8_bring rfl rfl rfl (by decide +kernel) ⟨Nat.le_of_ble_eq_true rfl, Nat.le_of_ble_eq_true rfl⟩) rfl rfl (Nat.le_of_ble_eq_true rfl) ⟨Nat.zero_le _, Nat.zero_le _⟩ (fun o3 h => ?_)
      refine kj_aload_n F dX8_restore_42 0 rfl rfl ?_
      refine kj_iconst F dX8_restore_43 (v := 0) (by decide) ?_
      refine km_pt F dX8_restore_44 in_X8_restore 2 0 (by decide) (by decide +kernel) rfl rfl (by decide +kernel) (km_put0 cA h0 q _ _) h (fun z4 h => ?_)
      refine kj_aload_n F dX8_restore_47 0 rfl rfl ?_
      refine kj_cVi (As := []) (rest := []) F dX8_restore_48 h (fun o h1 => cm_heapsMany h1) (cwV 0 F.2.2.2.2.1 gX8_restore_X8_heapsMany rfl rfl rfl (by decide +kernel) ⟨Nat.le_of_ble_eq_true rfl, Nat.le_of_ble_eq_true rfl⟩) 0 rfl rfl rfl rfl rfl (Nat.le_of_ble_eq_true rfl) ⟨Nat.zero_le _, Nat.zero_le _⟩ (fun o5 h => ?_)
      exact kj_iret F dX8_restore_51 h
theorem cm_restore {l : Launch} {D : va_G} {cA : Nat → ClassId} {h0 : Nat} {q : Nat → Nat} {x1 : Int32} {z : km_S} {o : (Int32 × km_S)} (h : fm_restore x1 z = some o) : kj_Mi l yX8_restore wsX8_restore rm_X8_restore D (km_T cA) (km_w cA h0 q) z [.ref h0, .int x1] o :=
  fun sz => kj_start (by decide) rfl (Nat.le_of_ble_eq_true rfl) rfl fun p e s m args below meth c hsz F => jm_restore F h
/-! X8_count -/
abbrev rm_X8_count : Room := { frames := 1, cells := 0, slots := 0, locals := 23 }
theorem in_X8_count : ∀ w ∈ u_ws RX8 TX8 29, w ∈ wsX8_count := by decide +kernel
def fm_count (x1 : Int32) (z : km_S) : Option (Int32 × km_S) :=
  if x1 = 0 then
  (fm_heapsMany z).bind fun o1 =>
  some ((o1.1), (o1.2))
  else
  if x1 = 1 then
  (fm_volume 0 (0 : Int32) z).bind fun o2 =>
  (fm_volume 0 (20 : Int32) (o2.2)).bind fun o3 =>
  (fm_volume 0 (40 : Int32) (o3.2)).bind fun o4 =>
  (fm_volume 0 (60 : Int32) (o4.2)).bind fun o5 =>
  some (((((o2.1) + (o3.1)) + (o4.1)) + (o5.1)), (o5.2))
  else
  if x1 = 2 then
  some ((z.1 0), z)
  else
  if x1 = 3 then
  some ((z.1 1), z)
  else
  some (((-1000001) : Int32), z)
set_option maxRecDepth 20000 in
theorem jm_count {p : Program} {l : Launch} {e : Env} {s : State} {m : MethodId} {args : Array Value} {below : List Frame} {meth : Method} {c : Code} {A : Nat → Prop} {D : va_G} {cA : Nat → ClassId} {h0 : Nat} {q : Nat → Nat} (F : kj_Fx p s m args meth c cX8_count 2 wsX8_count RX8 (some .int) D (km_T cA) A) {x1 : Int32} {z : km_S} {o : (Int32 × km_S)} (h : fm_count x1 z = some o) : kj_J p l e rm_X8_count s m args below meth c 0 0 (MQ below (kj_Qi D (km_T cA) A (km_w cA h0 q) o) args s 0 0 A) 2 D A ((km_w cA h0 q) z) 0 [(0, .ref h0), (1, .int x1)] [] := by
  unfold fm_count at h
  refine kj_iload_n F dX8_count_0 1 rfl rfl ?_
  refine kj_if h (fun hc h => ?_) (fun hn1_0 h => ?_)
  · refine kj_tableIn F dX8_count_1 (off := 31) (tgt := 32) (by rw [hc]; decide) (by rw [hc]; decide) (by rw [hc]; rfl) (by decide) ?_
    refine kj_aload_n F dX8_count_32 0 rfl rfl ?_
    refine kj_cVi (As := []) (rest := []) F dX8_count_33 h (fun o h1 => cm_heapsMany h1) (cwV 0 F.2.2.2.2.1 gX8_count_X8_heapsMany rfl rfl rfl (by decide +kernel) ⟨Nat.le_of_ble_eq_true rfl, Nat.le_of_ble_eq_true rfl⟩) 0 rfl rfl rfl rfl rfl (Nat.le_of_ble_eq_true rfl) ⟨Nat.zero_le _, Nat.zero_le _⟩ (fun o1 h => ?_)
    exact kj_iret F dX8_count_36 h
  refine kj_if h (fun hc h => ?_) (fun hn1_1 h => ?_)
  · refine kj_tableIn F dX8_count_1 (off := 36) (tgt := 37) (by rw [hc]; decide) (by rw [hc]; decide) (by rw [hc]; rfl) (by decide) ?_
    refine kj_aload_n F dX8_count_37 0 rfl rfl ?_
    refine km_get F dX8_count_38 in_X8_count 0 (by decide) (by decide +kernel) rfl rfl ?_
    refine kj_iconst F dX8_count_41 (v := 0) (by decide) ?_
    refine kj_cSi (As := [.ref (q 0), .int (0 : Int32)]) (rest := []) F dX8_count_42 h (fun o h1 => cm_volume (by decide) h1) (va_cwS 2 F.2.2.2.2.1 gX8_count_X8_volume rfl rfl rfl (by decide +kernel) ⟨Nat.le_of_ble_eq_true rfl, Nat.le_of_ble_eq_true rfl⟩) rfl rfl (Nat.le_of_ble_eq_true rfl) ⟨Nat.zero_le _, Nat.zero_le _⟩ (fun o2 h => ?_)
    refine kj_aload_n F dX8_count_45 0 rfl rfl ?_
    refine km_get F dX8_count_46 in_X8_count 0 (by decide) (by decide +kernel) rfl rfl ?_
    refine kj_bipush F dX8_count_49 (v := 20) (by decide) ?_
    refine kj_cSi (As := [.ref (q 0), .int (20 : Int32)]) (rest := [.int (o2.1)]) F dX8_count_51 h (fun o h1 => cm_volume (by decide) h1) (va_cwS 2 F.2.2.2.2.1 gX8_count_X8_volume rfl rfl rfl (by decide +kernel) ⟨Nat.le_of_ble_eq_true rfl, Nat.le_of_ble_eq_true rfl⟩) rfl rfl (Nat.le_of_ble_eq_true rfl) ⟨Nat.zero_le _, Nat.zero_le _⟩ (fun o3 h => ?_)
    refine kj_iadd F dX8_count_54 ?_
    refine kj_aload_n F dX8_count_55 0 rfl rfl ?_
    refine km_get F dX8_count_56 in_X8_count 0 (by decide) (by decide +kernel) rfl rfl ?_
    refine kj_bipush F dX8_count_59 (v := 40) (by decide) ?_
    refine kj_cSi (As := [.ref (q 0), .int (40 : Int32)]) (rest := [.int ((o2.1) + (o3.1))]) F dX8_count_61 h (fun o h1 => cm_volume (by decide) h1) (va_cwS 2 F.2.2.2.2.1 gX8_count_X8_volume rfl rfl rfl (by decide +kernel) ⟨Nat.le_of_ble_eq_true rfl, Nat.le_of_ble_eq_true rfl⟩) rfl rfl (Nat.le_of_ble_eq_true rfl) ⟨Nat.zero_le _, Nat.zero_le _⟩ (fun o4 h => ?_)
    refine kj_iadd F dX8_count_64 ?_
    refine kj_aload_n F dX8_count_65 0 rfl rfl ?_
    refine km_get F dX8_count_66 in_X8_count 0 (by decide) (by decide +kernel) rfl rfl ?_
    refine kj_bipush F dX8_count_69 (v := 60) (by decide) ?_
    refine kj_cSi (As := [.ref (q 0), .int (60 : Int32)]) (rest := [.int (((o2.1) + (o3.1)) + (o4.1))]) F dX8_count_71 h (fun o h1 => cm_volume (by decide) h1) (va_cwS 2 F.2.2.2.2.1 gX8_count_X8_volume rfl rfl rfl (by decide +kernel) ⟨Nat.le_of_ble_eq_true rfl, Nat.le_of_ble_eq_true rfl⟩) rfl rfl (Nat.le_of_ble_eq_true rfl) ⟨Nat.zero_le _, Nat.zero_le _⟩ (fun o5 h => ?_)
    refine kj_iadd F dX8_count_74 ?_
    exact kj_iret F dX8_count_75 h
  refine kj_if h (fun hc h => ?_) (fun hn1_2 h => ?_)
  · refine kj_tableIn F dX8_count_1 (off := 75) (tgt := 76) (by rw [hc]; decide) (by rw [hc]; decide) (by rw [hc]; rfl) (by decide) ?_
    refine kj_aload_n F dX8_count_76 0 rfl rfl ?_
    refine km_get F dX8_count_77 in_X8_count 2 (by decide) (by decide +kernel) rfl rfl ?_
    exact kj_iret F dX8_count_80 h
  refine kj_if h (fun hc h => ?_) (fun hn1_3 h => ?_)
  · refine kj_tableIn F dX8_count_1 (off := 80) (tgt := 81) (by rw [hc]; decide) (by rw [hc]; decide) (by rw [hc]; rfl) (by decide) ?_
    refine kj_aload_n F dX8_count_81 0 rfl rfl ?_
    refine km_get F dX8_count_82 in_X8_count 6 (by decide) (by decide +kernel) rfl rfl ?_
    exact kj_iret F dX8_count_85 h
  refine kj_tableOut F dX8_count_1 (tgt := 86) (by have e0 : Int32.toInt x1 ≠ 0 := fun q => hn1_0 (Int32.toInt_inj.mp (q.trans (by decide))); have e1 : Int32.toInt x1 ≠ 1 := fun q => hn1_1 (Int32.toInt_inj.mp (q.trans (by decide))); have e2 : Int32.toInt x1 ≠ 2 := fun q => hn1_2 (Int32.toInt_inj.mp (q.trans (by decide))); have e3 : Int32.toInt x1 ≠ 3 := fun q => hn1_3 (Int32.toInt_inj.mp (q.trans (by decide))); omega) (by decide) ?_
  refine kj_ldc F dX8_count_86 (v := (-1000001)) (by decide +kernel) ?_
  exact kj_iret F dX8_count_88 h
theorem cm_count {l : Launch} {D : va_G} {cA : Nat → ClassId} {h0 : Nat} {q : Nat → Nat} {x1 : Int32} {z : km_S} {o : (Int32 × km_S)} (h : fm_count x1 z = some o) : kj_Mi l yX8_count wsX8_count rm_X8_count D (km_T cA) (km_w cA h0 q) z [.ref h0, .int x1] o :=
  fun sz => kj_start (by decide) rfl (Nat.le_of_ble_eq_true rfl) rfl fun p e s m args below meth c hsz F => jm_count F h
