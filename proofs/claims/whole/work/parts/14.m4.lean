/-! X8_determinant -/
abbrev rm_X8_determinant : Room := { frames := 1, cells := 0, slots := 0, locals := 24 }
def fm_determinant_9 (x1 : Int32) (x2 : Int32) (x3 : Int32) (x4 : Int64) (x6 : Int32) (x7 : Int32) (z : km_S) : Option ((Int32 × Int32 × Int32 × Int64 × Int32 × Int32 × km_S) ⊕ (Int32 × Int32 × Int32 × Int64 × Int32 × km_S)) :=
  if x3 ≤ x7 then
  some (.inr (x1, x2, x3, x4, x6, z))
  else
  some (.inl (x1, x2, x3, x4, (x6 * x3), (x7 + 1), z))
def lm_determinant_9 (n : Nat) (x1 : Int32) (x2 : Int32) (x3 : Int32) (x4 : Int64) (x6 : Int32) (x7 : Int32) (z : km_S) : Option (Int32 × Int32 × Int32 × Int64 × Int32 × km_S) :=
  kj_it (fun (s : (Int32 × Int32 × Int32 × Int64 × Int32 × Int32 × km_S)) => fm_determinant_9 (s.1) (s.2.1) (s.2.2.1) (s.2.2.2.1) (s.2.2.2.2.1) (s.2.2.2.2.2.1) (s.2.2.2.2.2.2)) n (x1, x2, x3, x4, x6, x7, z)
def fm_determinant_99 (x1 : Int32) (x2 : Int32) (x3 : Int32) (x4 : Int64) (x6 : Int32) (x7 : Int32) (x8 : Int32) (x9 : Int32) (x12 : Int32) (x13 : Int32) (x14 : Int32) (t0 : Int64) (z : km_S) : Option ((Int32 × Int32 × Int32 × Int64 × Int32 × Int32 × Int32 × Int32 × Int64 × Int32 × Int32 × Int32 × km_S) ⊕ (Int32 × Int32 × Int32 × Int64 × Int32 × Int32 × Int32 × Int32 × Int64 × Int32 × Int32 × km_S)) :=
  some (.inl (x1, x2, x3, x4, x6, x7, x8, x9, t0, x12, x13, (x14 + 1), z))
def fm_determinant_74 (x1 : Int32) (x2 : Int32) (x3 : Int32) (x4 : Int64) (x6 : Int32) (x7 : Int32) (x8 : Int32) (x9 : Int32) (x10 : Int64) (x12 : Int32) (x13 : Int32) (x14 : Int32) (z : km_S) : Option ((Int32 × Int32 × Int32 × Int64 × Int32 × Int32 × Int32 × Int32 × Int64 × Int32 × Int32 × Int32 × km_S) ⊕ (Int32 × Int32 × Int32 × Int64 × Int32 × Int32 × Int32 × Int32 × Int64 × Int32 × Int32 × km_S)) :=
  if x3 ≤ x14 then
  some (.inr (x1, x2, x3, x4, x6, x7, x8, x9, x10, x12, x13, z))
  else
  if ((x9 >>> (x14 &&& 31)) &&& (1 : Int32)) = (1 : Int32) then
  fm_determinant_99 x1 x2 x3 x4 x6 x7 x8 x9 x12 x13 x14 (-x10) z
  else
  fm_determinant_99 x1 x2 x3 x4 x6 x7 x8 x9 x12 x13 x14 x10 z
def lm_determinant_74 (n : Nat) (x1 : Int32) (x2 : Int32) (x3 : Int32) (x4 : Int64) (x6 : Int32) (x7 : Int32) (x8 : Int32) (x9 : Int32) (x10 : Int64) (x12 : Int32) (x13 : Int32) (x14 : Int32) (z : km_S) : Option (Int32 × Int32 × Int32 × Int64 × Int32 × Int32 × Int32 × Int32 × Int64 × Int32 × Int32 × km_S) :=
  kj_it (fun (s : (Int32 × Int32 × Int32 × Int64 × Int32 × Int32 × Int32 × Int32 × Int64 × Int32 × Int32 × Int32 × km_S)) => fm_determinant_74 (s.1) (s.2.1) (s.2.2.1) (s.2.2.2.1) (s.2.2.2.2.1) (s.2.2.2.2.2.1) (s.2.2.2.2.2.2.1) (s.2.2.2.2.2.2.2.1) (s.2.2.2.2.2.2.2.2.1) (s.2.2.2.2.2.2.2.2.2.1) (s.2.2.2.2.2.2.2.2.2.2.1) (s.2.2.2.2.2.2.2.2.2.2.2.1) (s.2.2.2.2.2.2.2.2.2.2.2.2)) n (x1, x2, x3, x4, x6, x7, x8, x9, x10, x12, x13, x14, z)
def fm_determinant_138 (x1 : Int32) (x2 : Int32) (x3 : Int32) (x4 : Int64) (x6 : Int32) (x7 : Int32) (x8 : Int32) (x9 : Int32) (x12 : Int32) (x13 : Int32) (t0 : Int64) (z : km_S) : Option ((Int32 × Int32 × Int32 × Int64 × Int32 × Int32 × Int32 × Int32 × Int64 × Int32 × km_S) ⊕ (Int32 × Int32 × Int32 × Int64 × Int32 × Int32 × Int64 × km_S)) :=
  some (.inl (x1, x2, x3, x4, x6, x7, x8, (x9 ||| ((1 : Int32) <<< (x13 &&& 31))), t0, (x12 + 1), z))
def fm_determinant_50 (x1 : Int32) (x2 : Int32) (x3 : Int32) (x4 : Int64) (x6 : Int32) (x7 : Int32) (x8 : Int32) (x9 : Int32) (x10 : Int64) (x12 : Int32) (z : km_S) : Option ((Int32 × Int32 × Int32 × Int64 × Int32 × Int32 × Int32 × Int32 × Int64 × Int32 × km_S) ⊕ (Int32 × Int32 × Int32 × Int64 × Int32 × Int32 × Int64 × km_S)) :=
  if x3 ≤ x12 then
  some (.inr (x1, x2, x3, x4, x6, x7, x10, z))
  else
  if x3 = 0 then none else
  if x3 = 0 then none else
  (lm_determinant_74 5000 x1 x2 x3 x4 x6 x7 (x8 / x3) x9 x10 x12 (x8 - x8 / x3 * x3) ((x8 - x8 / x3 * x3) + (1 : Int32)) z).bind fun r1 =>
  if (((r1.2.2.2.2.2.2.2.1) >>> ((r1.2.2.2.2.2.2.2.2.2.2.1) &&& 31)) &&& (1 : Int32)) = (1 : Int32) then
  fm_determinant_138 (r1.1) (r1.2.1) (r1.2.2.1) (r1.2.2.2.1) (r1.2.2.2.2.1) (r1.2.2.2.2.2.1) (r1.2.2.2.2.2.2.1) (r1.2.2.2.2.2.2.2.1) (r1.2.2.2.2.2.2.2.2.2.1) (r1.2.2.2.2.2.2.2.2.2.2.1) (0 : Int64) (r1.2.2.2.2.2.2.2.2.2.2.2)
  else
  (fm_chosen ((r1.1) + (r1.2.1)) (((r1.2.1) + (r1.2.2.2.2.2.2.2.2.2.2.1)) - (r1.2.2.2.2.2.2.2.2.2.1))).bind fun o2 =>
  fm_determinant_138 (r1.1) (r1.2.1) (r1.2.2.1) (r1.2.2.2.1) (r1.2.2.2.2.1) (r1.2.2.2.2.2.1) (r1.2.2.2.2.2.2.1) (r1.2.2.2.2.2.2.2.1) (r1.2.2.2.2.2.2.2.2.2.1) (r1.2.2.2.2.2.2.2.2.2.2.1) ((r1.2.2.2.2.2.2.2.2.1) * o2) (r1.2.2.2.2.2.2.2.2.2.2.2)
def lm_determinant_50 (n : Nat) (x1 : Int32) (x2 : Int32) (x3 : Int32) (x4 : Int64) (x6 : Int32) (x7 : Int32) (x8 : Int32) (x9 : Int32) (x10 : Int64) (x12 : Int32) (z : km_S) : Option (Int32 × Int32 × Int32 × Int64 × Int32 × Int32 × Int64 × km_S) :=
  kj_it (fun (s : (Int32 × Int32 × Int32 × Int64 × Int32 × Int32 × Int32 × Int32 × Int64 × Int32 × km_S)) => fm_determinant_50 (s.1) (s.2.1) (s.2.2.1) (s.2.2.2.1) (s.2.2.2.2.1) (s.2.2.2.2.2.1) (s.2.2.2.2.2.2.1) (s.2.2.2.2.2.2.2.1) (s.2.2.2.2.2.2.2.2.1) (s.2.2.2.2.2.2.2.2.2.1) (s.2.2.2.2.2.2.2.2.2.2)) n (x1, x2, x3, x4, x6, x7, x8, x9, x10, x12, z)
def fm_determinant_30 (x1 : Int32) (x2 : Int32) (x3 : Int32) (x4 : Int64) (x6 : Int32) (x7 : Int32) (z : km_S) : Option ((Int32 × Int32 × Int32 × Int64 × Int32 × Int32 × km_S) ⊕ (Int64 × km_S)) :=
  if x6 ≤ x7 then
  some (.inr (x4, z))
  else
  (lm_determinant_50 5000 x1 x2 x3 x4 x6 x7 x7 (0 : Int32) (1 : Int64) (0 : Int32) z).bind fun r1 =>
  some (.inl ((r1.1), (r1.2.1), (r1.2.2.1), ((r1.2.2.2.1) + (r1.2.2.2.2.2.2.1)), (r1.2.2.2.2.1), ((r1.2.2.2.2.2.1) + 1), (r1.2.2.2.2.2.2.2)))
def lm_determinant_30 (n : Nat) (x1 : Int32) (x2 : Int32) (x3 : Int32) (x4 : Int64) (x6 : Int32) (x7 : Int32) (z : km_S) : Option (Int64 × km_S) :=
  kj_it (fun (s : (Int32 × Int32 × Int32 × Int64 × Int32 × Int32 × km_S)) => fm_determinant_30 (s.1) (s.2.1) (s.2.2.1) (s.2.2.2.1) (s.2.2.2.2.1) (s.2.2.2.2.2.1) (s.2.2.2.2.2.2)) n (x1, x2, x3, x4, x6, x7, z)
def fm_determinant (x1 : Int32) (x2 : Int32) (x3 : Int32) (z : km_S) : Option (Int64 × km_S) :=
  (lm_determinant_9 5000 x1 x2 x3 (0 : Int64) (1 : Int32) (0 : Int32) z).bind fun r1 =>
  (lm_determinant_30 5000 (r1.1) (r1.2.1) (r1.2.2.1) (r1.2.2.2.1) (r1.2.2.2.2.1) (0 : Int32) (r1.2.2.2.2.2)).bind fun r2 =>
  some ((r2.1), (r2.2))
set_option maxRecDepth 20000 in
theorem jm_determinant_9 {p : Program} {l : Launch} {e : Env} {s : State} {m : MethodId} {args : Array Value} {below : List Frame} {meth : Method} {c : Code} {A : Nat → Prop} {D : va_G} {cA : Nat → ClassId} {h0 : Nat} {q : Nat → Nat} {Q : State → Prop} (F : kj_Fx p s m args meth c cX8_determinant 15 wsX8_determinant RX8 (some .long) D (km_T cA) A) {x1 : Int32} {x2 : Int32} {x3 : Int32} {x4 : Int64} {x6 : Int32} {x7 : Int32} {z : km_S} {o : ((Int32 × Int32 × Int32 × Int64 × Int32 × Int32 × km_S) ⊕ (Int32 × Int32 × Int32 × Int64 × Int32 × km_S))} (h : fm_determinant_9 x1 x2 x3 x4 x6 x7 z = some o) (kb : ∀ (a0' : Int32) (a1' : Int32) (a2' : Int32) (a3' : Int64) (a4' : Int32) (a5' : Int32) (a6' : km_S), o = .inl (a0', a1', a2', a3', a4', a5', a6') → kj_J p l e rm_X8_determinant s m args below meth c 0 0 Q 15 D A ((km_w cA h0 q) a6') 9 [(1, .int a0'), (2, .int a1'), (3, .int a2'), (4, .long a3'), (6, .int a4'), (7, .int a5')] []) (ke0 : ∀ (a0' : Int32) (a1' : Int32) (a2' : Int32) (a3' : Int64) (a4' : Int32) (a5' : km_S), o = .inr (a0', a1', a2', a3', a4', a5') → kj_J p l e rm_X8_determinant s m args below meth c 0 0 Q 15 D A ((km_w cA h0 q) a5') 27 [(1, .int a0'), (2, .int a1'), (3, .int a2'), (4, .long a3'), (6, .int a4')] []) : kj_J p l e rm_X8_determinant s m args below meth c 0 0 Q 15 D A ((km_w cA h0 q) z) 9 [(1, .int x1), (2, .int x2), (3, .int x3), (4, .long x4), (6, .int x6), (7, .int x7)] [] := by
  unfold fm_determinant_9 at h
  refine kj_iload F dX8_determinant_9 5 rfl ?_
  refine kj_iload_n F dX8_determinant_11 2 rfl rfl ?_
  refine kj_icmp_ge F dX8_determinant_12 (tgt := 27) (by decide) h (fun hc h => ?_) (fun hc h => ?_)
  · refine kj_J.sub [0, 1, 2, 3, 4] rfl ?_
    exact ke0 x1 x2 x3 x4 x6 z (Option.some.inj h).symm
  · refine kj_iload F dX8_determinant_15 4 rfl ?_
    refine kj_iload_n F dX8_determinant_17 2 rfl rfl ?_
    refine kj_imul F dX8_determinant_18 ?_
    refine kj_istore F dX8_determinant_19 (lv' := [(6, .int (x6 * x3)), (1, .int x1), (2, .int x2), (3, .int x3), (4, .long x4), (7, .int x7)]) (by decide) rfl ?_
    refine kj_iinc F dX8_determinant_21 5 rfl (v := 1) (by decide) (by decide) (lv' := [(7, .int (x7 + 1)), (6, .int (x6 * x3)), (1, .int x1), (2, .int x2), (3, .int x3), (4, .long x4)]) rfl ?_
    refine kj_goto F dX8_determinant_24 (tgt := 9) (by decide) ?_
    refine kj_J.sub [2, 3, 4, 5, 1, 0] rfl ?_
    exact kb x1 x2 x3 x4 (x6 * x3) (x7 + 1) z (Option.some.inj h).symm
theorem jlm_determinant_9 {p : Program} {l : Launch} {e : Env} {s : State} {m : MethodId} {args : Array Value} {below : List Frame} {meth : Method} {c : Code} {A : Nat → Prop} {D : va_G} {cA : Nat → ClassId} {h0 : Nat} {q : Nat → Nat} {Q : State → Prop} (F : kj_Fx p s m args meth c cX8_determinant 15 wsX8_determinant RX8 (some .long) D (km_T cA) A) {n : Nat} {x1 : Int32} {x2 : Int32} {x3 : Int32} {x4 : Int64} {x6 : Int32} {x7 : Int32} {z : km_S} {r : (Int32 × Int32 × Int32 × Int64 × Int32 × km_S)} (h : lm_determinant_9 n x1 x2 x3 x4 x6 x7 z = some r) (ke : kj_J p l e rm_X8_determinant s m args below meth c 0 0 Q 15 D A ((km_w cA h0 q) (r.2.2.2.2.2)) 27 [(1, .int (r.1)), (2, .int (r.2.1)), (3, .int (r.2.2.1)), (4, .long (r.2.2.2.1)), (6, .int (r.2.2.2.2.1))] []) : kj_J p l e rm_X8_determinant s m args below meth c 0 0 Q 15 D A ((km_w cA h0 q) z) 9 [(1, .int x1), (2, .int x2), (3, .int x3), (4, .long x4), (6, .int x6), (7, .int x7)] [] :=
  kj_it_J (Wh := fun (u : (Int32 × Int32 × Int32 × Int64 × Int32 × Int32 × km_S)) => kj_J p l e rm_X8_determinant s m args below meth c 0 0 Q 15 D A ((km_w cA h0 q) (u.2.2.2.2.2.2)) 9 [(1, .int (u.1)), (2, .int (u.2.1)), (3, .int (u.2.2.1)), (4, .long (u.2.2.2.1)), (6, .int (u.2.2.2.2.1)), (7, .int (u.2.2.2.2.2.1))] []) (We := fun r => kj_J p l e rm_X8_determinant s m args below meth c 0 0 Q 15 D A ((km_w cA h0 q) (r.2.2.2.2.2)) 27 [(1, .int (r.1)), (2, .int (r.2.1)), (3, .int (r.2.2.1)), (4, .long (r.2.2.2.1)), (6, .int (r.2.2.2.2.1))] []) (fun u o h kb ke => jm_determinant_9 F h (fun a0' a1' a2' a3' a4' a5' a6' e => kb (a0', a1', a2', a3', a4', a5', a6') e) (fun a0' a1' a2' a3' a4' a5' e => ke (a0', a1', a2', a3', a4', a5') e)) n (x1, x2, x3, x4, x6, x7, z) r h ke
set_option maxRecDepth 20000 in
theorem jm_determinant_99 {p : Program} {l : Launch} {e : Env} {s : State} {m : MethodId} {args : Array Value} {below : List Frame} {meth : Method} {c : Code} {A : Nat → Prop} {D : va_G} {cA : Nat → ClassId} {h0 : Nat} {q : Nat → Nat} {Q : State → Prop} (F : kj_Fx p s m args meth c cX8_determinant 15 wsX8_determinant RX8 (some .long) D (km_T cA) A) {x1 : Int32} {x2 : Int32} {x3 : Int32} {x4 : Int64} {x6 : Int32} {x7 : Int32} {x8 : Int32} {x9 : Int32} {x12 : Int32} {x13 : Int32} {x14 : Int32} {t0 : Int64} {z : km_S} {o : ((Int32 × Int32 × Int32 × Int64 × Int32 × Int32 × Int32 × Int32 × Int64 × Int32 × Int32 × Int32 × km_S) ⊕ (Int32 × Int32 × Int32 × Int64 × Int32 × Int32 × Int32 × Int32 × Int64 × Int32 × Int32 × km_S))} (h : fm_determinant_99 x1 x2 x3 x4 x6 x7 x8 x9 x12 x13 x14 t0 z = some o) (kb : ∀ (a0' : Int32) (a1' : Int32) (a2' : Int32) (a3' : Int64) (a4' : Int32) (a5' : Int32) (a6' : Int32) (a7' : Int32) (a8' : Int64) (a9' : Int32) (a10' : Int32) (a11' : Int32) (a12' : km_S), o = .inl (a0', a1', a2', a3', a4', a5', a6', a7', a8', a9', a10', a11', a12') → kj_J p l e rm_X8_determinant s m args below meth c 0 0 Q 15 D A ((km_w cA h0 q) a12') 74 [(1, .int a0'), (2, .int a1'), (3, .int a2'), (4, .long a3'), (6, .int a4'), (7, .int a5'), (8, .int a6'), (9, .int a7'), (10, .long a8'), (12, .int a9'), (13, .int a10'), (14, .int a11')] []) (ke0 : ∀ (a0' : Int32) (a1' : Int32) (a2' : Int32) (a3' : Int64) (a4' : Int32) (a5' : Int32) (a6' : Int32) (a7' : Int32) (a8' : Int64) (a9' : Int32) (a10' : Int32) (a11' : km_S), o = .inr (a0', a1', a2', a3', a4', a5', a6', a7', a8', a9', a10', a11') → kj_J p l e rm_X8_determinant s m args below meth c 0 0 Q 15 D A ((km_w cA h0 q) a11') 107 [(1, .int a0'), (2, .int a1'), (3, .int a2'), (4, .long a3'), (6, .int a4'), (7, .int a5'), (8, .int a6'), (9, .int a7'), (10, .long a8'), (12, .int a9'), (13, .int a10')] []) : kj_J p l e rm_X8_determinant s m args below meth c 0 0 Q 15 D A ((km_w cA h0 q) z) 99 [(1, .int x1), (2, .int x2), (3, .int x3), (4, .long x4), (6, .int x6), (7, .int x7), (8, .int x8), (9, .int x9), (12, .int x12), (13, .int x13), (14, .int x14)] [.long t0] := by
  unfold fm_determinant_99 at h
  refine kj_lstore F dX8_determinant_99 (lv' := [(10, .long t0), (1, .int x1), (2, .int x2), (3, .int x3), (4, .long x4), (6, .int x6), (7, .int x7), (8, .int x8), (9, .int x9), (12, .int x12), (13, .int x13), (14, .int x14)]) (by decide) rfl ?_
  refine kj_iinc F dX8_determinant_101 11 rfl (v := 1) (by decide) (by decide) (lv' := [(14, .int (x14 + 1)), (10, .long t0), (1, .int x1), (2, .int x2), (3, .int x3), (4, .long x4), (6, .int x6), (7, .int x7), (8, .int x8), (9, .int x9), (12, .int x12), (13, .int x13)]) rfl ?_
  refine kj_goto F dX8_determinant_104 (tgt := 74) (by decide) ?_
  refine kj_J.sub [2, 3, 4, 5, 6, 7, 8, 9, 1, 10, 11, 0] rfl ?_
  exact kb x1 x2 x3 x4 x6 x7 x8 x9 t0 x12 x13 (x14 + 1) z (Option.some.inj h).symm
set_option maxRecDepth 20000 in
theorem jm_determinant_74 {p : Program} {l : Launch} {e : Env} {s : State} {m : MethodId} {args : Array Value} {below : List Frame} {meth : Method} {c : Code} {A : Nat → Prop} {D : va_G} {cA : Nat → ClassId} {h0 : Nat} {q : Nat → Nat} {Q : State → Prop} (F : kj_Fx p s m args meth c cX8_determinant 15 wsX8_determinant RX8 (some .long) D (km_T cA) A) {x1 : Int32} {x2 : Int32} {x3 : Int32} {x4 : Int64} {x6 : Int32} {x7 : Int32} {x8 : Int32} {x9 : Int32} {x10 : Int64} {x12 : Int32} {x13 : Int32} {x14 : Int32} {z : km_S} {o : ((Int32 × Int32 × Int32 × Int64 × Int32 × Int32 × Int32 × Int32 × Int64 × Int32 × Int32 × Int32 × km_S) ⊕ (Int32 × Int32 × Int32 × Int64 × Int32 × Int32 × Int32 × Int32 × Int64 × Int32 × Int32 × km_S))} (h : fm_determinant_74 x1 x2 x3 x4 x6 x7 x8 x9 x10 x12 x13 x14 z = some o) (kb : ∀ (a0' : Int32) (a1' : Int32) (a2' : Int32) (a3' : Int64) (a4' : Int32) (a5' : Int32) (a6' : Int32) (a7' : Int32) (a8' : Int64) (a9' : Int32) (a10' : Int32) (a11' : Int32) (a12' : km_S), o = .inl (a0', a1', a2', a3', a4', a5', a6', a7', a8', a9', a10', a11', a12') → kj_J p l e rm_X8_determinant s m args below meth c 0 0 Q 15 D A ((km_w cA h0 q) a12') 74 [(1, .int a0'), (2, .int a1'), (3, .int a2'), (4, .long a3'), (6, .int a4'), (7, .int a5'), (8, .int a6'), (9, .int a7'), (10, .long a8'), (12, .int a9'), (13, .int a10'), (14, .int a11')] []) (ke0 : ∀ (a0' : Int32) (a1' : Int32) (a2' : Int32) (a3' : Int64) (a4' : Int32) (a5' : Int32) (a6' : Int32) (a7' : Int32) (a8' : Int64) (a9' : Int32) (a10' : Int32) (a11' : km_S), o = .inr (a0', a1', a2', a3', a4', a5', a6', a7', a8', a9', a10', a11') → kj_J p l e rm_X8_determinant s m args below meth c 0 0 Q 15 D A ((km_w cA h0 q) a11') 107 [(1, .int a0'), (2, .int a1'), (3, .int a2'), (4, .long a3'), (6, .int a4'), (7, .int a5'), (8, .int a6'), (9, .int a7'), (10, .long a8'), (12, .int a9'), (13, .int a10')] []) : kj_J p l e rm_X8_determinant s m args below meth c 0 0 Q 15 D A ((km_w cA h0 q) z) 74 [(1, .int x1), (2, .int x2), (3, .int x3), (4, .long x4), (6, .int x6), (7, .int x7), (8, .int x8), (9, .int x9), (10, .long x10), (12, .int x12), (13, .int x13), (14, .int x14)] [] := by
  unfold fm_determinant_74 at h
  refine kj_iload F dX8_determinant_74 11 rfl ?_
  refine kj_iload_n F dX8_determinant_76 2 rfl rfl ?_
  refine kj_icmp_ge F dX8_determinant_77 (tgt := 107) (by decide) h (fun hc h => ?_) (fun hc h => ?_)
  · refine kj_J.sub [0, 1, 2, 3, 4, 5, 6, 7, 8, 9, 10] rfl ?_
    exact ke0 x1 x2 x3 x4 x6 x7 x8 x9 x10 x12 x13 z (Option.some.inj h).symm
  · refine kj_iload F dX8_determinant_80 7 rfl ?_
    refine kj_iload F dX8_determinant_82 11 rfl ?_
    refine kj_ishr F dX8_determinant_84 ?_
    refine kj_iconst F dX8_determinant_85 (v := 1) (by decide) ?_
    refine kj_iand F dX8_determinant_86 ?_
    refine kj_iconst F dX8_determinant_87 (v := 1) (by decide) ?_
    refine kj_icmp_ne F dX8_determinant_88 (tgt := 97) (by decide) h (fun hc h => ?_) (fun hc h => ?_)
    · refine kj_lload F dX8_determinant_91 8 rfl ?_
      refine kj_lneg F dX8_determinant_93 ?_
      refine kj_goto F dX8_determinant_94 (tgt := 99) (by decide) ?_
      refine kj_J.sub [0, 1, 2, 3, 4, 5, 6, 7, 9, 10, 11] rfl ?_
      exact jm_determinant_99 F h kb ke0
    · refine kj_lload F dX8_determinant_97 8 rfl ?_
      refine kj_J.sub [0, 1, 2, 3, 4, 5, 6, 7, 9, 10, 11] rfl ?_
      exact jm_determinant_99 F h kb ke0
theorem jlm_determinant_74 {p : Program} {l : Launch} {e : Env} {s : State} {m : MethodId} {args : Array Value} {below : List Frame} {meth : Method} {c : Code} {A : Nat → Prop} {D : va_G} {cA : Nat → ClassId} {h0 : Nat} {q : Nat → Nat} {Q : State → Prop} (F : kj_Fx p s m args meth c cX8_determinant 15 wsX8_determinant RX8 (some .long) D (km_T cA) A) {n : Nat} {x1 : Int32} {x2 : Int32} {x3 : Int32} {x4 : Int64} {x6 : Int32} {x7 : Int32} {x8 : Int32} {x9 : Int32} {x10 : Int64} {x12 : Int32} {x13 : Int32} {x14 : Int32} {z : km_S} {r : (Int32 × Int32 × Int32 × Int64 × Int32 × Int32 × Int32 × Int32 × Int64 × Int32 × Int32 × km_S)} (h : lm_determinant_74 n x1 x2 x3 x4 x6 x7 x8 x9 x10 x12 x13 x14 z = some r) (ke : kj_J p l e rm_X8_determinant s m args below meth c 0 0 Q 15 D A ((km_w cA h0 q) (r.2.2.2.2.2.2.2.2.2.2.2)) 107 [(1, .int (r.1)), (2, .int (r.2.1)), (3, .int (r.2.2.1)), (4, .long (r.2.2.2.1)), (6, .int (r.2.2.2.2.1)), (7, .int (r.2.2.2.2.2.1)), (8, .int (r.2.2.2.2.2.2.1)), (9, .int (r.2.2.2.2.2.2.2.1)), (10, .long (r.2.2.2.2.2.2.2.2.1)), (12, .int (r.2.2.2.2.2.2.2.2.2.1)), (13, .int (r.2.2.2.2.2.2.2.2.2.2.1))] []) : kj_J p l e rm_X8_determinant s m args below meth c 0 0 Q 15 D A ((km_w cA h0 q) z) 74 [(1, .int x1), (2, .int x2), (3, .int x3), (4, .long x4), (6, .int x6), (7, .int x7), (8, .int x8), (9, .int x9), (10, .long x10), (12, .int x12), (13, .int x13), (14, .int x14)] [] :=
  kj_it_J (Wh := fun (u : (Int32 × Int32 × Int32 × Int64 × Int32 × Int32 × Int32 × Int32 × Int64 × Int32 × Int32 × Int32 × km_S)) => kj_J p l e rm_X8_determinant s m args below meth c 0 0 Q 15 D A ((km_w cA h0 q) (u.2.2.2.2.2.2.2.2.2.2.2.2)) 74 [(1, .int (u.1)), (2, .int (u.2.1)), (3, .int (u.2.2.1)), (4, .long (u.2.2.2.1)), (6, .int (u.2.2.2.2.1)), (7, .int (u.2.2.2.2.2.1)), (8, .int (u.2.2.2.2.2.2.1)), (9, .int (u.2.2.2.2.2.2.2.1)), (10, .long (u.2.2.2.2.2.2.2.2.1)), (12, .int (u.2.2.2.2.2.2.2.2.2.1)), (13, .int (u.2.2.2.2.2.2.2.2.2.2.1)), (14, .int (u.2.2.2.2.2.2.2.2.2.2.2.1))] []) (We := fun r => kj_J p l e rm_X8_determinant s m args below meth c 0 0 Q 15 D A ((km_w cA h0 q) (r.2.2.2.2.2.2.2.2.2.2.2)) 107 [(1, .int (r.1)), (2, .int (r.2.1)), (3, .int (r.2.2.1)), (4, .long (r.2.2.2.1)), (6, .int (r.2.2.2.2.1)), (7, .int (r.2.2.2.2.2.1)), (8, .int (r.2.2.2.2.2.2.1)), (9, .int (r.2.2.2.2.2.2.2.1)), (10, .long (r.2.2.2.2.2.2.2.2.1)), (12, .int (r.2.2.2.2.2.2.2.2.2.1)), (13, .int (r.2.2.2.2.2.2.2.2.2.2.1))] []) (fun u o h kb ke => jm_determinant_74 F h (fun a0' a1' a2' a3' a4' a5' a6' a7' a8' a9' a10' a11' a12' e => kb (a0', a1', a2', a3', a4', a5', a6', a7', a8', a9', a10', a11', a12') e) (fun a0' a1' a2' a3' a4' a5' a6' a7' a8' a9' a10' a11' e => ke (a0', a1', a2', a3', a4', a5', a6', a7', a8', a9', a10', a11') e)) n (x1, x2, x3, x4, x6, x7, x8, x9, x10, x12, x13, x14, z) r h ke
set_option maxRecDepth 20000 in
theorem jm_determinant_138 {p : Program} {l : Launch} {e : Env} {s : State} {m : MethodId} {args : Array Value} {below : List Frame} {meth : Method} {c : Code} {A : Nat → Prop} {D : va_G} {cA : Nat → ClassId} {h0 : Nat} {q : Nat → Nat} {Q : State → Prop} (F : kj_Fx p s m args meth c cX8_determinant 15 wsX8_determinant RX8 (some .long) D (km_T cA) A) {x1 : Int32} {x2 : Int32} {x3 : Int32} {x4 : Int64} {x6 : Int32} {x7 : Int32} {x8 : Int32} {x9 : Int32} {x12 : Int32} {x13 : Int32} {t0 : Int64} {z : km_S} {o : ((Int32 × Int32 × Int32 × Int64 × Int32 × Int32 × Int32 × Int32 × Int64 × Int32 × km_S) ⊕ (Int32 × Int32 × Int32 × Int64 × Int32 × Int32 × Int64 × km_S))} (h : fm_determinant_138 x1 x2 x3 x4 x6 x7 x8 x9 x12 x13 t0 z = some o) (kb : ∀ (a0' : Int32) (a1' : Int32) (a2' : Int32) (a3' : Int64) (a4' : Int32) (a5' : Int32) (a6' : Int32) (a7' : Int32) (a8' : Int64) (a9' : Int32) (a10' : km_S), o = .inl (a0', a1', a2', a3', a4', a5', a6', a7', a8', a9', a10') → kj_J p l e rm_X8_determinant s m args below meth c 0 0 Q 15 D A ((km_w cA h0 q) a10') 50 [(1, .int a0'), (2, .int a1'), (3, .int a2'), (4, .long a3'), (6, .int a4'), (7, .int a5'), (8, .int a6'), (9, .int a7'), (10, .long a8'), (12, .int a9')] []) (ke0 : ∀ (a0' : Int32) (a1' : Int32) (a2' : Int32) (a3' : Int64) (a4' : Int32) (a5' : Int32) (a6' : Int64) (a7' : km_S), o = .inr (a0', a1', a2', a3', a4', a5', a6', a7') → kj_J p l e rm_X8_determinant s m args below meth c 0 0 Q 15 D A ((km_w cA h0 q) a7') 155 [(1, .int a0'), (2, .int a1'), (3, .int a2'), (4, .long a3'), (6, .int a4'), (7, .int a5'), (10, .long a6')] []) : kj_J p l e rm_X8_determinant s m args below meth c 0 0 Q 15 D A ((km_w cA h0 q) z) 138 [(1, .int x1), (2, .int x2), (3, .int x3), (4, .long x4), (6, .int x6), (7, .int x7), (8, .int x8), (9, .int x9), (12, .int x12), (13, .int x13)] [.long t0] := by
  unfold fm_determinant_138 at h
  refine kj_lstore F dX8_determinant_138 (lv' := [(10, .long t0), (1, .int x1), (2, .int x2), (3, .int x3), (4, .long x4), (6, .int x6), (7, .int x7), (8, .int x8), (9, .int x9), (12, .int x12), (13, .int x13)]) (by decide) rfl ?_
  refine kj_iload F dX8_determinant_140 8 rfl ?_
  refine kj_iconst F dX8_determinant_142 (v := 1) (by decide) ?_
  refine kj_iload F dX8_determinant_143 10 rfl ?_
  refine kj_ishl F dX8_determinant_145 ?_
  refine kj_ior F dX8_determinant_146 ?_
  refine kj_istore F dX8_determinant_147 (lv' := [(9, .int (x9 ||| ((1 : Int32) <<< (x13 &&& 31)))), (10, .long t0), (1, .int x1), (2, .int x2), (3, .int x3), (4, .long x4), (6, .int x6), (7, .int x7), (8, .int x8), (12, .int x12), (13, .int x13)]) (by decide) rfl ?_
  refine kj_iinc F dX8_determinant_149 9 rfl (v := 1) (by decide) (by decide) (lv' := [(12, .int (x12 + 1)), (9, .int (x9 ||| ((1 : Int32) <<< (x13 &&& 31)))), (10, .long t0), (1, .int x1), (2, .int x2), (3, .int x3), (4, .long x4), (6, .int x6), (7, .int x7), (8, .int x8), (13, .int x13)]) rfl ?_
  refine kj_goto F dX8_determinant_152 (tgt := 50) (by decide) ?_
  refine kj_J.sub [3, 4, 5, 6, 7, 8, 9, 1, 2, 0] rfl ?_
  exact kb x1 x2 x3 x4 x6 x7 x8 (x9 ||| ((1 : Int32) <<< (x13 &&& 31))) t0 (x12 + 1) z (Option.some.inj h).symm
set_option maxRecDepth 20000 in
theorem jm_determinant_50 {p : Program} {l : Launch} {e : Env} {s : State} {m : MethodId} {args : Array Value} {below : List Frame} {meth : Method} {c : Code} {A : Nat → Prop} {D : va_G} {cA : Nat → ClassId} {h0 : Nat} {q : Nat → Nat} {Q : State → Prop} (F : kj_Fx p s m args meth c cX8_determinant 15 wsX8_determinant RX8 (some .long) D (km_T cA) A) {x1 : Int32} {x2 : Int32} {x3 : Int32} {x4 : Int64} {x6 : Int32} {x7 : Int32} {x8 : Int32} {x9 : Int32} {x10 : Int64} {x12 : Int32} {z : km_S} {o : ((Int32 × Int32 × Int32 × Int64 × Int32 × Int32 × Int32 × Int32 × Int64 × Int32 × km_S) ⊕ (Int32 × Int32 × Int32 × Int64 × Int32 × Int32 × Int64 × km_S))} (h : fm_determinant_50 x1 x2 x3 x4 x6 x7 x8 x9 x10 x12 z = some o) (kb : ∀ (a0' : Int32) (a1' : Int32) (a2' : Int32) (a3' : Int64) (a4' : Int32) (a5' : Int32) (a6' : Int32) (a7' : Int32) (a8' : Int64) (a9' : Int32) (a10' : km_S), o = .inl (a0', a1', a2', a3', a4', a5', a6', a7', a8', a9', a10') → kj_J p l e rm_X8_determinant s m args below meth c 0 0 Q 15 D A ((km_w cA h0 q) a10') 50 [(1, .int a0'), (2, .int a1'), (3, .int a2'), (4, .long a3'), (6, .int a4'), (7, .int a5'), (8, .int a6'), (9, .int a7'), (10, .long a8'), (12, .int a9')] []) (ke0 : ∀ (a0' : Int32) (a1' : Int32) (a2' : Int32) (a3' : Int64) (a4' : Int32) (a5' : Int32) (a6' : Int64) (a7' : km_S), o = .inr (a0', a1', a2', a3', a4', a5', a6', a7') → kj_J p l e rm_X8_determinant s m args below meth c 0 0 Q 15 D A ((km_w cA h0 q) a7') 155 [(1, .int a0'), (2, .int a1'), (3, .int a2'), (4, .long a3'), (6, .int a4'), (7, .int a5'), (10, .long a6')] []) : kj_J p l e rm_X8_determinant s m args below meth c 0 0 Q 15 D A ((km_w cA h0 q) z) 50 [(1, .int x1), (2, .int x2), (3, .int x3), (4, .long x4), (6, .int x6), (7, .int x7), (8, .int x8), (9, .int x9), (10, .long x10), (12, .int x12)] [] := by
  unfold fm_determinant_50 at h
  refine kj_iload F dX8_determinant_50 9 rfl ?_
  refine kj_iload_n F dX8_determinant_52 2 rfl rfl ?_
  refine kj_icmp_ge F dX8_determinant_53 (tgt := 155) (by decide) h (fun hc h => ?_) (fun hc h => ?_)
  · refine kj_J.sub [0, 1, 2, 3, 4, 5, 8] rfl ?_
    exact ke0 x1 x2 x3 x4 x6 x7 x10 z (Option.some.inj h).symm
  · refine kj_iload F dX8_determinant_56 6 rfl ?_
    refine kj_iload_n F dX8_determinant_58 2 rfl rfl ?_
    refine kj_irem F dX8_determinant_59 h (fun h => ?_)
    refine kj_istore F dX8_determinant_60 (lv' := [(13, .int (x8 - x8 / x3 * x3)), (1, .int x1), (2, .int x2), (3, .int x3), (4, .long x4), (6, .int x6), (7, .int x7), (8, .int x8), (9, .int x9), (10, .long x10), (12, .int x12)]) (by decide) rfl ?_
    refine kj_iload F dX8_determinant_62 7 rfl ?_
    refine kj_iload_n F dX8_determinant_64 3 rfl rfl ?_
    refine kj_idiv F dX8_determinant_65 h (fun h => ?_)
    refine kj_istore F dX8_determinant_66 (lv' := [(8, .int (x8 / x3)), (13, .int (x8 - x8 / x3 * x3)), (1, .int x1), (2, .int x2), (3, .int x3), (4, .long x4), (6, .int x6), (7, .int x7), (9, .int x9), (10, .long x10), (12, .int x12)]) (by decide) rfl ?_
    refine kj_iload F dX8_determinant_68 1 rfl ?_
    refine kj_iconst F dX8_determinant_70 (v := 1) (by decide) ?_
    refine kj_iadd F dX8_determinant_71 ?_
    refine kj_istore F dX8_determinant_72 (lv' := [(14, .int ((x8 - x8 / x3 * x3) + (1 : Int32))), (8, .int (x8 / x3)), (13, .int (x8 - x8 / x3 * x3)), (1, .int x1), (2, .int x2), (3, .int x3), (4, .long x4), (6, .int x6), (7, .int x7), (9, .int x9), (10, .long x10), (12, .int x12)]) (by decide) rfl ?_
    refine kj_J.sub [3, 4, 5, 6, 7, 8, 1, 9, 10, 11, 2, 0] rfl ?_
    refine kj_bn h (fun r1 h1 h => ?_)
    refine jlm_determinant_74 F h1 ?_
    refine kj_iload F dX8_determinant_107 7 rfl ?_
    refine kj_iload F dX8_determinant_109 10 rfl ?_
    refine kj_ishr F dX8_determinant_111 ?_
    refine kj_iconst F dX8_determinant_112 (v := 1) (by decide) ?_
    refine kj_iand F dX8_determinant_113 ?_
    refine kj_iconst F dX8_determinant_114 (v := 1) (by decide) ?_
    refine kj_icmp_ne F dX8_determinant_115 (tgt := 122) (by decide) h (fun hc h => ?_) (fun hc h => ?_)
    · refine kj_lconst F dX8_determinant_118 (v := 0) (by decide) ?_
      refine kj_goto F dX8_determinant_119 (tgt := 138) (by decide) ?_
      refine kj_J.sub [0, 1, 2, 3, 4, 5, 6, 7, 9, 10] rfl ?_
      exact jm_determinant_138 F h kb ke0
    · refine kj_lload F dX8_determinant_122 8 rfl ?_
      refine kj_iload_n F dX8_determinant_124 0 rfl rfl ?_
      refine kj_iload_n F dX8_determinant_125 1 rfl rfl ?_
      refine kj_iadd F dX8_determinant_126 ?_
      refine kj_iload_n F dX8_determinant_127 1 rfl rfl ?_
      refine kj_iload F dX8_determinant_128 10 rfl ?_
      refine kj_iadd F dX8_determinant_130 ?_
      refine kj_iload F dX8_determinant_131 9 rfl ?_
      refine kj_isub F dX8_determinant_133 ?_
      refine kj_cSlp (As := [.int ((r1.1) + (r1.2.1)), .int (((r1.2.1) + (r1.2.2.2.2.2.2.2.2.2.2.1)) - (r1.2.2.2.2.2.2.2.2.2.1))]) (rest := [.long (r1.2.2.2.2.2.2.2.2.1)]) F dX8_determinant_134 h (fun o h1 => cm_chosen (w := (km_w cA h0 q)) h1) (va_cwS 2 F.2.2.2.2.1 gX8_determinant_X8_chosen rfl rfl rfl (by decide +kernel) ⟨Nat.le_of_ble_eq_true rfl, Nat.le_of_ble_eq_true rfl⟩) rfl rfl (Nat.le_of_ble_eq_true rfl) ⟨Nat.zero_le _, Nat.zero_le _⟩ (fun o2 h => ?_)
      refine kj_lmul F dX8_determinant_137 ?_
      refine kj_J.sub [0, 1, 2, 3, 4, 5, 6, 7, 9, 10] rfl ?_
      exact jm_determinant_138 F h kb ke0
theorem jlm_determinant_50 {p : Program} {l : Launch} {e : Env} {s : State} {m : MethodId} {args : Array Value} {below : List Frame} {meth : Method} {c : Code} {A : Nat → Prop} {D : va_G} {cA : Nat → ClassId} {h0 : Nat} {q : Nat → Nat} {Q : State → Prop} (F : kj_Fx p s m args meth c cX8_determinant 15 wsX8_determinant RX8 (some .long) D (km_T cA) A) {n : Nat} {x1 : Int32} {x2 : Int32} {x3 : Int32} {x4 : Int64} {x6 : Int32} {x7 : Int32} {x8 : Int32} {x9 : Int32} {x10 : Int64} {x12 : Int32} {z : km_S} {r : (Int32 × Int32 × Int32 × Int64 × Int32 × Int32 × Int64 × km_S)} (h : lm_determinant_50 n x1 x2 x3 x4 x6 x7 x8 x9 x10 x12 z = some r) (ke : kj_J p l e rm_X8_determinant s m args below meth c 0 0 Q 15 D A ((km_w cA h0 q) (r.2.2.2.2.2.2.2)) 155 [(1, .int (r.1)), (2, .int (r.2.1)), (3, .int (r.2.2.1)), (4, .long (r.2.2.2.1)), (6, .int (r.2.2.2.2.1)), (7, .int (r.2.2.2.2.2.1)), (10, .long (r.2.2.2.2.2.2.1))] []) : kj_J p l e rm_X8_determinant s m args below meth c 0 0 Q 15 D A ((km_w cA h0 q) z) 50 [(1, .int x1), (2, .int x2), (3, .int x3), (4, .long x4), (6, .int x6), (7, .int x7), (8, .int x8), (9, .int x9), (10, .long x10), (12, .int x12)] [] :=
  kj_it_J (Wh := fun (u : (Int32 × Int32 × Int32 × Int64 × Int32 × Int32 × Int32 × Int32 × Int64 × Int32 × km_S)) => kj_J p l e rm_X8_determinant s m args below meth c 0 0 Q 15 D A ((km_w cA h0 q) (u.2.2.2.2.2.2.2.2.2.2)) 50 [(1, .int (u.1)), (2, .int (u.2.1)), (3, .int (u.2.2.1)), (4, .long (u.2.2.2.1)), (6, .int (u.2.2.2.2.1)), (7, .int (u.2.2.2.2.2.1)), (8, .int (u.2.2.2.2.2.2.1)), (9, .int (u.2.2.2.2.2.2.2.1)), (10, .long (u.2.2.2.2.2.2.2.2.1)), (12, .int (u.2.2.2.2.2.2.2.2.2.1))] []) (We := fun r => kj_J p l e rm_X8_determinant s m args below meth c 0 0 Q 15 D A ((km_w cA h0 q) (r.2.2.2.2.2.2.2)) 155 [(1, .int (r.1)), (2, .int (r.2.1)), (3, .int (r.2.2.1)), (4, .long (r.2.2.2.1)), (6, .int (r.2.2.2.2.1)), (7, .int (r.2.2.2.2.2.1)), (10, .long (r.2.2.2.2.2.2.1))] []) (fun u o h kb ke => jm_determinant_50 F h (fun a0' a1' a2' a3' a4' a5' a6' a7' a8' a9' a10' e => kb (a0', a1', a2', a3', a4', a5', a6', a7', a8', a9', a10') e) (fun a0' a1' a2' a3' a4' a5' a6' a7' e => ke (a0', a1', a2', a3', a4', a5', a6', a7') e)) n (x1, x2, x3, x4, x6, x7, x8, x9, x10, x12, z) r h ke
set_option maxRecDepth 20000 in
theorem jm_determinant_30 {p : Program} {l : Launch} {e : Env} {s : State} {m : MethodId} {args : Array Value} {below : List Frame} {meth : Method} {c : Code} {A : Nat → Prop} {D : va_G} {cA : Nat → ClassId} {h0 : Nat} {q : Nat → Nat} {Q : State → Prop} (F : kj_Fx p s m args meth c cX8_determinant 15 wsX8_determinant RX8 (some .long) D (km_T cA) A) {x1 : Int32} {x2 : Int32} {x3 : Int32} {x4 : Int64} {x6 : Int32} {x7 : Int32} {z : km_S} {o : ((Int32 × Int32 × Int32 × Int64 × Int32 × Int32 × km_S) ⊕ (Int64 × km_S))} (h : fm_determinant_30 x1 x2 x3 x4 x6 x7 z = some o) (kb : ∀ (a0' : Int32) (a1' : Int32) (a2' : Int32) (a3' : Int64) (a4' : Int32) (a5' : Int32) (a6' : km_S), o = .inl (a0', a1', a2', a3', a4', a5', a6') → kj_J p l e rm_X8_determinant s m args below meth c 0 0 Q 15 D A ((km_w cA h0 q) a6') 30 [(1, .int a0'), (2, .int a1'), (3, .int a2'), (4, .long a3'), (6, .int a4'), (7, .int a5')] []) (ke0 : ∀ (a0' : Int64) (a1' : km_S), o = .inr (a0', a1') → kj_J p l e rm_X8_determinant s m args below meth c 0 0 Q 15 D A ((km_w cA h0 q) a1') 168 [(4, .long a0')] []) : kj_J p l e rm_X8_determinant s m args below meth c 0 0 Q 15 D A ((km_w cA h0 q) z) 30 [(1, .int x1), (2, .int x2), (3, .int x3), (4, .long x4), (6, .int x6), (7, .int x7)] [] := by
  unfold fm_determinant_30 at h
  refine kj_iload F dX8_determinant_30 5 rfl ?_
  refine kj_iload F dX8_determinant_32 4 rfl ?_
  refine kj_icmp_ge F dX8_determinant_34 (tgt := 168) (by decide) h (fun hc h => ?_) (fun hc h => ?_)
  · refine kj_J.sub [3] rfl ?_
    exact ke0 x4 z (Option.some.inj h).symm
  · refine kj_iload F dX8_determinant_37 5 rfl ?_
    refine kj_istore F dX8_determinant_39 (lv' := [(8, .int x7), (1, .int x1), (2, .int x2), (3, .int x3), (4, .long x4), (6, .int x6), (7, .int x7)]) (by decide) rfl ?_
    refine kj_iconst F dX8_determinant_41 (v := 0) (by decide) ?_
    refine kj_istore F dX8_determinant_42 (lv' := [(9, .int (0 : Int32)), (8, .int x7), (1, .int x1), (2, .int x2), (3, .int x3), (4, .long x4), (6, .int x6), (7, .int x7)]) (by decide) rfl ?_
    refine kj_lconst F dX8_determinant_44 (v := 1) (by decide) ?_
    refine kj_lstore F dX8_determinant_45 (lv' := [(10, .long (1 : Int64)), (9, .int (0 : Int32)), (8, .int x7), (1, .int x1), (2, .int x2), (3, .int x3), (4, .long x4), (6, .int x6), (7, .int x7)]) (by decide) rfl ?_
    refine kj_iconst F dX8_determinant_47 (v := 0) (by decide) ?_
    refine kj_istore F dX8_determinant_48 (lv' := [(12, .int (0 : Int32)), (10, .long (1 : Int64)), (9, .int (0 : Int32)), (8, .int x7), (1, .int x1), (2, .int x2), (3, .int x3), (4, .long x4), (6, .int x6), (7, .int x7)]) (by decide) rfl ?_
    refine kj_J.sub [4, 5, 6, 7, 8, 9, 3, 2, 1, 0] rfl ?_
    refine kj_bn h (fun r1 h1 h => ?_)
    refine jlm_determinant_50 F h1 ?_
    refine kj_lload F dX8_determinant_155 3 rfl ?_
    refine kj_lload F dX8_determinant_157 6 rfl ?_
    refine kj_ladd F dX8_determinant_159 ?_
    refine kj_lstore F dX8_determinant_160 (lv' := [(4, .long ((r1.2.2.2.1) + (r1.2.2.2.2.2.2.1))), (1, .int (r1.1)), (2, .int (r1.2.1)), (3, .int (r1.2.2.1)), (6, .int (r1.2.2.2.2.1)), (7, .int (r1.2.2.2.2.2.1)), (10, .long (r1.2.2.2.2.2.2.1))]) (by decide) rfl ?_
    refine kj_iinc F dX8_determinant_162 5 rfl (v := 1) (by decide) (by decide) (lv' := [(7, .int ((r1.2.2.2.2.2.1) + 1)), (4, .long ((r1.2.2.2.1) + (r1.2.2.2.2.2.2.1))), (1, .int (r1.1)), (2, .int (r1.2.1)), (3, .int (r1.2.2.1)), (6, .int (r1.2.2.2.2.1)), (10, .long (r1.2.2.2.2.2.2.1))]) rfl ?_
    refine kj_goto F dX8_determinant_165 (tgt := 30) (by decide) ?_
    refine kj_J.sub [2, 3, 4, 1, 5, 0] rfl ?_
    exact kb (r1.1) (r1.2.1) (r1.2.2.1) ((r1.2.2.2.1) + (r1.2.2.2.2.2.2.1)) (r1.2.2.2.2.1) ((r1.2.2.2.2.2.1) + 1) (r1.2.2.2.2.2.2.2) (Option.some.inj h).symm
theorem jlm_determinant_30 {p : Program} {l : Launch} {e : Env} {s : State} {m : MethodId} {args : Array Value} {below : List Frame} {meth : Method} {c : Code} {A : Nat → Prop} {D : va_G} {cA : Nat → ClassId} {h0 : Nat} {q : Nat → Nat} {Q : State → Prop} (F : kj_Fx p s m args meth c cX8_determinant 15 wsX8_determinant RX8 (some .long) D (km_T cA) A) {n : Nat} {x1 : Int32} {x2 : Int32} {x3 : Int32} {x4 : Int64} {x6 : Int32} {x7 : Int32} {z : km_S} {r : (Int64 × km_S)} (h : lm_determinant_30 n x1 x2 x3 x4 x6 x7 z = some r) (ke : kj_J p l e rm_X8_determinant s m args below meth c 0 0 Q 15 D A ((km_w cA h0 q) (r.2)) 168 [(4, .long (r.1))] []) : kj_J p l e rm_X8_determinant s m args below meth c 0 0 Q 15 D A ((km_w cA h0 q) z) 30 [(1, .int x1), (2, .int x2), (3, .int x3), (4, .long x4), (6, .int x6), (7, .int x7)] [] :=
  kj_it_J (Wh := fun (u : (Int32 × Int32 × Int32 × Int64 × Int32 × Int32 × km_S)) => kj_J p l e rm_X8_determinant s m args below meth c 0 0 Q 15 D A ((km_w cA h0 q) (u.2.2.2.2.2.2)) 30 [(1, .int (u.1)), (2, .int (u.2.1)), (3, .int (u.2.2.1)), (4, .long (u.2.2.2.1)), (6, .int (u.2.2.2.2.1)), (7, .int (u.2.2.2.2.2.1))] []) (We := fun r => kj_J p l e rm_X8_determinant s m args below meth c 0 0 Q 15 D A ((km_w cA h0 q) (r.2)) 168 [(4, .long (r.1))] []) (fun u o h kb ke => jm_determinant_30 F h (fun a0' a1' a2' a3' a4' a5' a6' e => kb (a0', a1', a2', a3', a4', a5', a6') e) (fun a0' a1' e => ke (a0', a1') e)) n (x1, x2, x3, x4, x6, x7, z) r h ke
set_option maxRecDepth 20000 in
theorem jm_determinant {p : Program} {l : Launch} {e : Env} {s : State} {m : MethodId} {args : Array Value} {below : List Frame} {meth : Method} {c : Code} {A : Nat → Prop} {D : va_G} {cA : Nat → ClassId} {h0 : Nat} {q : Nat → Nat} (F : kj_Fx p s m args meth c cX8_determinant 15 wsX8_determinant RX8 (some .long) D (km_T cA) A) {x1 : Int32} {x2 : Int32} {x3 : Int32} {z : km_S} {o : (Int64 × km_S)} (h : fm_determinant x1 x2 x3 z = some o) : kj_J p l e rm_X8_determinant s m args below meth c 0 0 (MQ below (kj_Ql D (km_T cA) A (km_w cA h0 q) o) args s 0 0 A) 15 D A ((km_w cA h0 q) z) 0 [(0, .ref h0), (1, .int x1), (2, .int x2), (3, .int x3)] [] := by
  unfold fm_determinant at h
  refine kj_lconst F dX8_determinant_0 (v := 0) (by decide) ?_
  refine kj_lstore F dX8_determinant_1 (lv' := [(4, .long (0 : Int64)), (0, .ref h0), (1, .int x1), (2, .int x2), (3, .int x3)]) (by decide) rfl ?_
  refine kj_iconst F dX8_determinant_3 (v := 1) (by decide) ?_
  refine kj_istore F dX8_determinant_4 (lv' := [(6, .int (1 : Int32)), (4, .long (0 : Int64)), (0, .ref h0), (1, .int x1), (2, .int x2), (3, .int x3)]) (by decide) rfl ?_
  refine kj_iconst F dX8_determinant_6 (v := 0) (by decide) ?_
  refine kj_istore F dX8_determinant_7 (lv' := [(7, .int (0 : Int32)), (6, .int (1 : Int32)), (4, .long (0 : Int64)), (0, .ref h0), (1, .int x1), (2, .int x2), (3, .int x3)]) (by decide) rfl ?_
  refine kj_J.sub [4, 5, 6, 2, 1, 0] rfl ?_
  refine kj_bn h (fun r1 h1 h => ?_)
  refine jlm_determinant_9 F h1 ?_
  refine kj_iconst F dX8_determinant_27 (v := 0) (by decide) ?_
  refine kj_istore F dX8_determinant_28 (lv' := [(7, .int (0 : Int32)), (1, .int (r1.1)), (2, .int (r1.2.1)), (3, .int (r1.2.2.1)), (4, .long (r1.2.2.2.1)), (6, .int (r1.2.2.2.2.1))]) (by decide) rfl ?_
  refine kj_J.sub [1, 2, 3, 4, 5, 0] rfl ?_
  refine kj_bn h (fun r2 h1 h => ?_)
  refine jlm_determinant_30 F h1 ?_
  refine kj_lload F dX8_determinant_168 0 rfl ?_
  exact kj_lret F dX8_determinant_170 h
theorem cm_determinant {l : Launch} {D : va_G} {cA : Nat → ClassId} {h0 : Nat} {q : Nat → Nat} {x1 : Int32} {x2 : Int32} {x3 : Int32} {z : km_S} {o : (Int64 × km_S)} (h : fm_determinant x1 x2 x3 z = some o) : kj_Ml l yX8_determinant wsX8_determinant rm_X8_determinant D (km_T cA) (km_w cA h0 q) z [.ref h0, .int x1, .int x2, .int x3] o :=
  fun sz => kj_start (by decide) rfl (Nat.le_of_ble_eq_true rfl) rfl fun p e s m args below meth c hsz F => jm_determinant F h
/-! X8_minor -/
abbrev rm_X8_minor : Room := { frames := 2, cells := 0, slots := 0, locals := 58 }
def fm_minor_30 (z : km_S) : Option (Int64 × km_S) :=
  some (((-1000001) : Int64), z)
def fm_minor (x1 : Int32) (x2 : Int32) (x3 : Int32) (x4 : Int32) (z : km_S) : Option (Int64 × km_S) :=
  (fm_isBox x1 x2 x3).bind fun o1 =>
  if o1 = 0 then
  fm_minor_30 z
  else
  (fm_in x4 (0 : Int32) x1).bind fun o2 =>
  if o2 = 0 then
  fm_minor_30 z
  else
  (fm_determinant x2 x3 x4 z).bind fun o3 =>
  some ((o3.1), (o3.2))
set_option maxRecDepth 20000 in
theorem jm_minor_30 {p : Program} {l : Launch} {e : Env} {s : State} {m : MethodId} {args : Array Value} {below : List Frame} {meth : Method} {c : Code} {A : Nat → Prop} {D : va_G} {cA : Nat → ClassId} {h0 : Nat} {q : Nat → Nat} (F : kj_Fx p s m args meth c cX8_minor 5 wsX8_minor RX8 (some .long) D (km_T cA) A) {z : km_S} {o : (Int64 × km_S)} (h : fm_minor_30 z = some o) : kj_J p l e rm_X8_minor s m args below meth c 0 0 (MQ below (kj_Ql D (km_T cA) A (km_w cA h0 q) o) args s 0 0 A) 5 D A ((km_w cA h0 q) z) 30 [] [] := by
  unfold fm_minor_30 at h
  refine kj_ldc2 F dX8_minor_30 (v := (-1000001)) (by decide +kernel) ?_
  exact kj_lret F dX8_minor_33 h
set_option maxRecDepth 20000 in
theorem jm_minor {p : Program} {l : Launch} {e : Env} {s : State} {m : MethodId} {args : Array Value} {below : List Frame} {meth : Method} {c : Code} {A : Nat → Prop} {D : va_G} {cA : Nat → ClassId} {h0 : Nat} {q : Nat → Nat} (F : kj_Fx p s m args meth c cX8_minor 5 wsX8_minor RX8 (some .long) D (km_T cA) A) {x1 : Int32} {x2 : Int32} {x3 : Int32} {x4 : Int32} {z : km_S} {o : (Int64 × km_S)} (h : fm_minor x1 x2 x3 x4 z = some o) : kj_J p l e rm_X8_minor s m args below meth c 0 0 (MQ below (kj_Ql D (km_T cA) A (km_w cA h0 q) o) args s 0 0 A) 5 D A ((km_w cA h0 q) z) 0 [(0, .ref h0), (1, .int x1), (2, .int x2), (3, .int x3), (4, .int x4)] [] := by
  unfold fm_minor at h
  refine kj_iload_n F dX8_minor_0 1 rfl rfl ?_
  refine kj_iload_n F dX8_minor_1 2 rfl rfl ?_
  refine kj_iload_n F dX8_minor_2 3 rfl rfl ?_
  refine kj_cSip (As := [.int x1, .int x2, .int x3]) (rest := []) F dX8_minor_3 h (fun o h1 => cm_isBox (w := (km_w cA h0 q)) h1) (va_cwS 3 F.2.2.2.2.1 gX8_minor_X8_isBox rfl rfl rfl (by decide +kernel) ⟨Nat.le_of_ble_eq_true rfl, Nat.le_of_ble_eq_true rfl⟩) rfl rfl (Nat.le_of_ble_eq_true rfl) ⟨Nat.zero_le _, Nat.zero_le _⟩ (fun o1 h => ?_)
  refine kj_if_eq F dX8_minor_6 (tgt := 30) (by decide) h (fun hc h => ?_) (fun hc h => ?_)
  · refine kj_J.sub [] rfl ?_
    exact jm_minor_30 F h
  · refine kj_iload F dX8_minor_9 4 rfl ?_
    refine kj_iconst F dX8_minor_11 (v := 0) (by decide) ?_
    refine kj_iload_n F dX8_minor_12 1 rfl rfl ?_
    refine kj_cSip (As := [.int x4, .int (0 : Int32), .int x1]) (rest := []) F dX8_minor_13 h (fun o h1 => cm_in (w := (km_w cA h0 q)) h1) (va_cwS 3 F.2.2.2.2.1 gX8_minor_X8_in rfl rfl rfl (by decide +kernel) ⟨Nat.le_of_ble_eq_true rfl, Nat.le_of_ble_eq_true rfl⟩) rfl rfl (Nat.le_of_ble_eq_true rfl) ⟨Nat.zero_le _, Nat.zero_le _⟩ (fun o2 h => ?_)
    refine kj_if_eq F dX8_minor_16 (tgt := 30) (by decide) h (fun hc h => ?_) (fun hc h => ?_)
    · refine kj_J.sub [] rfl ?_
      exact jm_minor_30 F h
    · refine kj_aload_n F dX8_minor_19 0 rfl rfl ?_
      refine kj_iload_n F dX8_minor_20 2 rfl rfl ?_
      refine kj_iload_n F dX8_minor_21 3 rfl rfl ?_
      refine kj_iload F dX8_minor_22 4 rfl ?_
      refine kj_cVl (As := [.int x2, .int x3, .int x4]) (rest := []) F dX8_minor_24 h (fun o h1 => cm_determinant h1) (cwV 3 F.2.2.2.2.1 gX8_minor_X8_determinant rfl rfl rfl (by decide +kernel) ⟨Nat.le_of_ble_eq_true rfl, Nat.le_of_ble_eq_true rfl⟩) 0 rfl rfl rfl rfl rfl (Nat.le_of_ble_eq_true rfl) ⟨Nat.zero_le _, Nat.zero_le _⟩ (fun o3 h => ?_)
      refine kj_goto F dX8_minor_27 (tgt := 33) (by decide) ?_
      exact kj_lret F dX8_minor_33 h
theorem cm_minor {l : Launch} {D : va_G} {cA : Nat → ClassId} {h0 : Nat} {q : Nat → Nat} {x1 : Int32} {x2 : Int32} {x3 : Int32} {x4 : Int32} {z : km_S} {o : (Int64 × km_S)} (h : fm_minor x1 x2 x3 x4 z = some o) : kj_Ml l yX8_minor wsX8_minor rm_X8_minor D (km_T cA) (km_w cA h0 q) z [.ref h0, .int x1, .int x2, .int x3, .int x4] o :=
  fun sz => kj_start (by decide) rfl (Nat.le_of_ble_eq_true rfl) rfl fun p e s m args below meth c hsz F => jm_minor F h
/-! X8_sumOf -/
abbrev rm_X8_sumOf : Room := { frames := 0, cells := 0, slots := 0, locals := 0 }
theorem in_X8_sumOf : ∀ w ∈ u_ws RX8 TX8 29, w ∈ wsX8_sumOf := by decide +kernel
def fm_sumOf (x1 : Int32) (z : km_S) : Option (Int32 × km_S) :=
  (km_rd z 6 ((4 : Int32) * x1)).bind fun v1 =>
  (km_rd z 6 (((4 : Int32) * x1) + (1 : Int32))).bind fun v2 =>
  (km_rd z 6 (((4 : Int32) * x1) + (2 : Int32))).bind fun v3 =>
  (km_rd z 6 (((4 : Int32) * x1) + (3 : Int32))).bind fun v4 =>
  some ((((v1 + v2) + v3) + v4), z)
set_option maxRecDepth 20000 in
theorem jm_sumOf {p : Program} {l : Launch} {e : Env} {s : State} {m : MethodId} {args : Array Value} {below : List Frame} {meth : Method} {c : Code} {A : Nat → Prop} {D : va_G} {cA : Nat → ClassId} {h0 : Nat} {q : Nat → Nat} (F : kj_Fx p s m args meth c cX8_sumOf 2 wsX8_sumOf RX8 (some .int) D (km_T cA) A) {x1 : Int32} {z : km_S} {o : (Int32 × km_S)} (h : fm_sumOf x1 z = some o) : kj_J p l e rm_X8_sumOf s m args below meth c 0 0 (MQ below (kj_Qi D (km_T cA) A (km_w cA h0 q) o) args s 0 0 A) 2 D A ((km_w cA h0 q) z) 0 [(0, .ref h0), (1, .int x1)] [] := by
  unfold fm_sumOf at h
  refine kj_aload_n F dX8_sumOf_0 0 rfl rfl ?_
  refine km_get F dX8_sumOf_1 in_X8_sumOf 13 (by decide) (by decide +kernel) rfl rfl ?_
  refine kj_iconst F dX8_sumOf_4 (v := 4) (by decide) ?_
  refine kj_iload_n F dX8_sumOf_5 1 rfl rfl ?_
  refine kj_imul F dX8_sumOf_6 ?_
  refine km_iald F dX8_sumOf_7 6 (by decide) h (fun v1 h => ?_)
  refine kj_aload_n F dX8_sumOf_8 0 rfl rfl ?_
  refine km_get F dX8_sumOf_9 in_X8_sumOf 13 (by decide) (by decide +kernel) rfl rfl ?_
  refine kj_iconst F dX8_sumOf_12 (v := 4) (by decide) ?_
  refine kj_iload_n F dX8_sumOf_13 1 rfl rfl ?_
  refine kj_imul F dX8_sumOf_14 ?_
  refine kj_iconst F dX8_sumOf_15 (v := 1) (by decide) ?_
  refine kj_iadd F dX8_sumOf_16 ?_
  refine km_iald F dX8_sumOf_17 6 (by decide) h (fun v2 h => ?_)
  refine kj_iadd F dX8_sumOf_18 ?_
  refine kj_aload_n F dX8_sumOf_19 0 rfl rfl ?_
  refine km_get F dX8_sumOf_20 in_X8_sumOf 13 (by decide) (by decide +kernel) rfl rfl ?_
  refine kj_iconst F dX8_sumOf_23 (v := 4) (by decide) ?_
  refine kj_iload_n F dX8_sumOf_24 1 rfl rfl ?_
  refine kj_imul F dX8_sumOf_25 ?_
  refine kj_iconst F dX8_sumOf_26 (v := 2) (by decide) ?_
  refine kj_iadd F dX8_sumOf_27 ?_
  refine km_iald F dX8_sumOf_28 6 (by decide) h (fun v3 h => ?_)
  refine kj_iadd F dX8_sumOf_29 ?_
  refine kj_aload_n F dX8_sumOf_30 0 rfl rfl ?_
  refine km_get F dX8_sumOf_31 in_X8_sumOf 13 (by decide) (by decide +kernel) rfl rfl ?_
  refine kj_iconst F dX8_sumOf_34 (v := 4) (by decide) ?_
  refine kj_iload_n F dX8_sumOf_35 1 rfl rfl ?_
  refine kj_imul F dX8_sumOf_36 ?_
  refine kj_iconst F dX8_sumOf_37 (v := 3) (by decide) ?_
  refine kj_iadd F dX8_sumOf_38 ?_
  refine km_iald F dX8_sumOf_39 6 (by decide) h (fun v4 h => ?_)
  refine kj_iadd F dX8_sumOf_40 ?_
  exact kj_iret F dX8_sumOf_41 h
theorem cm_sumOf {l : Launch} {D : va_G} {cA : Nat → ClassId} {h0 : Nat} {q : Nat → Nat} {x1 : Int32} {z : km_S} {o : (Int32 × km_S)} (h : fm_sumOf x1 z = some o) : kj_Mi l yX8_sumOf wsX8_sumOf rm_X8_sumOf D (km_T cA) (km_w cA h0 q) z [.ref h0, .int x1] o :=
  fun sz => kj_start (by decide) rfl (Nat.le_of_ble_eq_true rfl) rfl fun p e s m args below meth c hsz F => jm_sumOf F h
/-! X8_countVolume -/
abbrev rm_X8_countVolume : Room := { frames := 1, cells := 0, slots := 0, locals := 25 }
theorem in_X8_countVolume : ∀ w ∈ u_ws RX8 TX8 29, w ∈ wsX8_countVolume := by decide +kernel
def fm_countVolume_3 (x1 : Int32) (x2 : Int32) (x3 : Int32) (x4 : Int32) (z : km_S) : Option ((Int32 × Int32 × Int32 × Int32 × km_S) ⊕ (Int32 × Int32 × Int32 × km_S)) :=
  if (3430 : Int32) ≤ x4 then
  some (.inr (x1, x2, x3, z))
  else
  (km_wr z 13 x4 (0 : Int32)).bind fun z1 =>
  some (.inl (x1, x2, x3, (x4 + 1), z1))
def lm_countVolume_3 (n : Nat) (x1 : Int32) (x2 : Int32) (x3 : Int32) (x4 : Int32) (z : km_S) : Option (Int32 × Int32 × Int32 × km_S) :=
  kj_it (fun (s : (Int32 × Int32 × Int32 × Int32 × km_S)) => fm_countVolume_3 (s.1) (s.2.1) (s.2.2.1) (s.2.2.2.1) (s.2.2.2.2)) n (x1, x2, x3, x4, z)
def fm_countVolume_52 (x1 : Int32) (x2 : Int32) (x3 : Int32) (x4 : Int32) (x5 : Int32) (z : km_S) : Option ((Int32 × Int32 × Int32 × Int32 × Int32 × km_S) ⊕ (Int32 × Int32 × Int32 × Int32 × km_S)) :=
  if (3430 : Int32) ≤ x5 then
  some (.inr (x1, x2, x3, x4, z))
  else
  (km_wr z 14 x5 (0 : Int32)).bind fun z1 =>
  some (.inl (x1, x2, x3, x4, (x5 + 1), z1))
def lm_countVolume_52 (n : Nat) (x1 : Int32) (x2 : Int32) (x3 : Int32) (x4 : Int32) (x5 : Int32) (z : km_S) : Option (Int32 × Int32 × Int32 × Int32 × km_S) :=
  kj_it (fun (s : (Int32 × Int32 × Int32 × Int32 × Int32 × km_S)) => fm_countVolume_52 (s.1) (s.2.1) (s.2.2.1) (s.2.2.2.1) (s.2.2.2.2.1) (s.2.2.2.2.2)) n (x1, x2, x3, x4, x5, z)
def fm_countVolume_107 (x1 : Int32) (x2 : Int32) (x3 : Int32) (x4 : Int32) (x5 : Int32) (x6 : Int32) (x7 : Int32) (x8 : Int32) (z : km_S) : Option ((Int32 × Int32 × Int32 × Int32 × Int32 × Int32 × Int32 × Int32 × km_S) ⊕ (Int32 × Int32 × Int32 × Int32 × Int32 × Int32 × km_S)) :=
  if (48 : Int32) < (x8 + x7) then
  some (.inr (x1, x2, x3, x4, x5, x6, z))
  else
  (fm_isUnder x6 x5 x2 z).bind fun o1 =>
  if (o1.1) = 0 then
  some (.inr (x1, x2, x3, x4, x5, x6, (o1.2)))
  else
  (km_rd (o1.2) 14 ((((49 : Int32) * x6) + x8) + x7)).bind fun v2 =>
  (km_rd (o1.2) 13 (((49 : Int32) * x5) + x8)).bind fun v3 =>
  (km_wr (o1.2) 14 ((((49 : Int32) * x6) + x8) + x7) (v2 + v3)).bind fun z4 =>
  some (.inl (x1, x2, x3, x4, x5, x6, x7, (x8 + 1), z4))
def lm_countVolume_107 (n : Nat) (x1 : Int32) (x2 : Int32) (x3 : Int32) (x4 : Int32) (x5 : Int32) (x6 : Int32) (x7 : Int32) (x8 : Int32) (z : km_S) : Option (Int32 × Int32 × Int32 × Int32 × Int32 × Int32 × km_S) :=
  kj_it (fun (s : (Int32 × Int32 × Int32 × Int32 × Int32 × Int32 × Int32 × Int32 × km_S)) => fm_countVolume_107 (s.1) (s.2.1) (s.2.2.1) (s.2.2.2.1) (s.2.2.2.2.1) (s.2.2.2.2.2.1) (s.2.2.2.2.2.2.1) (s.2.2.2.2.2.2.2.1) (s.2.2.2.2.2.2.2.2)) n (x1, x2, x3, x4, x5, x6, x7, x8, z)
def fm_countVolume_167 (x1 : Int32) (x2 : Int32) (x3 : Int32) (x4 : Int32) (x5 : Int32) (x6 : Int32) (z : km_S) : Option ((Int32 × Int32 × Int32 × Int32 × Int32 × Int32 × km_S) ⊕ (Int32 × Int32 × Int32 × Int32 × Int32 × km_S)) :=
  some (.inl (x1, x2, x3, x4, x5, (x6 + 1), z))
def fm_countVolume_89 (x1 : Int32) (x2 : Int32) (x3 : Int32) (x4 : Int32) (x5 : Int32) (x6 : Int32) (z : km_S) : Option ((Int32 × Int32 × Int32 × Int32 × Int32 × Int32 × km_S) ⊕ (Int32 × Int32 × Int32 × Int32 × Int32 × km_S)) :=
  if x5 < x6 then
  some (.inr (x1, x2, x3, x4, x5, z))
  else
  (fm_sumOf x6 z).bind fun o1 =>
  (lm_countVolume_107 5000 x1 x2 x3 x4 x5 x6 (o1.1) (0 : Int32) (o1.2)).bind fun r2 =>
  fm_countVolume_167 (r2.1) (r2.2.1) (r2.2.2.1) (r2.2.2.2.1) (r2.2.2.2.2.1) (r2.2.2.2.2.2.1) (r2.2.2.2.2.2.2)
def lm_countVolume_89 (n : Nat) (x1 : Int32) (x2 : Int32) (x3 : Int32) (x4 : Int32) (x5 : Int32) (x6 : Int32) (z : km_S) : Option (Int32 × Int32 × Int32 × Int32 × Int32 × km_S) :=
  kj_it (fun (s : (Int32 × Int32 × Int32 × Int32 × Int32 × Int32 × km_S)) => fm_countVolume_89 (s.1) (s.2.1) (s.2.2.1) (s.2.2.2.1) (s.2.2.2.2.1) (s.2.2.2.2.2.1) (s.2.2.2.2.2.2)) n (x1, x2, x3, x4, x5, x6, z)
def fm_countVolume_77 (x1 : Int32) (x2 : Int32) (x3 : Int32) (x4 : Int32) (x5 : Int32) (z : km_S) : Option ((Int32 × Int32 × Int32 × Int32 × Int32 × km_S) ⊕ (Int32 × Int32 × Int32 × Int32 × km_S)) :=
  if (z.1 5) ≤ x5 then
  some (.inr (x1, x2, x3, x4, z))
  else
  (lm_countVolume_89 5000 x1 x2 x3 x4 x5 (0 : Int32) z).bind fun r1 =>
  some (.inl ((r1.1), (r1.2.1), (r1.2.2.1), (r1.2.2.2.1), ((r1.2.2.2.2.1) + 1), (r1.2.2.2.2.2)))
def lm_countVolume_77 (n : Nat) (x1 : Int32) (x2 : Int32) (x3 : Int32) (x4 : Int32) (x5 : Int32) (z : km_S) : Option (Int32 × Int32 × Int32 × Int32 × km_S) :=
  kj_it (fun (s : (Int32 × Int32 × Int32 × Int32 × Int32 × km_S)) => fm_countVolume_77 (s.1) (s.2.1) (s.2.2.1) (s.2.2.2.1) (s.2.2.2.2.1) (s.2.2.2.2.2)) n (x1, x2, x3, x4, x5, z)
def fm_countVolume_43 (x1 : Int32) (x2 : Int32) (x3 : Int32) (x4 : Int32) (z : km_S) : Option ((Int32 × Int32 × Int32 × Int32 × km_S) ⊕ (Int32 × km_S)) :=
  if x1 ≤ x4 then
  some (.inr (x3, z))
  else
  (lm_countVolume_52 5000 x1 x2 x3 x4 (0 : Int32) z).bind fun r1 =>
  (lm_countVolume_77 5000 (r1.1) (r1.2.1) (r1.2.2.1) (r1.2.2.2.1) (0 : Int32) (r1.2.2.2.2)).bind fun r2 =>
  (fm_bring 14 13 (0 : Int32) (0 : Int32) (3430 : Int32) (r2.2.2.2.2)).bind fun o3 =>
  some (.inl ((r2.1), (r2.2.1), (r2.2.2.1), ((r2.2.2.2.1) + 1), o3))
def lm_countVolume_43 (n : Nat) (x1 : Int32) (x2 : Int32) (x3 : Int32) (x4 : Int32) (z : km_S) : Option (Int32 × km_S) :=
  kj_it (fun (s : (Int32 × Int32 × Int32 × Int32 × km_S)) => fm_countVolume_43 (s.1) (s.2.1) (s.2.2.1) (s.2.2.2.1) (s.2.2.2.2)) n (x1, x2, x3, x4, z)
def fm_countVolume_207 (x3 : Int32) (x4 : Int32) (x5 : Int32) (z : km_S) : Option ((Int32 × Int32 × Int32 × km_S) ⊕ (Int32 × km_S)) :=
  if (z.1 5) ≤ x5 then
  some (.inr (x4, z))
  else
  (km_rd z 13 (((49 : Int32) * x5) + x3)).bind fun v1 =>
  some (.inl (x3, (x4 + v1), (x5 + 1), z))
def lm_countVolume_207 (n : Nat) (x3 : Int32) (x4 : Int32) (x5 : Int32) (z : km_S) : Option (Int32 × km_S) :=
  kj_it (fun (s : (Int32 × Int32 × Int32 × km_S)) => fm_countVolume_207 (s.1) (s.2.1) (s.2.2.1) (s.2.2.2)) n (x3, x4, x5, z)
def fm_countVolume (x1 : Int32) (x2 : Int32) (x3 : Int32) (z : km_S) : Option (Int32 × km_S) :=
  (lm_countVolume_3 5000 x1 x2 x3 (0 : Int32) z).bind fun r1 =>
  (km_wr (r1.2.2.2) 13 ((49 : Int32) * (((r1.2.2.2).1 5) - (1 : Int32))) (1 : Int32)).bind fun z2 =>
  (lm_countVolume_43 5000 (r1.1) (r1.2.1) (r1.2.2.1) (0 : Int32) z2).bind fun r3 =>
  (lm_countVolume_207 5000 (r3.1) (0 : Int32) (0 : Int32) (r3.2)).bind fun r4 =>
  some ((r4.1), (r4.2))
set_option maxRecDepth 20000 in
theorem jm_countVolume_3 {p : Program} {l : Launch} {e : Env} {s : State} {m : MethodId} {args : Array Value} {below : List Frame} {meth : Method} {c : Code} {A : Nat → Prop} {D : va_G} {cA : Nat → ClassId} {h0 : Nat} {q : Nat → Nat} {Q : State → Prop} (F : kj_Fx p s m args meth c cX8_countVolume 9 wsX8_countVolume RX8 (some .int) D (km_T cA) A) {x1 : Int32} {x2 : Int32} {x3 : Int32} {x4 : Int32} {z : km_S} {o : ((Int32 × Int32 × Int32 × Int32 × km_S) ⊕ (Int32 × Int32 × Int32 × km_S))} (h : fm_countVolume_3 x1 x2 x3 x4 z = some o) (kb : ∀ (a0' : Int32) (a1' : Int32) (a2' : Int32) (a3' : Int32) (a4' : km_S), o = .inl (a0', a1', a2', a3', a4') → kj_J p l e rm_X8_countVolume s m args below meth c 0 0 Q 9 D A ((km_w cA h0 q) a4') 3 [(0, .ref h0), (1, .int a0'), (2, .int a1'), (3, .int a2'), (4, .int a3')] []) (ke0 : ∀ (a0' : Int32) (a1' : Int32) (a2' : Int32) (a3' : km_S), o = .inr (a0', a1', a2', a3') → kj_J p l e rm_X8_countVolume s m args below meth c 0 0 Q 9 D A ((km_w cA h0 q) a3') 25 [(0, .ref h0), (1, .int a0'), (2, .int a1'), (3, .int a2')] []) : kj_J p l e rm_X8_countVolume s m args below meth c 0 0 Q 9 D A ((km_w cA h0 q) z) 3 [(0, .ref h0), (1, .int x1), (2, .int x2), (3, .int x3), (4, .int x4)] [] := by
  unfold fm_countVolume_3 at h
  refine kj_iload F dX8_countVolume_3 4 rfl ?_
  refine kj_sipush F dX8_countVolume_5 (v := 3430) (by decide) ?_
  refine kj_icmp_ge F dX8_countVolume_8 (tgt := 25) (by decide) h (fun hc h => ?_) (fun hc h => ?_)
  · refine kj_J.sub [0, 1, 2, 3] rfl ?_
    exact ke0 x1 x2 x3 z (Option.some.inj h).symm
  · refine kj_aload_n F dX8_countVolume_11 0 rfl rfl ?_
    refine km_get F dX8_countVolume_12 in_X8_countVolume 22 (by decide) (by decide +kernel) rfl rfl ?_
    refine kj_iload F dX8_countVolume_15 4 rfl ?_
    refine kj_iconst F dX8_countVolume_17 (v := 0) (by decide) ?_
    refine km_iast F dX8_countVolume_18 13 (by decide) h (fun z1 h => ?_)
    refine kj_iinc F dX8_countVolume_19 4 rfl (v := 1) (by decide) (by decide) (lv' := [(4, .int (x4 + 1)), (0, .ref h0), (1, .int x1), (2, .int x2), (3, .int x3)]) rfl ?_
    refine kj_goto F dX8_countVolume_22 (tgt := 3) (by decide) ?_
    refine kj_J.sub [1, 2, 3, 4, 0] rfl ?_
    exact kb x1 x2 x3 (x4 + 1) z1 (Option.some.inj h).symm
theorem jlm_countVolume_3 {p : Program} {l : Launch} {e : Env} {s : State} {m : MethodId} {args : Array Value} {below : List Frame} {meth : Method} {c : Code} {A : Nat → Prop} {D : va_G} {cA : Nat → ClassId} {h0 : Nat} {q : Nat → Nat} {Q : State → Prop} (F : kj_Fx p s m args meth c cX8_countVolume 9 wsX8_countVolume RX8 (some .int) D (km_T cA) A) {n : Nat} {x1 : Int32} {x2 : Int32} {x3 : Int32} {x4 : Int32} {z : km_S} {r : (Int32 × Int32 × Int32 × km_S)} (h : lm_countVolume_3 n x1 x2 x3 x4 z = some r) (ke : kj_J p l e rm_X8_countVolume s m args below meth c 0 0 Q 9 D A ((km_w cA h0 q) (r.2.2.2)) 25 [(0, .ref h0), (1, .int (r.1)), (2, .int (r.2.1)), (3, .int (r.2.2.1))] []) : kj_J p l e rm_X8_countVolume s m args below meth c 0 0 Q 9 D A ((km_w cA h0 q) z) 3 [(0, .ref h0), (1, .int x1), (2, .int x2), (3, .int x3), (4, .int x4)] [] :=
  kj_it_J (Wh := fun (u : (Int32 × Int32 × Int32 × Int32 × km_S)) => kj_J p l e rm_X8_countVolume s m args below meth c 0 0 Q 9 D A ((km_w cA h0 q) (u.2.2.2.2)) 3 [(0, .ref h0), (1, .int (u.1)), (2, .int (u.2.1)), (3, .int (u.2.2.1)), (4, .int (u.2.2.2.1))] []) (We := fun r => kj_J p l e rm_X8_countVolume s m args below meth c 0 0 Q 9 D A ((km_w cA h0 q) (r.2.2.2)) 25 [(0, .ref h0), (1, .int (r.1)), (2, .int (r.2.1)), (3, .int (r.2.2.1))] []) (fun u o h kb ke => jm_countVolume_3 F h (fun a0' a1' a2' a3' a4' e => kb (a0', a1', a2', a3', a4') e) (fun a0' a1' a2' a3' e => ke (a0', a1', a2', a3') e)) n (x1, x2, x3, x4, z) r h ke
set_option maxRecDepth 20000 in
theorem jm_countVolume_52 {p : Program} {l : Launch} {e : Env} {s : State} {m : MethodId} {args : Array Value} {below : List Frame} {meth : Method} {c : Code} {A : Nat → Prop} {D : va_G} {cA : Nat → ClassId} {h0 : Nat} {q : Nat → Nat} {Q : State → Prop} (F : kj_Fx p s m args meth c cX8_countVolume 9 wsX8_countVolume RX8 (some .int) D (km_T cA) A) {x1 : Int32} {x2 : Int32} {x3 : Int32} {x4 : Int32} {x5 : Int32} {z : km_S} {o : ((Int32 × Int32 × Int32 × Int32 × Int32 × km_S) ⊕ (Int32 × Int32 × Int32 × Int32 × km_S))} (h : fm_countVolume_52 x1 x2 x3 x4 x5 z = some o) (kb : ∀ (a0' : Int32) (a1' : Int32) (a2' : Int32) (a3' : Int32) (a4' : Int32) (a5' : km_S), o = .inl (a0', a1', a2', a3', a4', a5') → kj_J p l e rm_X8_countVolume s m args below meth c 0 0 Q 9 D A ((km_w cA h0 q) a5') 52 [(0, .ref h0), (1, .int a0'), (2, .int a1'), (3, .int a2'), (4, .int a3'), (5, .int a4')] []) (ke0 : ∀ (a0' : Int32) (a1' : Int32) (a2' : Int32) (a3' : Int32) (a4' : km_S), o = .inr (a0', a1', a2', a3', a4') → kj_J p l e rm_X8_countVolume s m args below meth c 0 0 Q 9 D A ((km_w cA h0 q) a4') 74 [(0, .ref h0), (1, .int a0'), (2, .int a1'), (3, .int a2'), (4, .int a3')] []) : kj_J p l e rm_X8_countVolume s m args below meth c 0 0 Q 9 D A ((km_w cA h0 q) z) 52 [(0, .ref h0), (1, .int x1), (2, .int x2), (3, .int x3), (4, .int x4), (5, .int x5)] [] := by
  unfold fm_countVolume_52 at h
  refine kj_iload F dX8_countVolume_52 5 rfl ?_
  refine kj_sipush F dX8_countVolume_54 (v := 3430) (by decide) ?_
  refine kj_icmp_ge F dX8_countVolume_57 (tgt := 74) (by decide) h (fun hc h => ?_) (fun hc h => ?_)
  · refine kj_J.sub [0, 1, 2, 3, 4] rfl ?_
    exact ke0 x1 x2 x3 x4 z (Option.some.inj h).symm
  · refine kj_aload_n F dX8_countVolume_60 0 rfl rfl ?_
    refine km_get F dX8_countVolume_61 in_X8_countVolume 23 (by decide) (by decide +kernel) rfl rfl ?_
    refine kj_iload F dX8_countVolume_64 5 rfl ?_
    refine kj_iconst F dX8_countVolume_66 (v := 0) (by decide) ?_
    refine km_iast F dX8_countVolume_67 14 (by decide) h (fun z1 h => ?_)
    refine kj_iinc F dX8_countVolume_68 5 rfl (v := 1) (by decide) (by decide) (lv' := [(5, .int (x5 + 1)), (0, .ref h0), (1, .int x1), (2, .int x2), (3, .int x3), (4, .int x4)]) rfl ?_
    refine kj_goto F dX8_countVolume_71 (tgt := 52) (by decide) ?_
    refine kj_J.sub [1, 2, 3, 4, 5, 0] rfl ?_
    exact kb x1 x2 x3 x4 (x5 + 1) z1 (Option.some.inj h).symm
theorem jlm_countVolume_52 {p : Program} {l : Launch} {e : Env} {s : State} {m : MethodId} {args : Array Value} {below : List Frame} {meth : Method} {c : Code} {A : Nat → Prop} {D : va_G} {cA : Nat → ClassId} {h0 : Nat} {q : Nat → Nat} {Q : State → Prop} (F : kj_Fx p s m args meth c cX8_countVolume 9 wsX8_countVolume RX8 (some .int) D (km_T cA) A) {n : Nat} {x1 : Int32} {x2 : Int32} {x3 : Int32} {x4 : Int32} {x5 : Int32} {z : km_S} {r : (Int32 × Int32 × Int32 × Int32 × km_S)} (h : lm_countVolume_52 n x1 x2 x3 x4 x5 z = some r) (ke : kj_J p l e rm_X8_countVolume s m args below meth c 0 0 Q 9 D A ((km_w cA h0 q) (r.2.2.2.2)) 74 [(0, .ref h0), (1, .int (r.1)), (2, .int (r.2.1)), (3, .int (r.2.2.1)), (4, .int (r.2.2.2.1))] []) : kj_J p l e rm_X8_countVolume s m args below meth c 0 0 Q 9 D A ((km_w cA h0 q) z) 52 [(0, .ref h0), (1, .int x1), (2, .int x2), (3, .int x3), (4, .int x4), (5, .int x5)] [] :=
  kj_it_J (Wh := fun (u : (Int32 × Int32 × Int32 × Int32 × Int32 × km_S)) => kj_J p l e rm_X8_countVolume s m args below meth c 0 0 Q 9 D A ((km_w cA h0 q) (u.2.2.2.2.2)) 52 [(0, .ref h0), (1, .int (u.1)), (2, .int (u.2.1)), (3, .int (u.2.2.1)), (4, .int (u.2.2.2.1)), (5, .int (u.2.2.2.2.1))] []) (We := fun r => kj_J p l e rm_X8_countVolume s m args below meth c 0 0 Q 9 D A ((km_w cA h0 q) (r.2.2.2.2)) 74 [(0, .ref h0), (1, .int (r.1)), (2, .int (r.2.1)), (3, .int (r.2.2.1)), (4, .int (r.2.2.2.1))] []) (fun u o h kb ke => jm_countVolume_52 F h (fun a0' a1' a2' a3' a4' a5' e => kb (a0', a1', a2', a3', a4', a5') e) (fun a0' a1' a2' a3' a4' e => ke (a0', a1', a2', a3', a4') e)) n (x1, x2, x3, x4, x5, z) r h ke
set_option maxRecDepth 20000 in
theorem jm_countVolume_107 {p : Program} {l : Launch} {e : Env} {s : State} {m : MethodId} {args : Array Value} {below : List Frame} {meth : Method} {c : Code} {A : Nat → Prop} {D : va_G} {cA : Nat → ClassId} {h0 : Nat} {q : Nat → Nat} {Q : State → Prop} (F : kj_Fx p s m args meth c cX8_countVolume 9 wsX8_countVolume RX8 (some .int) D (km_T cA) A) {x1 : Int32} {x2 : Int32} {x3 : Int32} {x4 : Int32} {x5 : Int32} {x6 : Int32} {x7 : Int32} {x8 : Int32} {z : km_S} {o : ((Int32 × Int32 × Int32 × Int32 × Int32 × Int32 × Int32 × Int32 × km_S) ⊕ (Int32 × Int32 × Int32 × Int32 × Int32 × Int32 × km_S))} (h : fm_countVolume_107 x1 x2 x3 x4 x5 x6 x7 x8 z = some o) (kb : ∀ (a0' : Int32) (a1' : Int32) (a2' : Int32) (a3' : Int32) (a4' : Int32) (a5' : Int32) (a6' : Int32) (a7' : Int32) (a8' : km_S), o = .inl (a0', a1', a2', a3', a4', a5', a6', a7', a8') → kj_J p l e rm_X8_countVolume s m args below meth c 0 0 Q 9 D A ((km_w cA h0 q) a8') 107 [(0, .ref h0), (1, .int a0'), (2, .int a1'), (3, .int a2'), (4, .int a3'), (5, .int a4'), (6, .int a5'), (7, .int a6'), (8, .int a7')] []) (ke0 : ∀ (a0' : Int32) (a1' : Int32) (a2' : Int32) (a3' : Int32) (a4' : Int32) (a5' : Int32) (a6' : km_S), o = .inr (a0', a1', a2', a3', a4', a5', a6') → kj_J p l e rm_X8_countVolume s m args below meth c 0 0 Q 9 D A ((km_w cA h0 q) a6') 167 [(0, .ref h0), (1, .int a0'), (2, .int a1'), (3, .int a2'), (4, .int a3'), (5, .int a4'), (6, .int a5')] []) : kj_J p l e rm_X8_countVolume s m args below meth c 0 0 Q 9 D A ((km_w cA h0 q) z) 107 [(0, .ref h0), (1, .int x1), (2, .int x2), (3, .int x3), (4, .int x4), (5, .int x5), (6, .int x6), (7, .int x7), (8, .int x8)] [] := by
  unfold fm_countVolume_107 at h
  refine kj_iload F dX8_countVolume_107 8 rfl ?_
  refine kj_iload F dX8_countVolume_109 7 rfl ?_
  refine kj_iadd F dX8_countVolume_111 ?_
  refine kj_bipush F dX8_countVolume_112 (v := 48) (by decide) ?_
  refine kj_icmp_gt F dX8_countVolume_114 (tgt := 167) (by decide) h (fun hc h => ?_) (fun hc h => ?_)
  · refine kj_J.sub [0, 1, 2, 3, 4, 5, 6] rfl ?_
    exact ke0 x1 x2 x3 x4 x5 x6 z (Option.some.inj h).symm
  · refine kj_aload_n F dX8_countVolume_117 0 rfl rfl ?_
    refine kj_iload F dX8_countVolume_118 6 rfl ?_
    refine kj_iload F dX8_countVolume_120 5 rfl ?_
    refine kj_iload_n F dX8_countVolume_122 2 rfl rfl ?_
    refine kj_cVi (As := [.int x6, .int x5, .int x2]) (rest := []) F dX8_countVolume_123 h (fun o h1 => cm_isUnder h1) (cwV 3 F.2.2.2.2.1 gX8_countVolume_X8_isUnder rfl rfl rfl (by decide +kernel) ⟨Nat.le_of_ble_eq_true rfl, Nat.le_of_ble_eq_true rfl⟩) 0 rfl rfl rfl rfl rfl (Nat.le_of_ble_eq_true rfl) ⟨Nat.zero_le _, Nat.zero_le _⟩ (fun o1 h => ?_)
    refine kj_if_eq F dX8_countVolume_126 (tgt := 167) (by decide) h (fun hc h => ?_) (fun hc h => ?_)
    · refine kj_J.sub [0, 1, 2, 3, 4, 5, 6] rfl ?_
      exact ke0 x1 x2 x3 x4 x5 x6 (o1.2) (Option.some.inj h).symm
    · refine kj_aload_n F dX8_countVolume_129 0 rfl rfl ?_
      refine km_get F dX8_countVolume_130 in_X8_countVolume 23 (by decide) (by decide +kernel) rfl rfl ?_
      refine kj_bipush F dX8_countVolume_133 (v := 49) (by decide) ?_
      refine kj_iload F dX8_countVolume_135 6 rfl ?_
      refine kj_imul F dX8_countVolume_137 ?_
      refine kj_iload F dX8_countVolume_138 8 rfl ?_
      refine kj_iadd F dX8_countVolume_140 ?_
      refine kj_iload F dX8_countVolume_141 7 rfl ?_
      refine kj_iadd F dX8_countVolume_143 ?_
      refine kj_dup2_11 F dX8_countVolume_144 rfl rfl ?_
      refine km_iald F dX8_countVolume_145 14 (by decide) h (fun v2 h => ?_)
      refine kj_aload_n F dX8_countVolume_146 0 rfl rfl ?_
      refine km_get F dX8_countVolume_147 in_X8_countVolume 22 (by decide) (by decide +kernel) rfl rfl ?_
      refine kj_bipush F dX8_countVolume_150 (v := 49) (by decide) ?_
      refine kj_iload F dX8_countVolume_152 5 rfl ?_
      refine kj_imul F dX8_countVolume_154 ?_
      refine kj_iload F dX8_countVolume_155 8 rfl ?_
      refine kj_iadd F dX8_countVolume_157 ?_
      refine km_iald F dX8_countVolume_158 13 (by decide) h (fun v3 h => ?_)
      refine kj_iadd F dX8_countVolume_159 ?_
      refine km_iast F dX8_countVolume_160 14 (by decide) h (fun z4 h => ?_)
      refine kj_iinc F dX8_countVolume_161 8 rfl (v := 1) (by decide) (by decide) (lv' := [(8, .int (x8 + 1)), (0, .ref h0), (1, .int x1), (2, .int x2), (3, .int x3), (4, .int x4), (5, .int x5), (6, .int x6), (7, .int x7)]) rfl ?_
      refine kj_goto F dX8_countVolume_164 (tgt := 107) (by decide) ?_
      refine kj_J.sub [1, 2, 3, 4, 5, 6, 7, 8, 0] rfl ?_
      exact kb x1 x2 x3 x4 x5 x6 x7 (x8 + 1) z4 (Option.some.inj h).symm
theorem jlm_countVolume_107 {p : Program} {l : Launch} {e : Env} {s : State} {m : MethodId} {args : Array Value} {below : List Frame} {meth : Method} {c : Code} {A : Nat → Prop} {D : va_G} {cA : Nat → ClassId} {h0 : Nat} {q : Nat → Nat} {Q : State → Prop} (F : kj_Fx p s m args meth c cX8_countVolume 9 wsX8_countVolume RX8 (some .int) D (km_T cA) A) {n : Nat} {x1 : Int32} {x2 : Int32} {x3 : Int32} {x4 : Int32} {x5 : Int32} {x6 : Int32} {x7 : Int32} {x8 : Int32} {z : km_S} {r : (Int32 × Int32 × Int32 × Int32 × Int32 × Int32 × km_S)} (h : lm_countVolume_107 n x1 x2 x3 x4 x5 x6 x7 x8 z = some r) (ke : kj_J p l e rm_X8_countVolume s m args below meth c 0 0 Q 9 D A ((km_w cA h0 q) (r.2.2.2.2.2.2)) 167 [(0, .ref h0), (1, .int (r.1)), (2, .int (r.2.1)), (3, .int (r.2.2.1)), (4, .int (r.2.2.2.1)), (5, .int (r.2.2.2.2.1)), (6, .int (r.2.2.2.2.2.1))] []) : kj_J p l e rm_X8_countVolume s m args below meth c 0 0 Q 9 D A ((km_w cA h0 q) z) 107 [(0, .ref h0), (1, .int x1), (2, .int x2), (3, .int x3), (4, .int x4), (5, .int x5), (6, .int x6), (7, .int x7), (8, .int x8)] [] :=
  kj_it_J (Wh := fun (u : (Int32 × Int32 × Int32 × Int32 × Int32 × Int32 × Int32 × Int32 × km_S)) => kj_J p l e rm_X8_countVolume s m args below meth c 0 0 Q 9 D A ((km_w cA h0 q) (u.2.2.2.2.2.2.2.2)) 107 [(0, .ref h0), (1, .int (u.1)), (2, .int (u.2.1)), (3, .int (u.2.2.1)), (4, .int (u.2.2.2.1)), (5, .int (u.2.2.2.2.1)), (6, .int (u.2.2.2.2.2.1)), (7, .int (u.2.2.2.2.2.2.1)), (8, .int (u.2.2.2.2.2.2.2.1))] []) (We := fun r => kj_J p l e rm_X8_countVolume s m args below meth c 0 0 Q 9 D A ((km_w cA h0 q) (r.2.2.2.2.2.2)) 167 [(0, .ref h0), (1, .int (r.1)), (2, .int (r.2.1)), (3, .int (r.2.2.1)), (4, .int (r.2.2.2.1)), (5, .int (r.2.2.2.2.1)), (6, .int (r.2.2.2.2.2.1))] []) (fun u o h kb ke => jm_countVolume_107 F h (fun a0' a1' a2' a3' a4' a5' a6' a7' a8' e => kb (a0', a1', a2', a3', a4', a5', a6', a7', a8') e) (fun a0' a1' a2' a3' a4' a5' a6' e => ke (a0', a1', a2', a3', a4', a5', a6') e)) n (x1, x2, x3, x4, x5, x6, x7, x8, z) r h ke
set_option maxRecDepth 20000 in
theorem jm_countVolume_167 {p : Program} {l : Launch} {e : Env} {s : State} {m : MethodId} {args : Array Value} {below : List Frame} {meth : Method} {c : Code} {A : Nat → Prop} {D : va_G} {cA : Nat → ClassId} {h0 : Nat} {q : Nat → Nat} {Q : State → Prop} (F : kj_Fx p s m args meth c cX8_countVolume 9 wsX8_countVolume RX8 (some .int) D (km_T cA) A) {x1 : Int32} {x2 : Int32} {x3 : Int32} {x4 : Int32} {x5 : Int32} {x6 : Int32} {z : km_S} {o : ((Int32 × Int32 × Int32 × Int32 × Int32 × Int32 × km_S) ⊕ (Int32 × Int32 × Int32 × Int32 × Int32 × km_S))} (h : fm_countVolume_167 x1 x2 x3 x4 x5 x6 z = some o) (kb : ∀ (a0' : Int32) (a1' : Int32) (a2' : Int32) (a3' : Int32) (a4' : Int32) (a5' : Int32) (a6' : km_S), o = .inl (a0', a1', a2', a3', a4', a5', a6') → kj_J p l e rm_X8_countVolume s m args below meth c 0 0 Q 9 D A ((km_w cA h0 q) a6') 89 [(0, .ref h0), (1, .int a0'), (2, .int a1'), (3, .int a2'), (4, .int a3'), (5, .int a4'), (6, .int a5')] []) (ke0 : ∀ (a0' : Int32) (a1' : Int32) (a2' : Int32) (a3' : Int32) (a4' : Int32) (a5' : km_S), o = .inr (a0', a1', a2', a3', a4', a5') → kj_J p l e rm_X8_countVolume s m args below meth c 0 0 Q 9 D A ((km_w cA h0 q) a5') 173 [(0, .ref h0), (1, .int a0'), (2, .int a1'), (3, .int a2'), (4, .int a3'), (5, .int a4')] []) : kj_J p l e rm_X8_countVolume s m args below meth c 0 0 Q 9 D A ((km_w cA h0 q) z) 167 [(0, .ref h0), (1, .int x1), (2, .int x2), (3, .int x3), (4, .int x4), (5, .int x5), (6, .int x6)] [] := by
  unfold fm_countVolume_167 at h
  refine kj_iinc F dX8_countVolume_167 6 rfl (v := 1) (by decide) (by decide) (lv' := [(6, .int (x6 + 1)), (0, .ref h0), (1, .int x1), (2, .int x2), (3, .int x3), (4, .int x4), (5, .int x5)]) rfl ?_
  refine kj_goto F dX8_countVolume_170 (tgt := 89) (by decide) ?_
  refine kj_J.sub [1, 2, 3, 4, 5, 6, 0] rfl ?_
  exact kb x1 x2 x3 x4 x5 (x6 + 1) z (Option.some.inj h).symm
set_option maxRecDepth 20000 in
theorem jm_countVolume_89 {p : Program} {l : Launch} {e : Env} {s : State} {m : MethodId} {args : Array Value} {below : List Frame} {meth : Method} {c : Code} {A : Nat → Prop} {D : va_G} {cA : Nat → ClassId} {h0 : Nat} {q : Nat → Nat} {Q : State → Prop} (F : kj_Fx p s m args meth c cX8_countVolume 9 wsX8_countVolume RX8 (some .int) D (km_T cA) A) {x1 : Int32} {x2 : Int32} {x3 : Int32} {x4 : Int32} {x5 : Int32} {x6 : Int32} {z : km_S} {o : ((Int32 × Int32 × Int32 × Int32 × Int32 × Int32 × km_S) ⊕ (Int32 × Int32 × Int32 × Int32 × Int32 × km_S))} (h : fm_countVolume_89 x1 x2 x3 x4 x5 x6 z = some o) (kb : ∀ (a0' : Int32) (a1' : Int32) (a2' : Int32) (a3' : Int32) (a4' : Int32) (a5' : Int32) (a6' : km_S), o = .inl (a0', a1', a2', a3', a4', a5', a6') → kj_J p l e rm_X8_countVolume s m args below meth c 0 0 Q 9 D A ((km_w cA h0 q) a6') 89 [(0, .ref h0), (1, .int a0'), (2, .int a1'), (3, .int a2'), (4, .int a3'), (5, .int a4'), (6, .int a5')] []) (ke0 : ∀ (a0' : Int32) (a1' : Int32) (a2' : Int32) (a3' : Int32) (a4' : Int32) (a5' : km_S), o = .inr (a0', a1', a2', a3', a4', a5') → kj_J p l e rm_X8_countVolume s m args below meth c 0 0 Q 9 D A ((km_w cA h0 q) a5') 173 [(0, .ref h0), (1, .int a0'), (2, .int a1'), (3, .int a2'), (4, .int a3'), (5, .int a4')] []) : kj_J p l e rm_X8_countVolume s m args below meth c 0 0 Q 9 D A ((km_w cA h0 q) z) 89 [(0, .ref h0), (1, .int x1), (2, .int x2), (3, .int x3), (4, .int x4), (5, .int x5), (6, .int x6)] [] := by
  unfold fm_countVolume_89 at h
  refine kj_iload F dX8_countVolume_89 6 rfl ?_
  refine kj_iload F dX8_countVolume_91 5 rfl ?_
  refine kj_icmp_gt F dX8_countVolume_93 (tgt := 173) (by decide) h (fun hc h => ?_) (fun hc h => ?_)
  · refine kj_J.sub [0, 1, 2, 3, 4, 5] rfl ?_
    exact ke0 x1 x2 x3 x4 x5 z (Option.some.inj h).symm
  · refine kj_aload_n F dX8_countVolume_96 0 rfl rfl ?_
    refine kj_iload F dX8_countVolume_97 6 rfl ?_
    refine kj_cVi (As := [.int x6]) (rest := []) F dX8_countVolume_99 h (fun o h1 => cm_sumOf h1) (cwV 1 F.2.2.2.2.1 gX8_countVolume_X8_sumOf rfl rfl rfl (by decide +kernel) ⟨Nat.le_of_ble_eq_true rfl, Nat.le_of_ble_eq_true rfl⟩) 0 rfl rfl rfl rfl rfl (Nat.le_of_ble_eq_true rfl) ⟨Nat.zero_le _, Nat.zero_le _⟩ (fun o1 h => ?_)
    refine kj_istore F dX8_countVolume_102 (lv' := [(7, .int (o1.1)), (0, .ref h0), (1, .int x1), (2, .int x2), (3, .int x3), (4, .int x4), (5, .int x5), (6, .int x6)]) (by decide) rfl ?_
    refine kj_iconst F dX8_countVolume_104 (v := 0) (by decide) ?_
    refine kj_istore F dX8_countVolume_105 (lv' := [(8, .int (0 : Int32)), (7, .int (o1.1)), (0, .ref h0), (1, .int x1), (2, .int x2), (3, .int x3), (4, .int x4), (5, .int x5), (6, .int x6)]) (by decide) rfl ?_
    refine kj_J.sub [2, 3, 4, 5, 6, 7, 8, 1, 0] rfl ?_
    refine kj_bn h (fun r2 h1 h => ?_)
    refine jlm_countVolume_107 F h1 ?_
    exact jm_countVolume_167 F h kb ke0
theorem jlm_countVolume_89 {p : Program} {l : Launch} {e : Env} {s : State} {m : MethodId} {args : Array Value} {below : List Frame} {meth : Method} {c : Code} {A : Nat → Prop} {D : va_G} {cA : Nat → ClassId} {h0 : Nat} {q : Nat → Nat} {Q : State → Prop} (F : kj_Fx p s m args meth c cX8_countVolume 9 wsX8_countVolume RX8 (some .int) D (km_T cA) A) {n : Nat} {x1 : Int32} {x2 : Int32} {x3 : Int32} {x4 : Int32} {x5 : Int32} {x6 : Int32} {z : km_S} {r : (Int32 × Int32 × Int32 × Int32 × Int32 × km_S)} (h : lm_countVolume_89 n x1 x2 x3 x4 x5 x6 z = some r) (ke : kj_J p l e rm_X8_countVolume s m args below meth c 0 0 Q 9 D A ((km_w cA h0 q) (r.2.2.2.2.2)) 173 [(0, .ref h0), (1, .int (r.1)), (2, .int (r.2.1)), (3, .int (r.2.2.1)), (4, .int (r.2.2.2.1)), (5, .int (r.2.2.2.2.1))] []) : kj_J p l e rm_X8_countVolume s m args below meth c 0 0 Q 9 D A ((km_w cA h0 q) z) 89 [(0, .ref h0), (1, .int x1), (2, .int x2), (3, .int x3), (4, .int x4), (5, .int x5), (6, .int x6)] [] :=
  kj_it_J (Wh := fun (u : (Int32 × Int32 × Int32 × Int32 × Int32 × Int32 × km_S)) => kj_J p l e rm_X8_countVolume s m args below meth c 0 0 Q 9 D A ((km_w cA h0 q) (u.2.2.2.2.2.2)) 89 [(0, .ref h0), (1, .int (u.1)), (2, .int (u.2.1)), (3, .int (u.2.2.1)), (4, .int (u.2.2.2.1)), (5, .int (u.2.2.2.2.1)), (6, .int (u.2.2.2.2.2.1))] []) (We := fun r => kj_J p l e rm_X8_countVolume s m args below meth c 0 0 Q 9 D A ((km_w cA h0 q) (r.2.2.2.2.2)) 173 [(0, .ref h0), (1, .int (r.1)), (2, .int (r.2.1)), (3, .int (r.2.2.1)), (4, .int (r.2.2.2.1)), (5, .int (r.2.2.2.2.1))] []) (fun u o h kb ke => jm_countVolume_89 F h (fun a0' a1' a2' a3' a4' a5' a6' e => kb (a0', a1', a2', a3', a4', a5', a6') e) (fun a0' a1' a2' a3' a4' a5' e => ke (a0', a1', a2', a3', a4', a5') e)) n (x1, x2, x3, x4, x5, x6, z) r h ke
set_option maxRecDepth 20000 in
theorem jm_countVolume_77 {p : Program} {l : Launch} {e : Env} {s : State} {m : MethodId} {args : Array Value} {below : List Frame} {meth : Method} {c : Code} {A : Nat → Prop} {D : va_G} {cA : Nat → ClassId} {h0 : Nat} {q : Nat → Nat} {Q : State → Prop} (F : kj_Fx p s m args meth c cX8_countVolume 9 wsX8_countVolume RX8 (some .int) D (km_T cA) A) {x1 : Int32} {x2 : Int32} {x3 : Int32} {x4 : Int32} {x5 : Int32} {z : km_S} {o : ((Int32 × Int32 × Int32 × Int32 × Int32 × km_S) ⊕ (Int32 × Int32 × Int32 × Int32 × km_S))} (h : fm_countVolume_77 x1 x2 x3 x4 x5 z = some o) (kb : ∀ (a0' : Int32) (a1' : Int32) (a2' : Int32) (a3' : Int32) (a4' : Int32) (a5' : km_S), o = .inl (a0', a1', a2', a3', a4', a5') → kj_J p l e rm_X8_countVolume s m args below meth c 0 0 Q 9 D A ((km_w cA h0 q) a5') 77 [(0, .ref h0), (1, .int a0'), (2, .int a1'), (3, .int a2'), (4, .int a3'), (5, .int a4')] []) (ke0 : ∀ (a0' : Int32) (a1' : Int32) (a2' : Int32) (a3' : Int32) (a4' : km_S), o = .inr (a0', a1', a2', a3', a4') → kj_J p l e rm_X8_countVolume s m args below meth c 0 0 Q 9 D A ((km_w cA h0 q) a4') 179 [(0, .ref h0), (1, .int a0'), (2, .int a1'), (3, .int a2'), (4, .int a3')] []) : kj_J p l e rm_X8_countVolume s m args below meth c 0 0 Q 9 D A ((km_w cA h0 q) z) 77 [(0, .ref h0), (1, .int x1), (2, .int x2), (3, .int x3), (4, .int x4), (5, .int x5)] [] := by
  unfold fm_countVolume_77 at h
  refine kj_iload F dX8_countVolume_77 5 rfl ?_
  refine kj_aload_n F dX8_countVolume_79 0 rfl rfl ?_
  refine km_get F dX8_countVolume_80 in_X8_countVolume 14 (by decide) (by decide +kernel) rfl rfl ?_
  refine kj_icmp_ge F dX8_countVolume_83 (tgt := 179) (by decide) h (fun hc h => ?_) (fun hc h => ?_)
  · refine kj_J.sub [0, 1, 2, 3, 4] rfl ?_
    exact ke0 x1 x2 x3 x4 z (Option.some.inj h).symm
  · refine kj_iconst F dX8_countVolume_86 (v := 0) (by decide) ?_
    refine kj_istore F dX8_countVolume_87 (lv' := [(6, .int (0 : Int32)), (0, .ref h0), (1, .int x1), (2, .int x2), (3, .int x3), (4, .int x4), (5, .int x5)]) (by decide) rfl ?_
    refine kj_J.sub [1, 2, 3, 4, 5, 6, 0] rfl ?_
    refine kj_bn h (fun r1 h1 h => ?_)
    refine jlm_countVolume_89 F h1 ?_
    refine kj_iinc F dX8_countVolume_173 5 rfl (v := 1) (by decide) (by decide) (lv' := [(5, .int ((r1.2.2.2.2.1) + 1)), (0, .ref h0), (1, .int (r1.1)), (2, .int (r1.2.1)), (3, .int (r1.2.2.1)), (4, .int (r1.2.2.2.1))]) rfl ?_
    refine kj_goto F dX8_countVolume_176 (tgt := 77) (by decide) ?_
    refine kj_J.sub [1, 2, 3, 4, 5, 0] rfl ?_
    exact kb (r1.1) (r1.2.1) (r1.2.2.1) (r1.2.2.2.1) ((r1.2.2.2.2.1) + 1) (r1.2.2.2.2.2) (Option.some.inj h).symm
theorem jlm_countVolume_77 {p : Program} {l : Launch} {e : Env} {s : State} {m : MethodId} {args : Array Value} {below : List Frame} {meth : Method} {c : Code} {A : Nat → Prop} {D : va_G} {cA : Nat → ClassId} {h0 : Nat} {q : Nat → Nat} {Q : State → Prop} (F : kj_Fx p s m args meth c cX8_countVolume 9 wsX8_countVolume RX8 (some .int) D (km_T cA) A) {n : Nat} {x1 : Int32} {x2 : Int32} {x3 : Int32} {x4 : Int32} {x5 : Int32} {z : km_S} {r : (Int32 × Int32 × Int32 × Int32 × km_S)} (h : lm_countVolume_77 n x1 x2 x3 x4 x5 z = some r) (ke : kj_J p l e rm_X8_countVolume s m args below meth c 0 0 Q 9 D A ((km_w cA h0 q) (r.2.2.2.2)) 179 [(0, .ref h0), (1, .int (r.1)), (2, .int (r.2.1)), (3, .int (r.2.2.1)), (4, .int (r.2.2.2.1))] []) : kj_J p l e rm_X8_countVolume s m args below meth c 0 0 Q 9 D A ((km_w cA h0 q) z) 77 [(0, .ref h0), (1, .int x1), (2, .int x2), (3, .int x3), (4, .int x4), (5, .int x5)] [] :=
  kj_it_J (Wh := fun (u : (Int32 × Int32 × Int32 × Int32 × Int32 × km_S)) => kj_J p l e rm_X8_countVolume s m args below meth c 0 0 Q 9 D A ((km_w cA h0 q) (u.2.2.2.2.2)) 77 [(0, .ref h0), (1, .int (u.1)), (2, .int (u.2.1)), (3, .int (u.2.2.1)), (4, .int (u.2.2.2.1)), (5, .int (u.2.2.2.2.1))] []) (We := fun r => kj_J p l e rm_X8_countVolume s m args below meth c 0 0 Q 9 D A ((km_w cA h0 q) (r.2.2.2.2)) 179 [(0, .ref h0), (1, .int (r.1)), (2, .int (r.2.1)), (3, .int (r.2.2.1)), (4, .int (r.2.2.2.1))] []) (fun u o h kb ke => jm_countVolume_77 F h (fun a0' a1' a2' a3' a4' a5' e => kb (a0', a1', a2', a3', a4', a5') e) (fun a0' a1' a2' a3' a4' e => ke (a0', a1', a2', a3', a4') e)) n (x1, x2, x3, x4, x5, z) r h ke
set_option maxRecDepth 20000 in
theorem jm_countVolume_43 {p : Program} {l : Launch} {e : Env} {s : State} {m : MethodId} {args : Array Value} {below : List Frame} {meth : Method} {c : Code} {A : Nat → Prop} {D : va_G} {cA : Nat → ClassId} {h0 : Nat} {q : Nat → Nat} {Q : State → Prop} (F : kj_Fx p s m args meth c cX8_countVolume 9 wsX8_countVolume RX8 (some .int) D (km_T cA) A) {x1 : Int32} {x2 : Int32} {x3 : Int32} {x4 : Int32} {z : km_S} {o : ((Int32 × Int32 × Int32 × Int32 × km_S) ⊕ (Int32 × km_S))} (h : fm_countVolume_43 x1 x2 x3 x4 z = some o) (kb : ∀ (a0' : Int32) (a1' : Int32) (a2' : Int32) (a3' : Int32) (a4' : km_S), o = .inl (a0', a1', a2', a3', a4') → kj_J p l e rm_X8_countVolume s m args below meth c 0 0 Q 9 D A ((km_w cA h0 q) a4') 43 [(0, .ref h0), (1, .int a0'), (2, .int a1'), (3, .int a2'), (4, .int a3')] []) (ke0 : ∀ (a0' : Int32) (a1' : km_S), o = .inr (a0', a1') → kj_J p l e rm_X8_countVolume s m args below meth c 0 0 Q 9 D A ((km_w cA h0 q) a1') 201 [(0, .ref h0), (3, .int a0')] []) : kj_J p l e rm_X8_countVolume s m args below meth c 0 0 Q 9 D A ((km_w cA h0 q) z) 43 [(0, .ref h0), (1, .int x1), (2, .int x2), (3, .int x3), (4, .int x4)] [] := by
  unfold fm_countVolume_43 at h
  refine kj_iload F dX8_countVolume_43 4 rfl ?_
  refine kj_iload_n F dX8_countVolume_45 1 rfl rfl ?_
  refine kj_icmp_ge F dX8_countVolume_46 (tgt := 201) (by decide) h (fun hc h => ?_) (fun hc h => ?_)
  · refine kj_J.sub [0, 3] rfl ?_
    exact ke0 x3 z (Option.some.inj h).symm
  · refine kj_iconst F dX8_countVolume_49 (v := 0) (by decide) ?_
    refine kj_istore F dX8_countVolume_50 (lv' := [(5, .int (0 : Int32)), (0, .ref h0), (1, .int x1), (2, .int x2), (3, .int x3), (4, .int x4)]) (by decide) rfl ?_
    refine kj_J.sub [1, 2, 3, 4, 5, 0] rfl ?_
    refine kj_bn h (fun r1 h1 h => ?_)
    refine jlm_countVolume_52 F h1 ?_
    refine kj_iconst F dX8_countVolume_74 (v := 0) (by decide) ?_
    refine kj_istore F dX8_countVolume_75 (lv' := [(5, .int (0 : Int32)), (0, .ref h0), (1, .int (r1.1)), (2, .int (r1.2.1)), (3, .int (r1.2.2.1)), (4, .int (r1.2.2.2.1))]) (by decide) rfl ?_
    refine kj_J.sub [1, 2, 3, 4, 5, 0] rfl ?_
    refine kj_bn h (fun r2 h1 h => ?_)
    refine jlm_countVolume_77 F h1 ?_
    refine kj_aload_n F dX8_countVolume_179 0 rfl rfl ?_
    refine km_get F dX8_countVolume_180 in_X8_countVolume 23 (by decide) (by decide +kernel) rfl rfl ?_
    refine kj_iconst F dX8_countVolume_183 (v := 0) (by decide) ?_
    refine kj_aload_n F dX8_countVolume_184 0 rfl rfl ?_
    refine km_get F dX8_countVolume_185 in_X8_countVolume 22 (by decide) (by decide +kernel) rfl rfl ?_
    refine kj_iconst F dX8_countVolume_188 (v := 0) (by decide) ?_
    refine kj_sipush F dX8_countVolume_189 (v := 3430) (by decide) ?_
    refine kj_cSv (As := [.ref (q 14), .int (0 : Int32), .ref (q 13), .int (0 : Int32), .int (3430 : Int32)]) (rest := []) F dX8_countVolume_192 h (fun o h1 => cm_bring (by decide) (by decide) h1) (va_cwS 5 F.2.2.2.2.1 gX8_countVolume_X8_bring rfl rfl rfl (by decide +kernel) ⟨Nat.le_of_ble_eq_true rfl, Nat.le_of_ble_eq_true rfl⟩) rfl rfl (Nat.le_of_ble_eq_true rfl) ⟨Nat.zero_le _, Nat.zero_le _⟩ (fun o3 h => ?_)
    refine kj_iinc F dX8_countVolume_195 4 rfl (v := 1) (by decide) (by decide) (lv' := [(4, .int ((r2.2.2.2.1) + 1)), (0, .ref h0), (1, .int (r2.1)), (2, .int (r2.2.1)), (3, .int (r2.2.2.1))]) rfl ?_
    refine kj_goto F dX8_countVolume_198 (tgt := 43) (by decide) ?_
    refine kj_J.sub [1, 2, 3, 4, 0] rfl ?_
    exact kb (r2.1) (r2.2.1) (r2.2.2.1) ((r2.2.2.2.1) + 1) o3 (Option.some.inj h).symm
theorem jlm_countVolume_43 {p : Program} {l : Launch} {e : Env} {s : State} {m : MethodId} {args : Array Value} {below : List Frame} {meth : Method} {c : Code} {A : Nat → Prop} {D : va_G} {cA : Nat → ClassId} {h0 : Nat} {q : Nat → Nat} {Q : State → Prop} (F : kj_Fx p s m args meth c cX8_countVolume 9 wsX8_countVolume RX8 (some .int) D (km_T cA) A) {n : Nat} {x1 : Int32} {x2 : Int32} {x3 : Int32} {x4 : Int32} {z : km_S} {r : (Int32 × km_S)} (h : lm_countVolume_43 n x1 x2 x3 x4 z = some r) (ke : kj_J p l e rm_X8_countVolume s m args below meth c 0 0 Q 9 D A ((km_w cA h0 q) (r.2)) 201 [(0, .ref h0), (3, .int (r.1))] []) : kj_J p l e rm_X8_countVolume s m args below meth c 0 0 Q 9 D A ((km_w cA h0 q) z) 43 [(0, .ref h0), (1, .int x1), (2, .int x2), (3, .int x3), (4, .int x4)] [] :=
  kj_it_J (Wh := fun (u : (Int32 × Int32 × Int32 × Int32 × km_S)) => kj_J p l e rm_X8_countVolume s m args below meth c 0 0 Q 9 D A ((km_w cA h0 q) (u.2.2.2.2)) 43 [(0, .ref h0), (1, .int (u.1)), (2, .int (u.2.1)), (3, .int (u.2.2.1)), (4, .int (u.2.2.2.1))] []) (We := fun r => kj_J p l e rm_X8_countVolume s m args below meth c 0 0 Q 9 D A ((km_w cA h0 q) (r.2)) 201 [(0, .ref h0), (3, .int (r.1))] []) (fun u o h kb ke => jm_countVolume_43 F h (fun a0' a1' a2' a3' a4' e => kb (a0', a1', a2', a3', a4') e) (fun a0' a1' e => ke (a0', a1') e)) n (x1, x2, x3, x4, z) r h ke
set_option maxRecDepth 20000 in
theorem jm_countVolume_207 {p : Program} {l : Launch} {e : Env} {s : State} {m : MethodId} {args : Array Value} {below : List Frame} {meth : Method} {c : Code} {A : Nat → Prop} {D : va_G} {cA : Nat → ClassId} {h0 : Nat} {q : Nat → Nat} {Q : State → Prop} (F : kj_Fx p s m args meth c cX8_countVolume 9 wsX8_countVolume RX8 (some .int) D (km_T cA) A) {x3 : Int32} {x4 : Int32} {x5 : Int32} {z : km_S} {o : ((Int32 × Int32 × Int32 × km_S) ⊕ (Int32 × km_S))} (h : fm_countVolume_207 x3 x4 x5 z = some o) (kb : ∀ (a0' : Int32) (a1' : Int32) (a2' : Int32) (a3' : km_S), o = .inl (a0', a1', a2', a3') → kj_J p l e rm_X8_countVolume s m args below meth c 0 0 Q 9 D A ((km_w cA h0 q) a3') 207 [(0, .ref h0), (3, .int a0'), (4, .int a1'), (5, .int a2')] []) (ke0 : ∀ (a0' : Int32) (a1' : km_S), o = .inr (a0', a1') → kj_J p l e rm_X8_countVolume s m args below meth c 0 0 Q 9 D A ((km_w cA h0 q) a1') 239 [(4, .int a0')] []) : kj_J p l e rm_X8_countVolume s m args below meth c 0 0 Q 9 D A ((km_w cA h0 q) z) 207 [(0, .ref h0), (3, .int x3), (4, .int x4), (5, .int x5)] [] := by
  unfold fm_countVolume_207 at h
  refine kj_iload F dX8_countVolume_207 3 rfl ?_
  refine kj_aload_n F dX8_countVolume_209 0 rfl rfl ?_
  refine km_get F dX8_countVolume_210 in_X8_countVolume 14 (by decide) (by decide +kernel) rfl rfl ?_
  refine kj_icmp_ge F dX8_countVolume_213 (tgt := 239) (by decide) h (fun hc h => ?_) (fun hc h => ?_)
  · refine kj_J.sub [2] rfl ?_
    exact ke0 x4 z (Option.some.inj h).symm
  · refine kj_iload F dX8_countVolume_216 2 rfl ?_
    refine kj_aload_n F dX8_countVolume_218 0 rfl rfl ?_
    refine km_get F dX8_countVolume_219 in_X8_countVolume 22 (by decide) (by decide +kernel) rfl rfl ?_
    refine kj_bipush F dX8_countVolume_222 (v := 49) (by decide) ?_
    refine kj_iload F dX8_countVolume_224 3 rfl ?_
    refine kj_imul F dX8_countVolume_226 ?_
    refine kj_iload_n F dX8_countVolume_227 1 rfl rfl ?_
    refine kj_iadd F dX8_countVolume_228 ?_
    refine km_iald F dX8_countVolume_229 13 (by decide) h (fun v1 h => ?_)
    refine kj_iadd F dX8_countVolume_230 ?_
    refine kj_istore F dX8_countVolume_231 (lv' := [(4, .int (x4 + v1)), (0, .ref h0), (3, .int x3), (5, .int x5)]) (by decide) rfl ?_
    refine kj_iinc F dX8_countVolume_233 3 rfl (v := 1) (by decide) (by decide) (lv' := [(5, .int (x5 + 1)), (4, .int (x4 + v1)), (0, .ref h0), (3, .int x3)]) rfl ?_
    refine kj_goto F dX8_countVolume_236 (tgt := 207) (by decide) ?_
    refine kj_J.sub [2, 3, 1, 0] rfl ?_
    exact kb x3 (x4 + v1) (x5 + 1) z (Option.some.inj h).symm
theorem jlm_countVolume_207 {p : Program} {l : Launch} {e : Env} {s : State} {m : MethodId} {args : Array Value} {below : List Frame} {meth : Method} {c : Code} {A : Nat → Prop} {D : va_G} {cA : Nat → ClassId} {h0 : Nat} {q : Nat → Nat} {Q : State → Prop} (F : kj_Fx p s m args meth c cX8_countVolume 9 wsX8_countVolume RX8 (some .int) D (km_T cA) A) {n : Nat} {x3 : Int32} {x4 : Int32} {x5 : Int32} {z : km_S} {r : (Int32 × km_S)} (h : lm_countVolume_207 n x3 x4 x5 z = some r) (ke : kj_J p l e rm_X8_countVolume s m args below meth c 0 0 Q 9 D A ((km_w cA h0 q) (r.2)) 239 [(4, .int (r.1))] []) : kj_J p l e rm_X8_countVolume s m args below meth c 0 0 Q 9 D A ((km_w cA h0 q) z) 207 [(0, .ref h0), (3, .int x3), (4, .int x4), (5, .int x5)] [] :=
  kj_it_J (Wh := fun (u : (Int32 × Int32 × Int32 × km_S)) => kj_J p l e rm_X8_countVolume s m args below meth c 0 0 Q 9 D A ((km_w cA h0 q) (u.2.2.2)) 207 [(0, .ref h0), (3, .int (u.1)), (4, .int (u.2.1)), (5, .int (u.2.2.1))] []) (We := fun r => kj_J p l e rm_X8_countVolume s m args below meth c 0 0 Q 9 D A ((km_w cA h0 q) (r.2)) 239 [(4, .int (r.1))] []) (fun u o h kb ke => jm_countVolume_207 F h (fun a0' a1' a2' a3' e => kb (a0', a1', a2', a3') e) (fun a0' a1' e => ke (a0', a1') e)) n (x3, x4, x5, z) r h ke
set_option maxRecDepth 20000 in
theorem jm_countVolume {p : Program} {l : Launch} {e : Env} {s : State} {m : MethodId} {args : Array Value} {below : List Frame} {meth : Method} {c : Code} {A : Nat → Prop} {D : va_G} {cA : Nat → ClassId} {h0 : Nat} {q : Nat → Nat} (F : kj_Fx p s m args meth c cX8_countVolume 9 wsX8_countVolume RX8 (some .int) D (km_T cA) A) {x1 : Int32} {x2 : Int32} {x3 : Int32} {z : km_S} {o : (Int32 × km_S)} (h : fm_countVolume x1 x2 x3 z = some o) : kj_J p l e rm_X8_countVolume s m args below meth c 0 0 (MQ below (kj_Qi D (km_T cA) A (km_w cA h0 q) o) args s 0 0 A) 9 D A ((km_w cA h0 q) z) 0 [(0, .ref h0), (1, .int x1), (2, .int x2), (3, .int x3)] [] := by
  unfold fm_countVolume at h
  refine kj_iconst F dX8_countVolume_0 (v := 0) (by decide) ?_
  refine kj_istore F dX8_countVolume_1 (lv' := [(4, .int (0 : Int32)), (0, .ref h0), (1, .int x1), (2, .int x2), (3, .int x3)]) (by decide) rfl ?_
  refine kj_J.sub [1, 2, 3, 4, 0] rfl ?_
  refine kj_bn h (fun r1 h1 h => ?_)
  refine jlm_countVolume_3 F h1 ?_
  refine kj_aload_n F dX8_countVolume_25 0 rfl rfl ?_
  refine km_get F dX8_countVolume_26 in_X8_countVolume 22 (by decide) (by decide +kernel) rfl rfl ?_
  refine kj_bipush F dX8_countVolume_29 (v := 49) (by decide) ?_
  refine kj_aload_n F dX8_countVolume_31 0 rfl rfl ?_
  refine km_get F dX8_countVolume_32 in_X8_countVolume 14 (by decide) (by decide +kernel) rfl rfl ?_
  refine kj_iconst F dX8_countVolume_35 (v := 1) (by decide) ?_
  refine kj_isub F dX8_countVolume_36 ?_
  refine kj_imul F dX8_countVolume_37 ?_
  refine kj_iconst F dX8_countVolume_38 (v := 1) (by decide) ?_
  refine km_iast F dX8_countVolume_39 13 (by decide) h (fun z2 h => ?_)
  refine kj_iconst F dX8_countVolume_40 (v := 0) (by decide) ?_
  refine kj_istore F dX8_countVolume_41 (lv' := [(4, .int (0 : Int32)), (0, .ref h0), (1, .int (r1.1)), (2, .int (r1.2.1)), (3, .int (r1.2.2.1))]) (by decide) rfl ?_
  refine kj_J.sub [1, 2, 3, 4, 0] rfl ?_
  refine kj_bn h (fun r3 h1 h => ?_)
  refine jlm_countVolume_43 F h1 ?_
  refine kj_iconst F dX8_countVolume_201 (v := 0) (by decide) ?_
  refine kj_istore F dX8_countVolume_202 (lv' := [(4, .int (0 : Int32)), (0, .ref h0), (3, .int (r3.1))]) (by decide) rfl ?_
  refine kj_iconst F dX8_countVolume_204 (v := 0) (by decide) ?_
  refine kj_istore F dX8_countVolume_205 (lv' := [(5, .int (0 : Int32)), (4, .int (0 : Int32)), (0, .ref h0), (3, .int (r3.1))]) (by decide) rfl ?_
  refine kj_J.sub [2, 3, 1, 0] rfl ?_
  refine kj_bn h (fun r4 h1 h => ?_)
  refine jlm_countVolume_207 F h1 ?_
  refine kj_iload F dX8_countVolume_239 0 rfl ?_
  exact kj_iret F dX8_countVolume_241 h
theorem cm_countVolume {l : Launch} {D : va_G} {cA : Nat → ClassId} {h0 : Nat} {q : Nat → Nat} {x1 : Int32} {x2 : Int32} {x3 : Int32} {z : km_S} {o : (Int32 × km_S)} (h : fm_countVolume x1 x2 x3 z = some o) : kj_Mi l yX8_countVolume wsX8_countVolume rm_X8_countVolume D (km_T cA) (km_w cA h0 q) z [.ref h0, .int x1, .int x2, .int x3] o :=
  fun sz => kj_start (by decide) rfl (Nat.le_of_ble_eq_true rfl) rfl fun p e s m args below meth c hsz F => jm_countVolume F h
/-! X8_series -/
abbrev rm_X8_series : Room := { frames := 2, cells := 0, slots := 0, locals := 53 }
theorem in_X8_series : ∀ w ∈ u_ws RX8 TX8 29, w ∈ wsX8_series := by decide +kernel
def fm_series_47 (x1 : Int32) (x2 : Int32) (x4 : Int32) (x5 : Int32) (x6 : Int32) (z : km_S) : Option ((Int32 × Int32 × Int32 × Int32 × Int32 × km_S) ⊕ (Int32 × Int32 × Int32 × Int32 × km_S)) :=
  if (4 : Int32) ≤ x6 then
  some (.inr (x1, x2, x4, x5, z))
  else
  (km_wr z 6 (((4 : Int32) * x5) + x6) (0 : Int32)).bind fun z1 =>
  some (.inl (x1, x2, x4, x5, (x6 + 1), z1))
def lm_series_47 (n : Nat) (x1 : Int32) (x2 : Int32) (x4 : Int32) (x5 : Int32) (x6 : Int32) (z : km_S) : Option (Int32 × Int32 × Int32 × Int32 × km_S) :=
  kj_it (fun (s : (Int32 × Int32 × Int32 × Int32 × Int32 × km_S)) => fm_series_47 (s.1) (s.2.1) (s.2.2.1) (s.2.2.2.1) (s.2.2.2.2.1) (s.2.2.2.2.2)) n (x1, x2, x4, x5, x6, z)
def fm_series_35 (x1 : Int32) (x2 : Int32) (x4 : Int32) (x5 : Int32) (z : km_S) : Option ((Int32 × Int32 × Int32 × Int32 × km_S) ⊕ (Int32 × Int32 × Int32 × km_S)) :=
  if (z.1 5) ≤ x5 then
  some (.inr (x1, x2, x4, z))
  else
  (lm_series_47 5000 x1 x2 x4 x5 x2 z).bind fun r1 =>
  some (.inl ((r1.1), (r1.2.1), (r1.2.2.1), ((r1.2.2.2.1) + 1), (r1.2.2.2.2)))
def lm_series_35 (n : Nat) (x1 : Int32) (x2 : Int32) (x4 : Int32) (x5 : Int32) (z : km_S) : Option (Int32 × Int32 × Int32 × km_S) :=
  kj_it (fun (s : (Int32 × Int32 × Int32 × Int32 × km_S)) => fm_series_35 (s.1) (s.2.1) (s.2.2.1) (s.2.2.2.1) (s.2.2.2.2)) n (x1, x2, x4, x5, z)
def fm_series (x1 : Int32) (x2 : Int32) (x3 : Int32) (x4 : Int32) (z : km_S) : Option (Int32 × km_S) :=
  (fm_isBox x1 x2 x3).bind fun o1 =>
  if o1 = 0 then
  some (((-1000001) : Int32), z)
  else
  if 0 ≤ x4 then
  if x4 ≤ (48 : Int32) then
  (fm_laysRows x2 x3 z).bind fun o2 =>
  (lm_series_35 5000 x1 x2 x4 (0 : Int32) o2).bind fun r3 =>
  (fm_countVolume (r3.1) (r3.2.1) (r3.2.2.1) (r3.2.2.2)).bind fun o4 =>
  some ((o4.1), (o4.2))
  else
  some ((0 : Int32), z)
  else
  some (((-1000001) : Int32), z)
set_option maxRecDepth 20000 in
theorem jm_series_47 {p : Program} {l : Launch} {e : Env} {s : State} {m : MethodId} {args : Array Value} {below : List Frame} {meth : Method} {c : Code} {A : Nat → Prop} {D : va_G} {cA : Nat → ClassId} {h0 : Nat} {q : Nat → Nat} {Q : State → Prop} (F : kj_Fx p s m args meth c cX8_series 7 wsX8_series RX8 (some .int) D (km_T cA) A) {x1 : Int32} {x2 : Int32} {x4 : Int32} {x5 : Int32} {x6 : Int32} {z : km_S} {o : ((Int32 × Int32 × Int32 × Int32 × Int32 × km_S) ⊕ (Int32 × Int32 × Int32 × Int32 × km_S))} (h : fm_series_47 x1 x2 x4 x5 x6 z = some o) (kb : ∀ (a0' : Int32) (a1' : Int32) (a2' : Int32) (a3' : Int32) (a4' : Int32) (a5' : km_S), o = .inl (a0', a1', a2', a3', a4', a5') → kj_J p l e rm_X8_series s m args below meth c 0 0 Q 7 D A ((km_w cA h0 q) a5') 47 [(0, .ref h0), (1, .int a0'), (2, .int a1'), (4, .int a2'), (5, .int a3'), (6, .int a4')] []) (ke0 : ∀ (a0' : Int32) (a1' : Int32) (a2' : Int32) (a3' : Int32) (a4' : km_S), o = .inr (a0', a1', a2', a3', a4') → kj_J p l e rm_X8_series s m args below meth c 0 0 Q 7 D A ((km_w cA h0 q) a4') 72 [(0, .ref h0), (1, .int a0'), (2, .int a1'), (4, .int a2'), (5, .int a3')] []) : kj_J p l e rm_X8_series s m args below meth c 0 0 Q 7 D A ((km_w cA h0 q) z) 47 [(0, .ref h0), (1, .int x1), (2, .int x2), (4, .int x4), (5, .int x5), (6, .int x6)] [] := by
  unfold fm_series_47 at h
  refine kj_iload F dX8_series_47 5 rfl ?_
  refine kj_iconst F dX8_series_49 (v := 4) (by decide) ?_
  refine kj_icmp_ge F dX8_series_50 (tgt := 72) (by decide) h (fun hc h => ?_) (fun hc h => ?_)
  · refine kj_J.sub [0, 1, 2, 3, 4] rfl ?_
    exact ke0 x1 x2 x4 x5 z (Option.some.inj h).symm
  · refine kj_aload_n F dX8_series_53 0 rfl rfl ?_
    refine km_get F dX8_series_54 in_X8_series 13 (by decide) (by decide +kernel) rfl rfl ?_
    refine kj_iconst F dX8_series_57 (v := 4) (by decide) ?_
    refine kj_iload F dX8_series_58 4 rfl ?_
    refine kj_imul F dX8_series_60 ?_
    refine kj_iload F dX8_series_61 5 rfl ?_
    refine kj_iadd F dX8_series_63 ?_
    refine kj_iconst F dX8_series_64 (v := 0) (by decide) ?_
    refine km_iast F dX8_series_65 6 (by decide) h (fun z1 h => ?_)
    refine kj_iinc F dX8_series_66 5 rfl (v := 1) (by decide) (by decide) (lv' := [(6, .int (x6 + 1)), (0, .ref h0), (1, .int x1), (2, .int x2), (4, .int x4), (5, .int x5)]) rfl ?_
    refine kj_goto F dX8_series_69 (tgt := 47) (by decide) ?_
    refine kj_J.sub [1, 2, 3, 4, 5, 0] rfl ?_
    exact kb x1 x2 x4 x5 (x6 + 1) z1 (Option.some.inj h).symm
theorem jlm_series_47 {p : Program} {l : Launch} {e : Env} {s : State} {m : MethodId} {args : Array Value} {below : List Frame} {meth : Method} {c : Code} {A : Nat → Prop} {D : va_G} {cA : Nat → ClassId} {h0 : Nat} {q : Nat → Nat} {Q : State → Prop} (F : kj_Fx p s m args meth c cX8_series 7 wsX8_series RX8 (some .int) D (km_T cA) A) {n : Nat} {x1 : Int32} {x2 : Int32} {x4 : Int32} {x5 : Int32} {x6 : Int32} {z : km_S} {r : (Int32 × Int32 × Int32 × Int32 × km_S)} (h : lm_series_47 n x1 x2 x4 x5 x6 z = some r) (ke : kj_J p l e rm_X8_series s m args below meth c 0 0 Q 7 D A ((km_w cA h0 q) (r.2.2.2.2)) 72 [(0, .ref h0), (1, .int (r.1)), (2, .int (r.2.1)), (4, .int (r.2.2.1)), (5, .int (r.2.2.2.1))] []) : kj_J p l e rm_X8_series s m args below meth c 0 0 Q 7 D A ((km_w cA h0 q) z) 47 [(0, .ref h0), (1, .int x1), (2, .int x2), (4, .int x4), (5, .int x5), (6, .int x6)] [] :=
  kj_it_J (Wh := fun (u : (Int32 × Int32 × Int32 × Int32 × Int32 × km_S)) => kj_J p l e rm_X8_series s m args below meth c 0 0 Q 7 D A ((km_w cA h0 q) (u.2.2.2.2.2)) 47 [(0, .ref h0), (1, .int (u.1)), (2, .int (u.2.1)), (4, .int (u.2.2.1)), (5, .int (u.2.2.2.1)), (6, .int (u.2.2.2.2.1))] []) (We := fun r => kj_J p l e rm_X8_series s m args below meth c 0 0 Q 7 D A ((km_w cA h0 q) (r.2.2.2.2)) 72 [(0, .ref h0), (1, .int (r.1)), (2, .int (r.2.1)), (4, .int (r.2.2.1)), (5, .int (r.2.2.2.1))] []) (fun u o h kb ke => jm_series_47 F h (fun a0' a1' a2' a3' a4' a5' e => kb (a0', a1', a2', a3', a4', a5') e) (fun a0' a1' a2' a3' a4' e => ke (a0', a1', a2', a3', a4') e)) n (x1, x2, x4, x5, x6, z) r h ke
set_option maxRecDepth 20000 in
theorem jm_series_35 {p : Program} {l : Launch} {e : Env} {s : State} {m : MethodId} {args : Array Value} {below : List Frame} {meth : Method} {c : Code} {A : Nat → Prop} {D : va_G} {cA : Nat → ClassId} {h0 : Nat} {q : Nat → Nat} {Q : State → Prop} (F : kj_Fx p s m args meth c cX8_series 7 wsX8_series RX8 (some .int) D (km_T cA) A) {x1 : Int32} {x2 : Int32} {x4 : Int32} {x5 : Int32} {z : km_S} {o : ((Int32 × Int32 × Int32 × Int32 × km_S) ⊕ (Int32 × Int32 × Int32 × km_S))} (h : fm_series_35 x1 x2 x4 x5 z = some o) (kb : ∀ (a0' : Int32) (a1' : Int32) (a2' : Int32) (a3' : Int32) (a4' : km_S), o = .inl (a0', a1', a2', a3', a4') → kj_J p l e rm_X8_series s m args below meth c 0 0 Q 7 D A ((km_w cA h0 q) a4') 35 [(0, .ref h0), (1, .int a0'), (2, .int a1'), (4, .int a2'), (5, .int a3')] []) (ke0 : ∀ (a0' : Int32) (a1' : Int32) (a2' : Int32) (a3' : km_S), o = .inr (a0', a1', a2', a3') → kj_J p l e rm_X8_series s m args below meth c 0 0 Q 7 D A ((km_w cA h0 q) a3') 78 [(0, .ref h0), (1, .int a0'), (2, .int a1'), (4, .int a2')] []) : kj_J p l e rm_X8_series s m args below meth c 0 0 Q 7 D A ((km_w cA h0 q) z) 35 [(0, .ref h0), (1, .int x1), (2, .int x2), (4, .int x4), (5, .int x5)] [] := by
  unfold fm_series_35 at h
  refine kj_iload F dX8_series_35 4 rfl ?_
  refine kj_aload_n F dX8_series_37 0 rfl rfl ?_
  refine km_get F dX8_series_38 in_X8_series 14 (by decide) (by decide +kernel) rfl rfl ?_
  refine kj_icmp_ge F dX8_series_41 (tgt := 78) (by decide) h (fun hc h => ?_) (fun hc h => ?_)
  · refine kj_J.sub [0, 1, 2, 3] rfl ?_
    exact ke0 x1 x2 x4 z (Option.some.inj h).symm
  · refine kj_iload_n F dX8_series_44 2 rfl rfl ?_
    refine kj_istore F dX8_series_45 (lv' := [(6, .int x2), (0, .ref h0), (1, .int x1), (2, .int x2), (4, .int x4), (5, .int x5)]) (by decide) rfl ?_
    refine kj_J.sub [1, 2, 3, 4, 5, 0] rfl ?_
    refine kj_bn h (fun r1 h1 h => ?_)
    refine jlm_series_47 F h1 ?_
    refine kj_iinc F dX8_series_72 4 rfl (v := 1) (by decide) (by decide) (lv' := [(5, .int ((r1.2.2.2.1) + 1)), (0, .ref h0), (1, .int (r1.1)), (2, .int (r1.2.1)), (4, .int (r1.2.2.1))]) rfl ?_
    refine kj_goto F dX8_series_75 (tgt := 35) (by decide) ?_
    refine kj_J.sub [1, 2, 3, 4, 0] rfl ?_
    exact kb (r1.1) (r1.2.1) (r1.2.2.1) ((r1.2.2.2.1) + 1) (r1.2.2.2.2) (Option.some.inj h).symm
theorem jlm_series_35 {p : Program} {l : Launch} {e : Env} {s : State} {m : MethodId} {args : Array Value} {below : List Frame} {meth : Method} {c : Code} {A : Nat → Prop} {D : va_G} {cA : Nat → ClassId} {h0 : Nat} {q : Nat → Nat} {Q : State → Prop} (F : kj_Fx p s m args meth c cX8_series 7 wsX8_series RX8 (some .int) D (km_T cA) A) {n : Nat} {x1 : Int32} {x2 : Int32} {x4 : Int32} {x5 : Int32} {z : km_S} {r : (Int32 × Int32 × Int32 × km_S)} (h : lm_series_35 n x1 x2 x4 x5 z = some r) (ke : kj_J p l e rm_X8_series s m args below meth c 0 0 Q 7 D A ((km_w cA h0 q) (r.2.2.2)) 78 [(0, .ref h0), (1, .int (r.1)), (2, .int (r.2.1)), (4, .int (r.2.2.1))] []) : kj_J p l e rm_X8_series s m args below meth c 0 0 Q 7 D A ((km_w cA h0 q) z) 35 [(0, .ref h0), (1, .int x1), (2, .int x2), (4, .int x4), (5, .int x5)] [] :=
  kj_it_J (Wh := fun (u : (Int32 × Int32 × Int32 × Int32 × km_S)) => kj_J p l e rm_X8_series s m args below meth c 0 0 Q 7 D A ((km_w cA h0 q) (u.2.2.2.2)) 35 [(0, .ref h0), (1, .int (u.1)), (2, .int (u.2.1)), (4, .int (u.2.2.1)), (5, .int (u.2.2.2.1))] []) (We := fun r => kj_J p l e rm_X8_series s m args below meth c 0 0 Q 7 D A ((km_w cA h0 q) (r.2.2.2)) 78 [(0, .ref h0), (1, .int (r.1)), (2, .int (r.2.1)), (4, .int (r.2.2.1))] []) (fun u o h kb ke => jm_series_35 F h (fun a0' a1' a2' a3' a4' e => kb (a0', a1', a2', a3', a4') e) (fun a0' a1' a2' a3' e => ke (a0', a1', a2', a3') e)) n (x1, x2, x4, x5, z) r h ke
set_option maxRecDepth 20000 in
theorem jm_series {p : Program} {l : Launch} {e : Env} {s : State} {m : MethodId} {args : Array Value} {below : List Frame} {meth : Method} {c : Code} {A : Nat → Prop} {D : va_G} {cA : Nat → ClassId} {h0 : Nat} {q : Nat → Nat} (F : kj_Fx p s m args meth c cX8_series 7 wsX8_series RX8 (some .int) D (km_T cA) A) {x1 : Int32} {x2 : Int32} {x3 : Int32} {x4 : Int32} {z : km_S} {o : (Int32 × km_S)} (h : fm_series x1 x2 x3 x4 z = some o) : kj_J p l e rm_X8_series s m args below meth c 0 0 (MQ below (kj_Qi D (km_T cA) A (km_w cA h0 q) o) args s 0 0 A) 7 D A ((km_w cA h0 q) z) 0 [(0, .ref h0), (1, .int x1), (2, .int x2), (3, .int x3), (4, .int x4)] [] := by
  unfold fm_series at h
  refine kj_iload_n F dX8_series_0 1 rfl rfl ?_
  refine kj_iload_n F dX8_series_1 2 rfl rfl ?_
  refine kj_iload_n F dX8_series_2 3 rfl rfl ?_
  refine kj_cSip (As := [.int x1, .int x2, .int x3]) (rest := []) F dX8_series_3 h (fun o h1 => cm_isBox (w := (km_w cA h0 q)) h1) (va_cwS 3 F.2.2.2.2.1 gX8_series_X8_isBox rfl rfl rfl (by decide +kernel) ⟨Nat.le_of_ble_eq_true rfl, Nat.le_of_ble_eq_true rfl⟩) rfl rfl (Nat.le_of_ble_eq_true rfl) ⟨Nat.zero_le _, Nat.zero_le _⟩ (fun o1 h => ?_)
  refine kj_if_eq F dX8_series_6 (tgt := 14) (by decide) h (fun hc h => ?_) (fun hc h => ?_)
  · refine kj_ldc F dX8_series_14 (v := (-1000001)) (by decide +kernel) ?_
    exact kj_iret F dX8_series_16 h
  · refine kj_iload F dX8_series_9 4 rfl ?_
    refine kj_if_ge F dX8_series_11 (tgt := 17) (by decide) h (fun hc h => ?_) (fun hc h => ?_)
    · refine kj_iload F dX8_series_17 4 rfl ?_
      refine kj_bipush F dX8_series_19 (v := 48) (by decide) ?_
      refine kj_icmp_le F dX8_series_21 (tgt := 26) (by decide) h (fun hc h => ?_) (fun hc h => ?_)
      · refine kj_aload_n F dX8_series_26 0 rfl rfl ?_
        refine kj_iload_n F dX8_series_27 2 rfl rfl ?_
        refine kj_iload_n F dX8_series_28 3 rfl rfl ?_
        refine kj_cVv (As := [.int x2, .int x3]) (rest := []) F dX8_series_29 h (fun o h1 => cm_laysRows h1) (cwV 2 F.2.2.2.2.1 gX8_series_X8_laysRows rfl rfl rfl (by decide +kernel) ⟨Nat.le_of_ble_eq_true rfl, Nat.le_of_ble_eq_true rfl⟩) 0 rfl rfl rfl rfl rfl (Nat.le_of_ble_eq_true rfl) ⟨Nat.zero_le _, Nat.zero_le _⟩ (fun o2 h => ?_)
        refine kj_iconst F dX8_series_32 (v := 0) (by decide) ?_
        refine kj_istore F dX8_series_33 (lv' := [(5, .int (0 : Int32)), (0, .ref h0), (1, .int x1), (2, .int x2), (3, .int x3), (4, .int x4)]) (by decide) rfl ?_
        refine kj_J.sub [1, 2, 3, 5, 0] rfl ?_
        refine kj_bn h (fun r3 h1 h => ?_)
        refine jlm_series_35 F h1 ?_
        refine kj_aload_n F dX8_series_78 0 rfl rfl ?_
        refine kj_iload_n F dX8_series_79 1 rfl rfl ?_
        refine kj_iload_n F dX8_series_80 2 rfl rfl ?_
        refine kj_iload F dX8_series_81 3 rfl ?_
        refine kj_cVi (As := [.int (r3.1), .int (r3.2.1), .int (r3.2.2.1)]) (rest := []) F dX8_series_83 h (fun o h1 => cm_countVolume h1) (cwV 3 F.2.2.2.2.1 gX8_series_X8_countVolume rfl rfl rfl (by decide +kernel) ⟨Nat.le_of_ble_eq_true rfl, Nat.le_of_ble_eq_true rfl⟩) 0 rfl rfl rfl rfl rfl (Nat.le_of_ble_eq_true rfl) ⟨Nat.zero_le _, Nat.zero_le _⟩ (fun o4 h => ?_)
        exact kj_iret F dX8_series_86 h
      · refine kj_iconst F dX8_series_24 (v := 0) (by decide) ?_
        exact kj_iret F dX8_series_25 h
    · refine kj_ldc F dX8_series_14 (v := (-1000001)) (by decide +kernel) ?_
      exact kj_iret F dX8_series_16 h
theorem cm_series {l : Launch} {D : va_G} {cA : Nat → ClassId} {h0 : Nat} {q : Nat → Nat} {x1 : Int32} {x2 : Int32} {x3 : Int32} {x4 : Int32} {z : km_S} {o : (Int32 × km_S)} (h : fm_series x1 x2 x3 x4 z = some o) : kj_Mi l yX8_series wsX8_series rm_X8_series D (km_T cA) (km_w cA h0 q) z [.ref h0, .int x1, .int x2, .int x3, .int x4] o :=
  fun sz => kj_start (by decide) rfl (Nat.le_of_ble_eq_true rfl) rfl fun p e s m args below meth c hsz F => jm_series F h
/-! X8_power -/
abbrev rm_X8_power : Room := { frames := 0, cells := 0, slots := 0, locals := 0 }
def fm_power_5 (x0 : Int32) (x1 : Int32) (x2 : Int64) (x4 : Int32) : Option ((Int32 × Int32 × Int64 × Int32) ⊕ Int64) :=
  if x1 ≤ x4 then
  some (.inr x2)
  else
  if ((1000000007) : Int64) = 0 then none else
  some (.inl (x0, x1, ((x2 * (x0).toInt64) - (x2 * (x0).toInt64) / ((1000000007) : Int64) * ((1000000007) : Int64)), (x4 + 1)))
def lm_power_5 (n : Nat) (x0 : Int32) (x1 : Int32) (x2 : Int64) (x4 : Int32) : Option Int64 :=
  kj_it (fun (s : (Int32 × Int32 × Int64 × Int32)) => fm_power_5 (s.1) (s.2.1) (s.2.2.1) (s.2.2.2)) n (x0, x1, x2, x4)
def fm_power (x0 : Int32) (x1 : Int32) : Option Int64 :=
  (lm_power_5 5000 x0 x1 (1 : Int64) (0 : Int32)).bind fun r1 =>
  some (r1)
set_option maxRecDepth 20000 in
theorem jm_power_5 {p : Program} {l : Launch} {e : Env} {s : State} {m : MethodId} {args : Array Value} {below : List Frame} {meth : Method} {c : Code} {A : Nat → Prop} {D : va_G} {tys : List (ClassId × FieldType)} {S : Type} {w : S → va_W} {z : S} {Q : State → Prop} (F : kj_Fx p s m args meth c cX8_power 5 wsX8_power RX8 (some .long) D tys A) {x0 : Int32} {x1 : Int32} {x2 : Int64} {x4 : Int32} {o : ((Int32 × Int32 × Int64 × Int32) ⊕ Int64)} (h : fm_power_5 x0 x1 x2 x4 = some o) (kb : ∀ (a0' : Int32) (a1' : Int32) (a2' : Int64) (a3' : Int32), o = .inl (a0', a1', a2', a3') → kj_J p l e rm_X8_power s m args below meth c 0 0 Q 5 D A (w z) 5 [(0, .int a0'), (1, .int a1'), (2, .long a2'), (4, .int a3')] []) (ke0 : ∀ (a0' : Int64), o = .inr a0' → kj_J p l e rm_X8_power s m args below meth c 0 0 Q 5 D A (w z) 26 [(2, .long a0')] []) : kj_J p l e rm_X8_power s m args below meth c 0 0 Q 5 D A (w z) 5 [(0, .int x0), (1, .int x1), (2, .long x2), (4, .int x4)] [] := by
  unfold fm_power_5 at h
  refine kj_iload F dX8_power_5 3 rfl ?_
  refine kj_iload_n F dX8_power_7 1 rfl rfl ?_
  refine kj_icmp_ge F dX8_power_8 (tgt := 26) (by decide) h (fun hc h => ?_) (fun hc h => ?_)
  · refine kj_J.sub [2] rfl ?_
    exact ke0 x2 (Option.some.inj h).symm
  · refine kj_lload_n F dX8_power_11 2 rfl rfl ?_
    refine kj_iload_n F dX8_power_12 0 rfl rfl ?_
    refine kj_i2l F dX8_power_13 ?_
    refine kj_lmul F dX8_power_14 ?_
    refine kj_ldc2 F dX8_power_15 (v := (1000000007)) (by decide +kernel) ?_
    refine kj_lrem F dX8_power_18 h (fun h => ?_)
    refine kj_lstore_n F dX8_power_19 (lv' := [(2, .long ((x2 * (x0).toInt64) - (x2 * (x0).toInt64) / ((1000000007) : Int64) * ((1000000007) : Int64))), (0, .int x0), (1, .int x1), (4, .int x4)]) rfl (by decide) rfl ?_
    refine kj_iinc F dX8_power_20 3 rfl (v := 1) (by decide) (by decide) (lv' := [(4, .int (x4 + 1)), (2, .long ((x2 * (x0).toInt64) - (x2 * (x0).toInt64) / ((1000000007) : Int64) * ((1000000007) : Int64))), (0, .int x0), (1, .int x1)]) rfl ?_
    refine kj_goto F dX8_power_23 (tgt := 5) (by decide) ?_
    refine kj_J.sub [2, 3, 1, 0] rfl ?_
    exact kb x0 x1 ((x2 * (x0).toInt64) - (x2 * (x0).toInt64) / ((1000000007) : Int64) * ((1000000007) : Int64)) (x4 + 1) (Option.some.inj h).symm
theorem jlm_power_5 {p : Program} {l : Launch} {e : Env} {s : State} {m : MethodId} {args : Array Value} {below : List Frame} {meth : Method} {c : Code} {A : Nat → Prop} {D : va_G} {tys : List (ClassId × FieldType)} {S : Type} {w : S → va_W} {z : S} {Q : State → Prop} (F : kj_Fx p s m args meth c cX8_power 5 wsX8_power RX8 (some .long) D tys A) {n : Nat} {x0 : Int32} {x1 : Int32} {x2 : Int64} {x4 : Int32} {r : Int64} (h : lm_power_5 n x0 x1 x2 x4 = some r) (ke : kj_J p l e rm_X8_power s m args below meth c 0 0 Q 5 D A (w z) 26 [(2, .long (r))] []) : kj_J p l e rm_X8_power s m args below meth c 0 0 Q 5 D A (w z) 5 [(0, .int x0), (1, .int x1), (2, .long x2), (4, .int x4)] [] :=
  kj_it_J (Wh := fun (u : (Int32 × Int32 × Int64 × Int32)) => kj_J p l e rm_X8_power s m args below meth c 0 0 Q 5 D A (w z) 5 [(0, .int (u.1)), (1, .int (u.2.1)), (2, .long (u.2.2.1)), (4, .int (u.2.2.2))] []) (We := fun r => kj_J p l e rm_X8_power s m args below meth c 0 0 Q 5 D A (w z) 26 [(2, .long (r))] []) (fun u o h kb ke => jm_power_5 F h (fun a0' a1' a2' a3' e => kb (a0', a1', a2', a3') e) (fun a0' e => ke a0' e)) n (x0, x1, x2, x4) r h ke
set_option maxRecDepth 20000 in
theorem jm_power {p : Program} {l : Launch} {e : Env} {s : State} {m : MethodId} {args : Array Value} {below : List Frame} {meth : Method} {c : Code} {A : Nat → Prop} {D : va_G} {tys : List (ClassId × FieldType)} {S : Type} {w : S → va_W} {z : S} (F : kj_Fx p s m args meth c cX8_power 5 wsX8_power RX8 (some .long) D tys A) {x0 : Int32} {x1 : Int32} {o : Int64} (h : fm_power x0 x1 = some o) : kj_J p l e rm_X8_power s m args below meth c 0 0 (MQ below (kj_Ql D tys A w (o, z)) args s 0 0 A) 5 D A (w z) 0 [(0, .int x0), (1, .int x1)] [] := by
  unfold fm_power at h
  refine kj_lconst F dX8_power_0 (v := 1) (by decide) ?_
  refine kj_lstore_n F dX8_power_1 (lv' := [(2, .long (1 : Int64)), (0, .int x0), (1, .int x1)]) rfl (by decide) rfl ?_
  refine kj_iconst F dX8_power_2 (v := 0) (by decide) ?_
  refine kj_istore F dX8_power_3 (lv' := [(4, .int (0 : Int32)), (2, .long (1 : Int64)), (0, .int x0), (1, .int x1)]) (by decide) rfl ?_
  refine kj_J.sub [2, 3, 1, 0] rfl ?_
  refine kj_bn h (fun r1 h1 h => ?_)
  refine jlm_power_5 F h1 ?_
  refine kj_lload_n F dX8_power_26 0 rfl rfl ?_
  exact kj_lret F dX8_power_27 (kj_pr h)
theorem cm_power {l : Launch} {D : va_G} {tys : List (ClassId × FieldType)} {S : Type} {w : S → va_W} {z : S} {x0 : Int32} {x1 : Int32} {o : Int64} (h : fm_power x0 x1 = some o) : kj_Ml l yX8_power wsX8_power rm_X8_power D tys w z [.int x0, .int x1] (o, z) :=
  fun sz => kj_start (by decide) rfl (Nat.le_of_ble_eq_true rfl) rfl fun p e s m args below meth c hsz F => jm_power F h
/-! X8_exponent -/
abbrev rm_X8_exponent : Room := { frames := 0, cells := 0, slots := 0, locals := 0 }
theorem in_X8_exponent : ∀ w ∈ u_ws RX8 TX8 29, w ∈ wsX8_exponent := by decide +kernel
def fm_exponent_55 (x1 : Int32) (x2 : Int32) (x3 : Int32) (x4 : Int32) (x5 : Int32) (x6 : Int32) (x8 : Int32) (t0 : Int32) (t1 : Int32) (z : km_S) : Option ((Int32 × Int32 × Int32 × Int32 × Int32 × Int32 × Int32 × Int32 × km_S) ⊕ (Int32 × Int32 × Int32 × Int32 × Int32 × Int32 × Int32 × km_S)) :=
  some (.inl (x1, x2, x3, x4, x5, x6, (t1 + t0), (x8 + 1), z))
def fm_exponent_9 (x1 : Int32) (x2 : Int32) (x3 : Int32) (x4 : Int32) (x5 : Int32) (x6 : Int32) (x7 : Int32) (x8 : Int32) (z : km_S) : Option ((Int32 × Int32 × Int32 × Int32 × Int32 × Int32 × Int32 × Int32 × km_S) ⊕ (Int32 × Int32 × Int32 × Int32 × Int32 × Int32 × Int32 × km_S)) :=
  if x5 ≤ x8 then
  some (.inr (x1, x2, x3, x4, x5, x6, x7, z))
  else
  (km_rd z 6 (((4 : Int32) * x4) + x8)).bind fun v1 =>
  (km_rd z 6 (((4 : Int32) * x4) + x8)).bind fun v2 =>
  if v2 ≤ 0 then
  fm_exponent_55 x1 x2 x3 x4 x5 (x6 + v1) x8 (0 : Int32) x7 z
  else
  fm_exponent_55 x1 x2 x3 x4 x5 (x6 + v1) x8 (1 : Int32) x7 z
def lm_exponent_9 (n : Nat) (x1 : Int32) (x2 : Int32) (x3 : Int32) (x4 : Int32) (x5 : Int32) (x6 : Int32) (x7 : Int32) (x8 : Int32) (z : km_S) : Option (Int32 × Int32 × Int32 × Int32 × Int32 × Int32 × Int32 × km_S) :=
  kj_it (fun (s : (Int32 × Int32 × Int32 × Int32 × Int32 × Int32 × Int32 × Int32 × km_S)) => fm_exponent_9 (s.1) (s.2.1) (s.2.2.1) (s.2.2.2.1) (s.2.2.2.2.1) (s.2.2.2.2.2.1) (s.2.2.2.2.2.2.1) (s.2.2.2.2.2.2.2.1) (s.2.2.2.2.2.2.2.2)) n (x1, x2, x3, x4, x5, x6, x7, x8, z)
def fm_exponent (x1 : Int32) (x2 : Int32) (x3 : Int32) (x4 : Int32) (x5 : Int32) (z : km_S) : Option (Int32 × km_S) :=
  (lm_exponent_9 5000 x1 x2 x3 x4 x5 (0 : Int32) (0 : Int32) (0 : Int32) z).bind fun r1 =>
  if (r1.1) = 1 then
  some ((r1.2.2.2.2.2.1), (r1.2.2.2.2.2.2.2))
  else
  if (r1.1) = 2 then
  if (r1.2.2.2.2.1) ≤ (r1.2.1) then
  some ((0 : Int32), (r1.2.2.2.2.2.2.2))
  else
  (km_rd (r1.2.2.2.2.2.2.2) 6 (((4 : Int32) * (r1.2.2.2.1)) + (r1.2.1))).bind fun v2 =>
  some (v2, (r1.2.2.2.2.2.2.2))
  else
  if (r1.1) = 3 then
  some ((r1.2.2.2.2.2.2.1), (r1.2.2.2.2.2.2.2))
  else
  if (r1.1) = 4 then
  if (r1.2.2.2.1) = (r1.2.2.1) then
  some ((0 : Int32), (r1.2.2.2.2.2.2.2))
  else
  some ((1 : Int32), (r1.2.2.2.2.2.2.2))
  else
  some ((0 : Int32), (r1.2.2.2.2.2.2.2))
set_option maxRecDepth 20000 in
theorem jm_exponent_55 {p : Program} {l : Launch} {e : Env} {s : State} {m : MethodId} {args : Array Value} {below : List Frame} {meth : Method} {c : Code} {A : Nat → Prop} {D : va_G} {cA : Nat → ClassId} {h0 : Nat} {q : Nat → Nat} {Q : State → Prop} (F : kj_Fx p s m args meth c cX8_exponent 9 wsX8_exponent RX8 (some .int) D (km_T cA) A) {x1 : Int32} {x2 : Int32} {x3 : Int32} {x4 : Int32} {x5 : Int32} {x6 : Int32} {x8 : Int32} {t0 : Int32} {t1 : Int32} {z : km_S} {o : ((Int32 × Int32 × Int32 × Int32 × Int32 × Int32 × Int32 × Int32 × km_S) ⊕ (Int32 × Int32 × Int32 × Int32 × Int32 × Int32 × Int32 × km_S))} (h : fm_exponent_55 x1 x2 x3 x4 x5 x6 x8 t0 t1 z = some o) (kb : ∀ (a0' : Int32) (a1' : Int32) (a2' : Int32) (a3' : Int32) (a4' : Int32) (a5' : Int32) (a6' : Int32) (a7' : Int32) (a8' : km_S), o = .inl (a0', a1', a2', a3', a4', a5', a6', a7', a8') → kj_J p l e rm_X8_exponent s m args below meth c 0 0 Q 9 D A ((km_w cA h0 q) a8') 9 [(0, .ref h0), (1, .int a0'), (2, .int a1'), (3, .int a2'), (4, .int a3'), (5, .int a4'), (6, .int a5'), (7, .int a6'), (8, .int a7')] []) (ke0 : ∀ (a0' : Int32) (a1' : Int32) (a2' : Int32) (a3' : Int32) (a4' : Int32) (a5' : Int32) (a6' : Int32) (a7' : km_S), o = .inr (a0', a1', a2', a3', a4', a5', a6', a7') → kj_J p l e rm_X8_exponent s m args below meth c 0 0 Q 9 D A ((km_w cA h0 q) a7') 64 [(0, .ref h0), (1, .int a0'), (2, .int a1'), (3, .int a2'), (4, .int a3'), (5, .int a4'), (6, .int a5'), (7, .int a6')] []) : kj_J p l e rm_X8_exponent s m args below meth c 0 0 Q 9 D A ((km_w cA h0 q) z) 55 [(0, .ref h0), (1, .int x1), (2, .int x2), (3, .int x3), (4, .int x4), (5, .int x5), (6, .int x6), (8, .int x8)] [.int t0, .int t1] := by
  unfold fm_exponent_55 at h
  refine kj_iadd F dX8_exponent_55 ?_
  refine kj_istore F dX8_exponent_56 (lv' := [(7, .int (t1 + t0)), (0, .ref h0), (1, .int x1), (2, .int x2), (3, .int x3), (4, .int x4), (5, .int x5), (6, .int x6), (8, .int x8)]) (by decide) rfl ?_
  refine kj_iinc F dX8_exponent_58 8 rfl (v := 1) (by decide) (by decide) (lv' := [(8, .int (x8 + 1)), (7, .int (t1 + t0)), (0, .ref h0), (1, .int x1), (2, .int x2), (3, .int x3), (4, .int x4), (5, .int x5), (6, .int x6)]) rfl ?_
  refine kj_goto F dX8_exponent_61 (tgt := 9) (by decide) ?_
  refine kj_J.sub [2, 3, 4, 5, 6, 7, 8, 1, 0] rfl ?_
  exact kb x1 x2 x3 x4 x5 x6 (t1 + t0) (x8 + 1) z (Option.some.inj h).symm
set_option maxRecDepth 20000 in
theorem jm_exponent_9 {p : Program} {l : Launch} {e : Env} {s : State} {m : MethodId} {args : Array Value} {below : List Frame} {meth : Method} {c : Code} {A : Nat → Prop} {D : va_G} {cA : Nat → ClassId} {h0 : Nat} {q : Nat → Nat} {Q : State → Prop} (F : kj_Fx p s m args meth c cX8_exponent 9 wsX8_exponent RX8 (some .int) D (km_T cA) A) {x1 : Int32} {x2 : Int32} {x3 : Int32} {x4 : Int32} {x5 : Int32} {x6 : Int32} {x7 : Int32} {x8 : Int32} {z : km_S} {o : ((Int32 × Int32 × Int32 × Int32 × Int32 × Int32 × Int32 × Int32 × km_S) ⊕ (Int32 × Int32 × Int32 × Int32 × Int32 × Int32 × Int32 × km_S))} (h : fm_exponent_9 x1 x2 x3 x4 x5 x6 x7 x8 z = some o) (kb : ∀ (a0' : Int32) (a1' : Int32) (a2' : Int32) (a3' : Int32) (a4' : Int32) (a5' : Int32) (a6' : Int32) (a7' : Int32) (a8' : km_S), o = .inl (a0', a1', a2', a3', a4', a5', a6', a7', a8') → kj_J p l e rm_X8_exponent s m args below meth c 0 0 Q 9 D A ((km_w cA h0 q) a8') 9 [(0, .ref h0), (1, .int a0'), (2, .int a1'), (3, .int a2'), (4, .int a3'), (5, .int a4'), (6, .int a5'), (7, .int a6'), (8, .int a7')] []) (ke0 : ∀ (a0' : Int32) (a1' : Int32) (a2' : Int32) (a3' : Int32) (a4' : Int32) (a5' : Int32) (a6' : Int32) (a7' : km_S), o = .inr (a0', a1', a2', a3', a4', a5', a6', a7') → kj_J p l e rm_X8_exponent s m args below meth c 0 0 Q 9 D A ((km_w cA h0 q) a7') 64 [(0, .ref h0), (1, .int a0'), (2, .int a1'), (3, .int a2'), (4, .int a3'), (5, .int a4'), (6, .int a5'), (7, .int a6')] []) : kj_J p l e rm_X8_exponent s m args below meth c 0 0 Q 9 D A ((km_w cA h0 q) z) 9 [(0, .ref h0), (1, .int x1), (2, .int x2), (3, .int x3), (4, .int x4), (5, .int x5), (6, .int x6), (7, .int x7), (8, .int x8)] [] := by
  unfold fm_exponent_9 at h
  refine kj_iload F dX8_exponent_9 8 rfl ?_
  refine kj_iload F dX8_exponent_11 5 rfl ?_
  refine kj_icmp_ge F dX8_exponent_13 (tgt := 64) (by decide) h (fun hc h => ?_) (fun hc h => ?_)
  · refine kj_J.sub [0, 1, 2, 3, 4, 5, 6, 7] rfl ?_
    exact ke0 x1 x2 x3 x4 x5 x6 x7 z (Option.some.inj h).symm
  · refine kj_iload F dX8_exponent_16 6 rfl ?_
    refine kj_aload_n F dX8_exponent_18 0 rfl rfl ?_
    refine km_get F dX8_exponent_19 in_X8_exponent 13 (by decide) (by decide +kernel) rfl rfl ?_
    refine kj_iconst F dX8_exponent_22 (v := 4) (by decide) ?_
    refine kj_iload F dX8_exponent_23 4 rfl ?_
    refine kj_imul F dX8_exponent_25 ?_
    refine kj_iload F dX8_exponent_26 8 rfl ?_
    refine kj_iadd F dX8_exponent_28 ?_
    refine km_iald F dX8_exponent_29 6 (by decide) h (fun v1 h => ?_)
    refine kj_iadd F dX8_exponent_30 ?_
    refine kj_istore F dX8_exponent_31 (lv' := [(6, .int (x6 + v1)), (0, .ref h0), (1, .int x1), (2, .int x2), (3, .int x3), (4, .int x4), (5, .int x5), (7, .int x7), (8, .int x8)]) (by decide) rfl ?_
    refine kj_iload F dX8_exponent_33 7 rfl ?_
    refine kj_aload_n F dX8_exponent_35 1 rfl rfl ?_
    refine km_get F dX8_exponent_36 in_X8_exponent 13 (by decide) (by decide +kernel) rfl rfl ?_
    refine kj_iconst F dX8_exponent_39 (v := 4) (by decide) ?_
    refine kj_iload F dX8_exponent_40 5 rfl ?_
    refine kj_imul F dX8_exponent_42 ?_
    refine kj_iload F dX8_exponent_43 8 rfl ?_
    refine kj_iadd F dX8_exponent_45 ?_
    refine km_iald F dX8_exponent_46 6 (by decide) h (fun v2 h => ?_)
    refine kj_if_le F dX8_exponent_47 (tgt := 54) (by decide) h (fun hc h => ?_) (fun hc h => ?_)
    · refine kj_iconst F dX8_exponent_54 (v := 0) (by decide) ?_
      refine kj_J.sub [1, 2, 3, 4, 5, 6, 0, 8] rfl ?_
      exact jm_exponent_55 F h kb ke0
    · refine kj_iconst F dX8_exponent_50 (v := 1) (by decide) ?_
      refine kj_goto F dX8_exponent_51 (tgt := 55) (by decide) ?_
      refine kj_J.sub [1, 2, 3, 4, 5, 6, 0, 8] rfl ?_
      exact jm_exponent_55 F h kb ke0
theorem jlm_exponent_9 {p : Program} {l : Launch} {e : Env} {s : State} {m : MethodId} {args : Array Value} {below : List Frame} {meth : Method} {c : Code} {A : Nat → Prop} {D : va_G} {cA : Nat → ClassId} {h0 : Nat} {q : Nat → Nat} {Q : State → Prop} (F : kj_Fx p s m args meth c cX8_exponent 9 wsX8_exponent RX8 (some .int) D (km_T cA) A) {n : Nat} {x1 : Int32} {x2 : Int32} {x3 : Int32} {x4 : Int32} {x5 : Int32} {x6 : Int32} {x7 : Int32} {x8 : Int32} {z : km_S} {r : (Int32 × Int32 × Int32 × Int32 × Int32 × Int32 × Int32 × km_S)} (h : lm_exponent_9 n x1 x2 x3 x4 x5 x6 x7 x8 z = some r) (ke : kj_J p l e rm_X8_exponent s m args below meth c 0 0 Q 9 D A ((km_w cA h0 q) (r.2.2.2.2.2.2.2)) 64 [(0, .ref h0), (1, .int (r.1)), (2, .int (r.2.1)), (3, .int (r.2.2.1)), (4, .int (r.2.2.2.1)), (5, .int (r.2.2.2.2.1)), (6, .int (r.2.2.2.2.2.1)), (7, .int (r.2.2.2.2.2.2.1))] []) : kj_J p l e rm_X8_exponent s m args below meth c 0 0 Q 9 D A ((km_w cA h0 q) z) 9 [(0, .ref h0), (1, .int x1), (2, .int x2), (3, .int x3), (4, .int x4), (5, .int x5), (6, .int x6), (7, .int x7), (8, .int x8)] [] :=
  kj_it_J (Wh := fun (u : (Int32 × Int32 × Int32 × Int32 × Int32 × Int32 × Int32 × Int32 × km_S)) => kj_J p l e rm_X8_exponent s m args below meth c 0 0 Q 9 D A ((km_w cA h0 q) (u.2.2.2.2.2.2.2.2)) 9 [(0, .ref h0), (1, .int (u.1)), (2, .int (u.2.1)), (3, .int (u.2.2.1)), (4, .int (u.2.2.2.1)), (5, .int (u.2.2.2.2.1)), (6, .int (u.2.2.2.2.2.1)), (7, .int (u.2.2.2.2.2.2.1)), (8, .int (u.2.2.2.2.2.2.2.1))] []) (We := fun r => kj_J p l e rm_X8_exponent s m args below meth c 0 0 Q 9 D A ((km_w cA h0 q) (r.2.2.2.2.2.2.2)) 64 [(0, .ref h0), (1, .int (r.1)), (2, .int (r.2.1)), (3, .int (r.2.2.1)), (4, .int (r.2.2.2.1)), (5, .int (r.2.2.2.2.1)), (6, .int (r.2.2.2.2.2.1)), (7, .int (r.2.2.2.2.2.2.1))] []) (fun u o h kb ke => jm_exponent_9 F h (fun a0' a1' a2' a3' a4' a5' a6' a7' a8' e => kb (a0', a1', a2', a3', a4', a5', a6', a7', a8') e) (fun a0' a1' a2' a3' a4' a5' a6' a7' e => ke (a0', a1', a2', a3', a4', a5', a6', a7') e)) n (x1, x2, x3, x4, x5, x6, x7, x8, z) r h ke
set_option maxRecDepth 20000 in
theorem jm_exponent {p : Program} {l : Launch} {e : Env} {s : State} {m : MethodId} {args : Array Value} {below : List Frame} {meth : Method} {c : Code} {A : Nat → Prop} {D : va_G} {cA : Nat → ClassId} {h0 : Nat} {q : Nat → Nat} (F : kj_Fx p s m args meth c cX8_exponent 9 wsX8_exponent RX8 (some .int) D (km_T cA) A) {x1 : Int32} {x2 : Int32} {x3 : Int32} {x4 : Int32} {x5 : Int32} {z : km_S} {o : (Int32 × km_S)} (h : fm_exponent x1 x2 x3 x4 x5 z = some o) : kj_J p l e rm_X8_exponent s m args below meth c 0 0 (MQ below (kj_Qi D (km_T cA) A (km_w cA h0 q) o) args s 0 0 A) 9 D A ((km_w cA h0 q) z) 0 [(0, .ref h0), (1, .int x1), (2, .int x2), (3, .int x3), (4, .int x4), (5, .int x5)] [] := by
  unfold fm_exponent at h
  refine kj_iconst F dX8_exponent_0 (v := 0) (by decide) ?_
  refine kj_istore F dX8_exponent_1 (lv' := [(6, .int (0 : Int32)), (0, .ref h0), (1, .int x1), (2, .int x2), (3, .int x3), (4, .int x4), (5, .int x5)]) (by decide) rfl ?_
  refine kj_iconst F dX8_exponent_3 (v := 0) (by decide) ?_
  refine kj_istore F dX8_exponent_4 (lv' := [(7, .int (0 : Int32)), (6, .int (0 : Int32)), (0, .ref h0), (1, .int x1), (2, .int x2), (3, .int x3), (4, .int x4), (5, .int x5)]) (by decide) rfl ?_
  refine kj_iconst F dX8_exponent_6 (v := 0) (by decide) ?_
  refine kj_istore F dX8_exponent_7 (lv' := [(8, .int (0 : Int32)), (7, .int (0 : Int32)), (6, .int (0 : Int32)), (0, .ref h0), (1, .int x1), (2, .int x2), (3, .int x3), (4, .int x4), (5, .int x5)]) (by decide) rfl ?_
  refine kj_J.sub [3, 4, 5, 6, 7, 8, 2, 1, 0] rfl ?_
  refine kj_bn h (fun r1 h1 h => ?_)
  refine jlm_exponent_9 F h1 ?_
  refine kj_iload_n F dX8_exponent_64 1 rfl rfl ?_
  refine kj_if h (fun hc h => ?_) (fun hn65_0 h => ?_)
  · refine kj_tableIn F dX8_exponent_65 (off := 31) (tgt := 96) (by rw [hc]; decide) (by rw [hc]; decide) (by rw [hc]; rfl) (by decide) ?_
    refine kj_iload F dX8_exponent_96 6 rfl ?_
    exact kj_iret F dX8_exponent_98 h
  refine kj_if h (fun hc h => ?_) (fun hn65_1 h => ?_)
  · refine kj_tableIn F dX8_exponent_65 (off := 34) (tgt := 99) (by rw [hc]; decide) (by rw [hc]; decide) (by rw [hc]; rfl) (by decide) ?_
    refine kj_iload_n F dX8_exponent_99 2 rfl rfl ?_
    refine kj_iload F dX8_exponent_100 5 rfl ?_
    refine kj_icmp_ge F dX8_exponent_102 (tgt := 119) (by decide) h (fun hc h => ?_) (fun hc h => ?_)
    · refine kj_iconst F dX8_exponent_119 (v := 0) (by decide) ?_
      exact kj_iret F dX8_exponent_120 h
    · refine kj_aload_n F dX8_exponent_105 0 rfl rfl ?_
      refine km_get F dX8_exponent_106 in_X8_exponent 13 (by decide) (by decide +kernel) rfl rfl ?_
      refine kj_iconst F dX8_exponent_109 (v := 4) (by decide) ?_
      refine kj_iload F dX8_exponent_110 4 rfl ?_
      refine kj_imul F dX8_exponent_112 ?_
      refine kj_iload_n F dX8_exponent_113 2 rfl rfl ?_
      refine kj_iadd F dX8_exponent_114 ?_
      refine km_iald F dX8_exponent_115 6 (by decide) h (fun v2 h => ?_)
      refine kj_goto F dX8_exponent_116 (tgt := 120) (by decide) ?_
      exact kj_iret F dX8_exponent_120 h
  refine kj_if h (fun hc h => ?_) (fun hn65_2 h => ?_)
  · refine kj_tableIn F dX8_exponent_65 (off := 56) (tgt := 121) (by rw [hc]; decide) (by rw [hc]; decide) (by rw [hc]; rfl) (by decide) ?_
    refine kj_iload F dX8_exponent_121 7 rfl ?_
    exact kj_iret F dX8_exponent_123 h
  refine kj_if h (fun hc h => ?_) (fun hn65_3 h => ?_)
  · refine kj_tableIn F dX8_exponent_65 (off := 59) (tgt := 124) (by rw [hc]; decide) (by rw [hc]; decide) (by rw [hc]; rfl) (by decide) ?_
    refine kj_iload F dX8_exponent_124 4 rfl ?_
    refine kj_iload_n F dX8_exponent_126 3 rfl rfl ?_
    refine kj_icmp_ne F dX8_exponent_127 (tgt := 134) (by decide) h (fun hc h => ?_) (fun hc h => ?_)
    · refine kj_iconst F dX8_exponent_130 (v := 0) (by decide) ?_
      refine kj_goto F dX8_exponent_131 (tgt := 135) (by decide) ?_
      exact kj_iret F dX8_exponent_135 h
    · refine kj_iconst F dX8_exponent_134 (v := 1) (by decide) ?_
      exact kj_iret F dX8_exponent_135 h
  refine kj_tableOut F dX8_exponent_65 (tgt := 136) (by have e0 : Int32.toInt (r1.1) ≠ 1 := fun q => hn65_0 (Int32.toInt_inj.mp (q.trans (by decide))); have e1 : Int32.toInt (r1.1) ≠ 2 := fun q => hn65_1 (Int32.toInt_inj.mp (q.trans (by decide))); have e2 : Int32.toInt (r1.1) ≠ 3 := fun q => hn65_2 (Int32.toInt_inj.mp (q.trans (by decide))); have e3 : Int32.toInt (r1.1) ≠ 4 := fun q => hn65_3 (Int32.toInt_inj.mp (q.trans (by decide))); omega) (by decide) ?_
  refine kj_iconst F dX8_exponent_136 (v := 0) (by decide) ?_
  exact kj_iret F dX8_exponent_137 h
theorem cm_exponent {l : Launch} {D : va_G} {cA : Nat → ClassId} {h0 : Nat} {q : Nat → Nat} {x1 : Int32} {x2 : Int32} {x3 : Int32} {x4 : Int32} {x5 : Int32} {z : km_S} {o : (Int32 × km_S)} (h : fm_exponent x1 x2 x3 x4 x5 z = some o) : kj_Mi l yX8_exponent wsX8_exponent rm_X8_exponent D (km_T cA) (km_w cA h0 q) z [.ref h0, .int x1, .int x2, .int x3, .int x4, .int x5] o :=
  fun sz => kj_start (by decide) rfl (Nat.le_of_ble_eq_true rfl) rfl fun p e s m args below meth c hsz F => jm_exponent F h
/-! X8_beginsSums -/
abbrev rm_X8_beginsSums : Room := { frames := 0, cells := 0, slots := 0, locals := 0 }
theorem in_X8_beginsSums : ∀ w ∈ u_ws RX8 TX8 29, w ∈ wsX8_beginsSums := by decide +kernel
def fm_beginsSums_30 (x1 : Int32) (t0 : Int64) (t1 : Int32) (z : km_S) : Option ((Int32 × km_S) ⊕ km_S) :=
  (km_wl z 0 t1 t0).bind fun z1 =>
  some (.inl ((x1 + 1), z1))
def fm_beginsSums_2 (x1 : Int32) (z : km_S) : Option ((Int32 × km_S) ⊕ km_S) :=
  if (z.1 5) ≤ x1 then
  some (.inr z)
  else
  if x1 = ((z.1 5) - (1 : Int32)) then
  fm_beginsSums_30 x1 (1 : Int64) x1 z
  else
  fm_beginsSums_30 x1 (0 : Int64) x1 z
def lm_beginsSums_2 (n : Nat) (x1 : Int32) (z : km_S) : Option km_S :=
  kj_it (fun (s : (Int32 × km_S)) => fm_beginsSums_2 (s.1) (s.2)) n (x1, z)
def fm_beginsSums (z : km_S) : Option km_S :=
  (lm_beginsSums_2 5000 (0 : Int32) z).bind fun r1 =>
  some (r1)
set_option maxRecDepth 20000 in
theorem jm_beginsSums_30 {p : Program} {l : Launch} {e : Env} {s : State} {m : MethodId} {args : Array Value} {below : List Frame} {meth : Method} {c : Code} {A : Nat → Prop} {D : va_G} {cA : Nat → ClassId} {h0 : Nat} {q : Nat → Nat} {Q : State → Prop} (F : kj_Fx p s m args meth c cX8_beginsSums 2 wsX8_beginsSums RX8 none D (km_T cA) A) {x1 : Int32} {t0 : Int64} {t1 : Int32} {z : km_S} {o : ((Int32 × km_S) ⊕ km_S)} (h : fm_beginsSums_30 x1 t0 t1 z = some o) (kb : ∀ (a0' : Int32) (a1' : km_S), o = .inl (a0', a1') → kj_J p l e rm_X8_beginsSums s m args below meth c 0 0 Q 2 D A ((km_w cA h0 q) a1') 2 [(0, .ref h0), (1, .int a0')] []) (ke0 : ∀ (a0' : km_S), o = .inr a0' → kj_J p l e rm_X8_beginsSums s m args below meth c 0 0 Q 2 D A ((km_w cA h0 q) a0') 37 [] []) : kj_J p l e rm_X8_beginsSums s m args below meth c 0 0 Q 2 D A ((km_w cA h0 q) z) 30 [(0, .ref h0), (1, .int x1)] [.long t0, .int t1, .ref (q (0 + 20))] := by
  unfold fm_beginsSums_30 at h
  refine km_last F dX8_beginsSums_30 0 (by decide) rfl h (fun z1 h => ?_)
  refine kj_iinc F dX8_beginsSums_31 1 rfl (v := 1) (by decide) (by decide) (lv' := [(1, .int (x1 + 1)), (0, .ref h0)]) rfl ?_
  refine kj_goto F dX8_beginsSums_34 (tgt := 2) (by decide) ?_
  refine kj_J.sub [1, 0] rfl ?_
  exact kb (x1 + 1) z1 (Option.some.inj h).symm
set_option maxRecDepth 20000 in
theorem jm_beginsSums_2 {p : Program} {l : Launch} {e : Env} {s : State} {m : MethodId} {args : Array Value} {below : List Frame} {meth : Method} {c : Code} {A : Nat → Prop} {D : va_G} {cA : Nat → ClassId} {h0 : Nat} {q : Nat → Nat} {Q : State → Prop} (F : kj_Fx p s m args meth c cX8_beginsSums 2 wsX8_beginsSums RX8 none D (km_T cA) A) {x1 : Int32} {z : km_S} {o : ((Int32 × km_S) ⊕ km_S)} (h : fm_beginsSums_2 x1 z = some o) (kb : ∀ (a0' : Int32) (a1' : km_S), o = .inl (a0', a1') → kj_J p l e rm_X8_beginsSums s m args below meth c 0 0 Q 2 D A ((km_w cA h0 q) a1') 2 [(0, .ref h0), (1, .int a0')] []) (ke0 : ∀ (a0' : km_S), o = .inr a0' → kj_J p l e rm_X8_beginsSums s m args below meth c 0 0 Q 2 D A ((km_w cA h0 q) a0') 37 [] []) : kj_J p l e rm_X8_beginsSums s m args below meth c 0 0 Q 2 D A ((km_w cA h0 q) z) 2 [(0, .ref h0), (1, .int x1)] [] := by
  unfold fm_beginsSums_2 at h
  refine kj_iload_n F dX8_beginsSums_2 1 rfl rfl ?_
  refine kj_aload_n F dX8_beginsSums_3 0 rfl rfl ?_
  refine km_get F dX8_beginsSums_4 in_X8_beginsSums 14 (by decide) (by decide +kernel) rfl rfl ?_
  refine kj_icmp_ge F dX8_beginsSums_7 (tgt := 37) (by decide) h (fun hc h => ?_) (fun hc h => ?_)
  · refine kj_J.sub [] rfl ?_
    exact ke0 z (Option.some.inj h).symm
  · refine kj_aload_n F dX8_beginsSums_10 0 rfl rfl ?_
    refine km_get F dX8_beginsSums_11 in_X8_beginsSums 24 (by decide) (by decide +kernel) rfl rfl ?_
    refine kj_iload_n F dX8_beginsSums_14 1 rfl rfl ?_
    refine kj_iload_n F dX8_beginsSums_15 1 rfl rfl ?_
    refine kj_aload_n F dX8_beginsSums_16 0 rfl rfl ?_
    refine km_get F dX8_beginsSums_17 in_X8_beginsSums 14 (by decide) (by decide +kernel) rfl rfl ?_
    refine kj_iconst F dX8_beginsSums_20 (v := 1) (by decide) ?_
    refine kj_isub F dX8_beginsSums_21 ?_
    refine kj_icmp_ne F dX8_beginsSums_22 (tgt := 29) (by decide) h (fun hc h => ?_) (fun hc h => ?_)
    · refine kj_lconst F dX8_beginsSums_25 (v := 1) (by decide) ?_
      refine kj_goto F dX8_beginsSums_26 (tgt := 30) (by decide) ?_
      exact jm_beginsSums_30 F h kb ke0
    · refine kj_lconst F dX8_beginsSums_29 (v := 0) (by decide) ?_
      exact jm_beginsSums_30 F h kb ke0
theorem jlm_beginsSums_2 {p : Program} {l : Launch} {e : Env} {s : State} {m : MethodId} {args : Array Value} {below : List Frame} {meth : Method} {c : Code} {A : Nat → Prop} {D : va_G} {cA : Nat → ClassId} {h0 : Nat} {q : Nat → Nat} {Q : State → Prop} (F : kj_Fx p s m args meth c cX8_beginsSums 2 wsX8_beginsSums RX8 none D (km_T cA) A) {n : Nat} {x1 : Int32} {z : km_S} {r : km_S} (h : lm_beginsSums_2 n x1 z = some r) (ke : kj_J p l e rm_X8_beginsSums s m args below meth c 0 0 Q 2 D A ((km_w cA h0 q) (r)) 37 [] []) : kj_J p l e rm_X8_beginsSums s m args below meth c 0 0 Q 2 D A ((km_w cA h0 q) z) 2 [(0, .ref h0), (1, .int x1)] [] :=
  kj_it_J (Wh := fun (u : (Int32 × km_S)) => kj_J p l e rm_X8_beginsSums s m args below meth c 0 0 Q 2 D A ((km_w cA h0 q) (u.2)) 2 [(0, .ref h0), (1, .int (u.1))] []) (We := fun r => kj_J p l e rm_X8_beginsSums s m args below meth c 0 0 Q 2 D A ((km_w cA h0 q) (r)) 37 [] []) (fun u o h kb ke => jm_beginsSums_2 F h (fun a0' a1' e => kb (a0', a1') e) (fun a0' e => ke a0' e)) n (x1, z) r h ke
set_option maxRecDepth 20000 in
theorem jm_beginsSums {p : Program} {l : Launch} {e : Env} {s : State} {m : MethodId} {args : Array Value} {below : List Frame} {meth : Method} {c : Code} {A : Nat → Prop} {D : va_G} {cA : Nat → ClassId} {h0 : Nat} {q : Nat → Nat} (F : kj_Fx p s m args meth c cX8_beginsSums 2 wsX8_beginsSums RX8 none D (km_T cA) A) {z : km_S} {o : km_S} (h : fm_beginsSums z = some o) : kj_J p l e rm_X8_beginsSums s m args below meth c 0 0 (MQ below (kj_Qv D (km_T cA) A (km_w cA h0 q) o) args s 0 0 A) 2 D A ((km_w cA h0 q) z) 0 [(0, .ref h0)] [] := by
  unfold fm_beginsSums at h
  refine kj_iconst F dX8_beginsSums_0 (v := 0) (by decide) ?_
  refine kj_istore_n F dX8_beginsSums_1 (lv' := [(1, .int (0 : Int32)), (0, .ref h0)]) rfl (by decide) rfl ?_
  refine kj_J.sub [1, 0] rfl ?_
  refine kj_bn h (fun r1 h1 h => ?_)
  refine jlm_beginsSums_2 F h1 ?_
  exact kj_vret F dX8_beginsSums_37 h
theorem cm_beginsSums {l : Launch} {D : va_G} {cA : Nat → ClassId} {h0 : Nat} {q : Nat → Nat} {z : km_S} {o : km_S} (h : fm_beginsSums z = some o) : kj_Mv l yX8_beginsSums wsX8_beginsSums rm_X8_beginsSums D (km_T cA) (km_w cA h0 q) z [.ref h0] o :=
  fun sz => kj_start (by decide) rfl (Nat.le_of_ble_eq_true rfl) rfl fun p e s m args below meth c hsz F => jm_beginsSums F h
/-! X8_nextRow -/
abbrev rm_X8_nextRow : Room := { frames := 0, cells := 0, slots := 0, locals := 0 }
theorem in_X8_nextRow : ∀ w ∈ u_ws RX8 TX8 29, w ∈ wsX8_nextRow := by decide +kernel
def fm_nextRow_2 (x1 : Int32) (z : km_S) : Option ((Int32 × km_S) ⊕ km_S) :=
  if (z.1 5) ≤ x1 then
  some (.inr z)
  else
  (km_rl z 1 x1).bind fun v1 =>
  (km_wl z 0 x1 v1).bind fun z2 =>
  some (.inl ((x1 + 1), z2))
def lm_nextRow_2 (n : Nat) (x1 : Int32) (z : km_S) : Option km_S :=
  kj_it (fun (s : (Int32 × km_S)) => fm_nextRow_2 (s.1) (s.2)) n (x1, z)
def fm_nextRow (z : km_S) : Option km_S :=
  (lm_nextRow_2 5000 (0 : Int32) z).bind fun r1 =>
  some (r1)
set_option maxRecDepth 20000 in
theorem jm_nextRow_2 {p : Program} {l : Launch} {e : Env} {s : State} {m : MethodId} {args : Array Value} {below : List Frame} {meth : Method} {c : Code} {A : Nat → Prop} {D : va_G} {cA : Nat → ClassId} {h0 : Nat} {q : Nat → Nat} {Q : State → Prop} (F : kj_Fx p s m args meth c cX8_nextRow 2 wsX8_nextRow RX8 none D (km_T cA) A) {x1 : Int32} {z : km_S} {o : ((Int32 × km_S) ⊕ km_S)} (h : fm_nextRow_2 x1 z = some o) (kb : ∀ (a0' : Int32) (a1' : km_S), o = .inl (a0', a1') → kj_J p l e rm_X8_nextRow s m args below meth c 0 0 Q 2 D A ((km_w cA h0 q) a1') 2 [(0, .ref h0), (1, .int a0')] []) (ke0 : ∀ (a0' : km_S), o = .inr a0' → kj_J p l e rm_X8_nextRow s m args below meth c 0 0 Q 2 D A ((km_w cA h0 q) a0') 28 [] []) : kj_J p l e rm_X8_nextRow s m args below meth c 0 0 Q 2 D A ((km_w cA h0 q) z) 2 [(0, .ref h0), (1, .int x1)] [] := by
  unfold fm_nextRow_2 at h
  refine kj_iload_n F dX8_nextRow_2 1 rfl rfl ?_
  refine kj_aload_n F dX8_nextRow_3 0 rfl rfl ?_
  refine km_get F dX8_nextRow_4 in_X8_nextRow 14 (by decide) (by decide +kernel) rfl rfl ?_
  refine kj_icmp_ge F dX8_nextRow_7 (tgt := 28) (by decide) h (fun hc h => ?_) (fun hc h => ?_)
  · refine kj_J.sub [] rfl ?_
    exact ke0 z (Option.some.inj h).symm
  · refine kj_aload_n F dX8_nextRow_10 0 rfl rfl ?_
    refine km_get F dX8_nextRow_11 in_X8_nextRow 24 (by decide) (by decide +kernel) rfl rfl ?_
    refine kj_iload_n F dX8_nextRow_14 1 rfl rfl ?_
    refine kj_aload_n F dX8_nextRow_15 0 rfl rfl ?_
    refine km_get F dX8_nextRow_16 in_X8_nextRow 25 (by decide) (by decide +kernel) rfl rfl ?_
    refine kj_iload_n F dX8_nextRow_19 1 rfl rfl ?_
    refine km_lald F dX8_nextRow_20 1 (by decide) rfl h (fun v1 h => ?_)
    refine km_last F dX8_nextRow_21 0 (by decide) rfl h (fun z2 h => ?_)
    refine kj_iinc F dX8_nextRow_22 1 rfl (v := 1) (by decide) (by decide) (lv' := [(1, .int (x1 + 1)), (0, .ref h0)]) rfl ?_
    refine kj_goto F dX8_nextRow_25 (tgt := 2) (by decide) ?_
    refine kj_J.sub [1, 0] rfl ?_
    exact kb (x1 + 1) z2 (Option.some.inj h).symm
theorem jlm_nextRow_2 {p : Program} {l : Launch} {e : Env} {s : State} {m : MethodId} {args : Array Value} {below : List Frame} {meth : Method} {c : Code} {A : Nat → Prop} {D : va_G} {cA : Nat → ClassId} {h0 : Nat} {q : Nat → Nat} {Q : State → Prop} (F : kj_Fx p s m args meth c cX8_nextRow 2 wsX8_nextRow RX8 none D (km_T cA) A) {n : Nat} {x1 : Int32} {z : km_S} {r : km_S} (h : lm_nextRow_2 n x1 z = some r) (ke : kj_J p l e rm_X8_nextRow s m args below meth c 0 0 Q 2 D A ((km_w cA h0 q) (r)) 28 [] []) : kj_J p l e rm_X8_nextRow s m args below meth c 0 0 Q 2 D A ((km_w cA h0 q) z) 2 [(0, .ref h0), (1, .int x1)] [] :=
  kj_it_J (Wh := fun (u : (Int32 × km_S)) => kj_J p l e rm_X8_nextRow s m args below meth c 0 0 Q 2 D A ((km_w cA h0 q) (u.2)) 2 [(0, .ref h0), (1, .int (u.1))] []) (We := fun r => kj_J p l e rm_X8_nextRow s m args below meth c 0 0 Q 2 D A ((km_w cA h0 q) (r)) 28 [] []) (fun u o h kb ke => jm_nextRow_2 F h (fun a0' a1' e => kb (a0', a1') e) (fun a0' e => ke a0' e)) n (x1, z) r h ke
set_option maxRecDepth 20000 in
theorem jm_nextRow {p : Program} {l : Launch} {e : Env} {s : State} {m : MethodId} {args : Array Value} {below : List Frame} {meth : Method} {c : Code} {A : Nat → Prop} {D : va_G} {cA : Nat → ClassId} {h0 : Nat} {q : Nat → Nat} (F : kj_Fx p s m args meth c cX8_nextRow 2 wsX8_nextRow RX8 none D (km_T cA) A) {z : km_S} {o : km_S} (h : fm_nextRow z = some o) : kj_J p l e rm_X8_nextRow s m args below meth c 0 0 (MQ below (kj_Qv D (km_T cA) A (km_w cA h0 q) o) args s 0 0 A) 2 D A ((km_w cA h0 q) z) 0 [(0, .ref h0)] [] := by
  unfold fm_nextRow at h
  refine kj_iconst F dX8_nextRow_0 (v := 0) (by decide) ?_
  refine kj_istore_n F dX8_nextRow_1 (lv' := [(1, .int (0 : Int32)), (0, .ref h0)]) rfl (by decide) rfl ?_
  refine kj_J.sub [1, 0] rfl ?_
  refine kj_bn h (fun r1 h1 h => ?_)
  refine jlm_nextRow_2 F h1 ?_
  exact kj_vret F dX8_nextRow_28 h
theorem cm_nextRow {l : Launch} {D : va_G} {cA : Nat → ClassId} {h0 : Nat} {q : Nat → Nat} {z : km_S} {o : km_S} (h : fm_nextRow z = some o) : kj_Mv l yX8_nextRow wsX8_nextRow rm_X8_nextRow D (km_T cA) (km_w cA h0 q) z [.ref h0] o :=
  fun sz => kj_start (by decide) rfl (Nat.le_of_ble_eq_true rfl) rfl fun p e s m args below meth c hsz F => jm_nextRow F h
/-! X8_allSums -/
abbrev rm_X8_allSums : Room := { frames := 0, cells := 0, slots := 0, locals := 0 }
theorem in_X8_allSums : ∀ w ∈ u_ws RX8 TX8 29, w ∈ wsX8_allSums := by decide +kernel
def fm_allSums_4 (x1 : Int64) (x3 : Int32) (z : km_S) : Option ((Int64 × Int32 × km_S) ⊕ (Int64 × km_S)) :=
  if (z.1 5) ≤ x3 then
  some (.inr (x1, z))
  else
  (km_rl z 0 x3).bind fun v1 =>
  some (.inl ((x1 + v1), (x3 + 1), z))
def lm_allSums_4 (n : Nat) (x1 : Int64) (x3 : Int32) (z : km_S) : Option (Int64 × km_S) :=
  kj_it (fun (s : (Int64 × Int32 × km_S)) => fm_allSums_4 (s.1) (s.2.1) (s.2.2)) n (x1, x3, z)
def fm_allSums (z : km_S) : Option (Int64 × km_S) :=
  (lm_allSums_4 5000 (0 : Int64) (0 : Int32) z).bind fun r1 =>
  some ((r1.1), (r1.2))
set_option maxRecDepth 20000 in
theorem jm_allSums_4 {p : Program} {l : Launch} {e : Env} {s : State} {m : MethodId} {args : Array Value} {below : List Frame} {meth : Method} {c : Code} {A : Nat → Prop} {D : va_G} {cA : Nat → ClassId} {h0 : Nat} {q : Nat → Nat} {Q : State → Prop} (F : kj_Fx p s m args meth c cX8_allSums 4 wsX8_allSums RX8 (some .long) D (km_T cA) A) {x1 : Int64} {x3 : Int32} {z : km_S} {o : ((Int64 × Int32 × km_S) ⊕ (Int64 × km_S))} (h : fm_allSums_4 x1 x3 z = some o) (kb : ∀ (a0' : Int64) (a1' : Int32) (a2' : km_S), o = .inl (a0', a1', a2') → kj_J p l e rm_X8_allSums s m args below meth c 0 0 Q 4 D A ((km_w cA h0 q) a2') 4 [(0, .ref h0), (1, .long a0'), (3, .int a1')] []) (ke0 : ∀ (a0' : Int64) (a1' : km_S), o = .inr (a0', a1') → kj_J p l e rm_X8_allSums s m args below meth c 0 0 Q 4 D A ((km_w cA h0 q) a1') 27 [(1, .long a0')] []) : kj_J p l e rm_X8_allSums s m args below meth c 0 0 Q 4 D A ((km_w cA h0 q) z) 4 [(0, .ref h0), (1, .long x1), (3, .int x3)] [] := by
  unfold fm_allSums_4 at h
  refine kj_iload_n F dX8_allSums_4 2 rfl rfl ?_
  refine kj_aload_n F dX8_allSums_5 0 rfl rfl ?_
  refine km_get F dX8_allSums_6 in_X8_allSums 14 (by decide) (by decide +kernel) rfl rfl ?_
  refine kj_icmp_ge F dX8_allSums_9 (tgt := 27) (by decide) h (fun hc h => ?_) (fun hc h => ?_)
  · refine kj_J.sub [1] rfl ?_
    exact ke0 x1 z (Option.some.inj h).symm
  · refine kj_lload_n F dX8_allSums_12 1 rfl rfl ?_
    refine kj_aload_n F dX8_allSums_13 0 rfl rfl ?_
    refine km_get F dX8_allSums_14 in_X8_allSums 24 (by decide) (by decide +kernel) rfl rfl ?_
    refine kj_iload_n F dX8_allSums_17 2 rfl rfl ?_
    refine km_lald F dX8_allSums_18 0 (by decide) rfl h (fun v1 h => ?_)
    refine kj_ladd F dX8_allSums_19 ?_
    refine kj_lstore_n F dX8_allSums_20 (lv' := [(1, .long (x1 + v1)), (0, .ref h0), (3, .int x3)]) rfl (by decide) rfl ?_
    refine kj_iinc F dX8_allSums_21 2 rfl (v := 1) (by decide) (by decide) (lv' := [(3, .int (x3 + 1)), (1, .long (x1 + v1)), (0, .ref h0)]) rfl ?_
    refine kj_goto F dX8_allSums_24 (tgt := 4) (by decide) ?_
    refine kj_J.sub [2, 1, 0] rfl ?_
    exact kb (x1 + v1) (x3 + 1) z (Option.some.inj h).symm
theorem jlm_allSums_4 {p : Program} {l : Launch} {e : Env} {s : State} {m : MethodId} {args : Array Value} {below : List Frame} {meth : Method} {c : Code} {A : Nat → Prop} {D : va_G} {cA : Nat → ClassId} {h0 : Nat} {q : Nat → Nat} {Q : State → Prop} (F : kj_Fx p s m args meth c cX8_allSums 4 wsX8_allSums RX8 (some .long) D (km_T cA) A) {n : Nat} {x1 : Int64} {x3 : Int32} {z : km_S} {r : (Int64 × km_S)} (h : lm_allSums_4 n x1 x3 z = some r) (ke : kj_J p l e rm_X8_allSums s m args below meth c 0 0 Q 4 D A ((km_w cA h0 q) (r.2)) 27 [(1, .long (r.1))] []) : kj_J p l e rm_X8_allSums s m args below meth c 0 0 Q 4 D A ((km_w cA h0 q) z) 4 [(0, .ref h0), (1, .long x1), (3, .int x3)] [] :=
  kj_it_J (Wh := fun (u : (Int64 × Int32 × km_S)) => kj_J p l e rm_X8_allSums s m args below meth c 0 0 Q 4 D A ((km_w cA h0 q) (u.2.2)) 4 [(0, .ref h0), (1, .long (u.1)), (3, .int (u.2.1))] []) (We := fun r => kj_J p l e rm_X8_allSums s m args below meth c 0 0 Q 4 D A ((km_w cA h0 q) (r.2)) 27 [(1, .long (r.1))] []) (fun u o h kb ke => jm_allSums_4 F h (fun a0' a1' a2' e => kb (a0', a1', a2') e) (fun a0' a1' e => ke (a0', a1') e)) n (x1, x3, z) r h ke
set_option maxRecDepth 20000 in
theorem jm_allSums {p : Program} {l : Launch} {e : Env} {s : State} {m : MethodId} {args : Array Value} {below : List Frame} {meth : Method} {c : Code} {A : Nat → Prop} {D : va_G} {cA : Nat → ClassId} {h0 : Nat} {q : Nat → Nat} (F : kj_Fx p s m args meth c cX8_allSums 4 wsX8_allSums RX8 (some .long) D (km_T cA) A) {z : km_S} {o : (Int64 × km_S)} (h : fm_allSums z = some o) : kj_J p l e rm_X8_allSums s m args below meth c 0 0 (MQ below (kj_Ql D (km_T cA) A (km_w cA h0 q) o) args s 0 0 A) 4 D A ((km_w cA h0 q) z) 0 [(0, .ref h0)] [] := by
  unfold fm_allSums at h
  refine kj_lconst F dX8_allSums_0 (v := 0) (by decide) ?_
  refine kj_lstore_n F dX8_allSums_1 (lv' := [(1, .long (0 : Int64)), (0, .ref h0)]) rfl (by decide) rfl ?_
  refine kj_iconst F dX8_allSums_2 (v := 0) (by decide) ?_
  refine kj_istore_n F dX8_allSums_3 (lv' := [(3, .int (0 : Int32)), (1, .long (0 : Int64)), (0, .ref h0)]) rfl (by decide) rfl ?_
  refine kj_J.sub [2, 1, 0] rfl ?_
  refine kj_bn h (fun r1 h1 h => ?_)
  refine jlm_allSums_4 F h1 ?_
  refine kj_lload_n F dX8_allSums_27 0 rfl rfl ?_
  exact kj_lret F dX8_allSums_28 h
theorem cm_allSums {l : Launch} {D : va_G} {cA : Nat → ClassId} {h0 : Nat} {q : Nat → Nat} {z : km_S} {o : (Int64 × km_S)} (h : fm_allSums z = some o) : kj_Ml l yX8_allSums wsX8_allSums rm_X8_allSums D (km_T cA) (km_w cA h0 q) z [.ref h0] o :=
  fun sz => kj_start (by decide) rfl (Nat.le_of_ble_eq_true rfl) rfl fun p e s m args below meth c hsz F => jm_allSums F h
/-! X8_weighed -/
abbrev rm_X8_weighed : Room := { frames := 2, cells := 0, slots := 0, locals := 44 }
theorem in_X8_weighed : ∀ w ∈ u_ws RX8 TX8 29, w ∈ wsX8_weighed := by decide +kernel
def fm_weighed_139 (x1 : Int32) (x2 : Int32) (x4 : Int32) (x5 : Int32) (x6 : Int32) (x7 : Int32) (x8 : Int32) (t0 : Int64) (z : km_S) : Option ((Int32 × Int32 × Int32 × Int32 × Int32 × Int32 × Int32 × km_S) ⊕ (Int32 × Int32 × Int32 × Int32 × Int32 × Int32 × km_S)) :=
  (km_rl z 1 x7).bind fun v1 =>
  if ((1000000007) : Int64) = 0 then none else
  (km_wl z 1 x7 ((v1 + t0) - (v1 + t0) / ((1000000007) : Int64) * ((1000000007) : Int64))).bind fun z2 =>
  some (.inl (x1, x2, x4, x5, x6, x7, (x8 + 1), z2))
def fm_weighed_138 (x1 : Int32) (x2 : Int32) (x4 : Int32) (x5 : Int32) (x6 : Int32) (x7 : Int32) (x8 : Int32) (z : km_S) : Option ((Int32 × Int32 × Int32 × Int32 × Int32 × Int32 × Int32 × km_S) ⊕ (Int32 × Int32 × Int32 × Int32 × Int32 × Int32 × km_S)) :=
  fm_weighed_139 x1 x2 x4 x5 x6 x7 x8 (0 : Int64) z
def fm_weighed_76 (x1 : Int32) (x2 : Int32) (x4 : Int32) (x5 : Int32) (x6 : Int32) (x7 : Int32) (x8 : Int32) (z : km_S) : Option ((Int32 × Int32 × Int32 × Int32 × Int32 × Int32 × Int32 × km_S) ⊕ (Int32 × Int32 × Int32 × Int32 × Int32 × Int32 × km_S)) :=
  if (z.1 5) ≤ x8 then
  some (.inr (x1, x2, x4, x5, x6, x7, z))
  else
  (km_rl z 0 x8).bind fun v1 =>
  if (lg_cmp v1 (0 : Int64)) ≤ 0 then
  fm_weighed_138 x1 x2 x4 x5 x6 x7 x8 z
  else
  (fm_isUnder x7 x8 x2 z).bind fun o2 =>
  if (o2.1) = 0 then
  fm_weighed_138 x1 x2 x4 x5 x6 x7 x8 (o2.2)
  else
  (km_rl (o2.2) 0 x8).bind fun v3 =>
  (fm_exponent x4 x6 x8 x7 x2 (o2.2)).bind fun o4 =>
  (fm_power x5 (o4.1)).bind fun o5 =>
  fm_weighed_139 x1 x2 x4 x5 x6 x7 x8 (v3 * o5) (o4.2)
def lm_weighed_76 (n : Nat) (x1 : Int32) (x2 : Int32) (x4 : Int32) (x5 : Int32) (x6 : Int32) (x7 : Int32) (x8 : Int32) (z : km_S) : Option (Int32 × Int32 × Int32 × Int32 × Int32 × Int32 × km_S) :=
  kj_it (fun (s : (Int32 × Int32 × Int32 × Int32 × Int32 × Int32 × Int32 × km_S)) => fm_weighed_76 (s.1) (s.2.1) (s.2.2.1) (s.2.2.2.1) (s.2.2.2.2.1) (s.2.2.2.2.2.1) (s.2.2.2.2.2.2.1) (s.2.2.2.2.2.2.2)) n (x1, x2, x4, x5, x6, x7, x8, z)
def fm_weighed_55 (x1 : Int32) (x2 : Int32) (x4 : Int32) (x5 : Int32) (x6 : Int32) (x7 : Int32) (z : km_S) : Option ((Int32 × Int32 × Int32 × Int32 × Int32 × Int32 × km_S) ⊕ (Int32 × Int32 × Int32 × Int32 × Int32 × km_S)) :=
  if (z.1 5) ≤ x7 then
  some (.inr (x1, x2, x4, x5, x6, z))
  else
  (km_wl z 1 x7 (0 : Int64)).bind fun z1 =>
  (lm_weighed_76 5000 x1 x2 x4 x5 x6 x7 x7 z1).bind fun r2 =>
  some (.inl ((r2.1), (r2.2.1), (r2.2.2.1), (r2.2.2.2.1), (r2.2.2.2.2.1), ((r2.2.2.2.2.2.1) + 1), (r2.2.2.2.2.2.2)))
def lm_weighed_55 (n : Nat) (x1 : Int32) (x2 : Int32) (x4 : Int32) (x5 : Int32) (x6 : Int32) (x7 : Int32) (z : km_S) : Option (Int32 × Int32 × Int32 × Int32 × Int32 × km_S) :=
  kj_it (fun (s : (Int32 × Int32 × Int32 × Int32 × Int32 × Int32 × km_S)) => fm_weighed_55 (s.1) (s.2.1) (s.2.2.1) (s.2.2.2.1) (s.2.2.2.2.1) (s.2.2.2.2.2.1) (s.2.2.2.2.2.2)) n (x1, x2, x4, x5, x6, x7, z)
def fm_weighed_46 (x1 : Int32) (x2 : Int32) (x4 : Int32) (x5 : Int32) (x6 : Int32) (z : km_S) : Option ((Int32 × Int32 × Int32 × Int32 × Int32 × km_S) ⊕ km_S) :=
  if x1 ≤ x6 then
  some (.inr z)
  else
  (lm_weighed_55 5000 x1 x2 x4 x5 x6 (0 : Int32) z).bind fun r1 =>
  (fm_nextRow (r1.2.2.2.2.2)).bind fun o2 =>
  some (.inl ((r1.1), (r1.2.1), (r1.2.2.1), (r1.2.2.2.1), ((r1.2.2.2.2.1) + 1), o2))
def lm_weighed_46 (n : Nat) (x1 : Int32) (x2 : Int32) (x4 : Int32) (x5 : Int32) (x6 : Int32) (z : km_S) : Option km_S :=
  kj_it (fun (s : (Int32 × Int32 × Int32 × Int32 × Int32 × km_S)) => fm_weighed_46 (s.1) (s.2.1) (s.2.2.1) (s.2.2.2.1) (s.2.2.2.2.1) (s.2.2.2.2.2)) n (x1, x2, x4, x5, x6, z)
def fm_weighed (x1 : Int32) (x2 : Int32) (x3 : Int32) (x4 : Int32) (x5 : Int32) (z : km_S) : Option (Int32 × km_S) :=
  (fm_isBox x1 x2 x3).bind fun o1 =>
  if o1 = 0 then
  some (((-1000001) : Int32), z)
  else
  (fm_in x4 (0 : Int32) (4 : Int32)).bind fun o2 =>
  if o2 = 0 then
  some (((-1000001) : Int32), z)
  else
  (fm_in x5 (1 : Int32) (9 : Int32)).bind fun o3 =>
  if o3 = 0 then
  some (((-1000001) : Int32), z)
  else
  (fm_laysRows x2 x3 z).bind fun o4 =>
  (fm_beginsSums o4).bind fun o5 =>
  (lm_weighed_46 5000 x1 x2 x4 x5 (0 : Int32) o5).bind fun r6 =>
  (fm_allSums (r6)).bind fun o7 =>
  if ((1000000007) : Int64) = 0 then none else
  some ((((o7.1) - (o7.1) / ((1000000007) : Int64) * ((1000000007) : Int64))).toInt32, (o7.2))
set_option maxRecDepth 20000 in
theorem jm_weighed_139 {p : Program} {l : Launch} {e : Env} {s : State} {m : MethodId} {args : Array Value} {below : List Frame} {meth : Method} {c : Code} {A : Nat → Prop} {D : va_G} {cA : Nat → ClassId} {h0 : Nat} {q : Nat → Nat} {Q : State → Prop} (F : kj_Fx p s m args meth c cX8_weighed 11 wsX8_weighed RX8 (some .int) D (km_T cA) A) {x1 : Int32} {x2 : Int32} {x4 : Int32} {x5 : Int32} {x6 : Int32} {x7 : Int32} {x8 : Int32} {t0 : Int64} {z : km_S} {o : ((Int32 × Int32 × Int32 × Int32 × Int32 × Int32 × Int32 × km_S) ⊕ (Int32 × Int32 × Int32 × Int32 × Int32 × Int32 × km_S))} (h : fm_weighed_139 x1 x2 x4 x5 x6 x7 x8 t0 z = some o) (kb : ∀ (a0' : Int32) (a1' : Int32) (a2' : Int32) (a3' : Int32) (a4' : Int32) (a5' : Int32) (a6' : Int32) (a7' : km_S), o = .inl (a0', a1', a2', a3', a4', a5', a6', a7') → kj_J p l e rm_X8_weighed s m args below meth c 0 0 Q 11 D A ((km_w cA h0 q) a7') 76 [(0, .ref h0), (1, .int a0'), (2, .int a1'), (4, .int a2'), (5, .int a3'), (6, .int a4'), (7, .int a5'), (8, .int a6')] []) (ke0 : ∀ (a0' : Int32) (a1' : Int32) (a2' : Int32) (a3' : Int32) (a4' : Int32) (a5' : Int32) (a6' : km_S), o = .inr (a0', a1', a2', a3', a4', a5', a6') → kj_J p l e rm_X8_weighed s m args below meth c 0 0 Q 11 D A ((km_w cA h0 q) a6') 168 [(0, .ref h0), (1, .int a0'), (2, .int a1'), (4, .int a2'), (5, .int a3'), (6, .int a4'), (7, .int a5')] []) : kj_J p l e rm_X8_weighed s m args below meth c 0 0 Q 11 D A ((km_w cA h0 q) z) 139 [(0, .ref h0), (1, .int x1), (2, .int x2), (4, .int x4), (5, .int x5), (6, .int x6), (7, .int x7), (8, .int x8)] [.long t0] := by
  unfold fm_weighed_139 at h
  refine kj_lstore F dX8_weighed_139 (lv' := [(9, .long t0), (0, .ref h0), (1, .int x1), (2, .int x2), (4, .int x4), (5, .int x5), (6, .int x6), (7, .int x7), (8, .int x8)]) (by decide) rfl ?_
  refine kj_aload_n F dX8_weighed_141 1 rfl rfl ?_
  refine km_get F dX8_weighed_142 in_X8_weighed 25 (by decide) (by decide +kernel) rfl rfl ?_
  refine kj_iload F dX8_weighed_145 7 rfl ?_
  refine kj_aload_n F dX8_weighed_147 1 rfl rfl ?_
  refine km_get F dX8_weighed_148 in_X8_weighed 25 (by decide) (by decide +kernel) rfl rfl ?_
  refine kj_iload F dX8_weighed_151 7 rfl ?_
  refine km_lald F dX8_weighed_153 1 (by decide) rfl h (fun v1 h => ?_)
  refine kj_lload F dX8_weighed_154 0 rfl ?_
  refine kj_ladd F dX8_weighed_156 ?_
  refine kj_ldc2 F dX8_weighed_157 (v := (1000000007)) (by decide +kernel) ?_
  refine kj_lrem F dX8_weighed_160 h (fun h => ?_)
  refine km_last F dX8_weighed_161 1 (by decide) rfl h (fun z2 h => ?_)
  refine kj_iinc F dX8_weighed_162 8 rfl (v := 1) (by decide) (by decide) (lv' := [(8, .int (x8 + 1)), (9, .long t0), (0, .ref h0), (1, .int x1), (2, .int x2), (4, .int x4), (5, .int x5), (6, .int x6), (7, .int x7)]) rfl ?_
  refine kj_goto F dX8_weighed_165 (tgt := 76) (by decide) ?_
  refine kj_J.sub [2, 3, 4, 5, 6, 7, 8, 0] rfl ?_
  exact kb x1 x2 x4 x5 x6 x7 (x8 + 1) z2 (Option.some.inj h).symm
set_option maxRecDepth 20000 in
theorem jm_weighed_138 {p : Program} {l : Launch} {e : Env} {s : State} {m : MethodId} {args : Array Value} {below : List Frame} {meth : Method} {c : Code} {A : Nat → Prop} {D : va_G} {cA : Nat → ClassId} {h0 : Nat} {q : Nat → Nat} {Q : State → Prop} (F : kj_Fx p s m args meth c cX8_weighed 11 wsX8_weighed RX8 (some .int) D (km_T cA) A) {x1 : Int32} {x2 : Int32} {x4 : Int32} {x5 : Int32} {x6 : Int32} {x7 : Int32} {x8 : Int32} {z : km_S} {o : ((Int32 × Int32 × Int32 × Int32 × Int32 × Int32 × Int32 × km_S) ⊕ (Int32 × Int32 × Int32 × Int32 × Int32 × Int32 × km_S))} (h : fm_weighed_138 x1 x2 x4 x5 x6 x7 x8 z = some o) (kb : ∀ (a0' : Int32) (a1' : Int32) (a2' : Int32) (a3' : Int32) (a4' : Int32) (a5' : Int32) (a6' : Int32) (a7' : km_S), o = .inl (a0', a1', a2', a3', a4', a5', a6', a7') → kj_J p l e rm_X8_weighed s m args below meth c 0 0 Q 11 D A ((km_w cA h0 q) a7') 76 [(0, .ref h0), (1, .int a0'), (2, .int a1'), (4, .int a2'), (5, .int a3'), (6, .int a4'), (7, .int a5'), (8, .int a6')] []) (ke0 : ∀ (a0' : Int32) (a1' : Int32) (a2' : Int32) (a3' : Int32) (a4' : Int32) (a5' : Int32) (a6' : km_S), o = .inr (a0', a1', a2', a3', a4', a5', a6') → kj_J p l e rm_X8_weighed s m args below meth c 0 0 Q 11 D A ((km_w cA h0 q) a6') 168 [(0, .ref h0), (1, .int a0'), (2, .int a1'), (4, .int a2'), (5, .int a3'), (6, .int a4'), (7, .int a5')] []) : kj_J p l e rm_X8_weighed s m args below meth c 0 0 Q 11 D A ((km_w cA h0 q) z) 138 [(0, .ref h0), (1, .int x1), (2, .int x2), (4, .int x4), (5, .int x5), (6, .int x6), (7, .int x7), (8, .int x8)] [] := by
  unfold fm_weighed_138 at h
  refine kj_lconst F dX8_weighed_138 (v := 0) (by decide) ?_
  exact jm_weighed_139 F h kb ke0
set_option maxRecDepth 20000 in
theorem jm_weighed_76 {p : Program} {l : Launch} {e : Env} {s : State} {m : MethodId} {args : Array Value} {below : List Frame} {meth : Method} {c : Code} {A : Nat → Prop} {D : va_G} {cA : Nat → ClassId} {h0 : Nat} {q : Nat → Nat} {Q : State → Prop} (F : kj_Fx p s m args meth c cX8_weighed 11 wsX8_weighed RX8 (some .int) D (km_T cA) A) {x1 : Int32} {x2 : Int32} {x4 : Int32} {x5 : Int32} {x6 : Int32} {x7 : Int32} {x8 : Int32} {z : km_S} {o : ((Int32 × Int32 × Int32 × Int32 × Int32 × Int32 × Int32 × km_S) ⊕ (Int32 × Int32 × Int32 × Int32 × Int32 × Int32 × km_S))} (h : fm_weighed_76 x1 x2 x4 x5 x6 x7 x8 z = some o) (kb : ∀ (a0' : Int32) (a1' : Int32) (a2' : Int32) (a3' : Int32) (a4' : Int32) (a5' : Int32) (a6' : Int32) (a7' : km_S), o = .inl (a0', a1', a2', a3', a4', a5', a6', a7') → kj_J p l e rm_X8_weighed s m args below meth c 0 0 Q 11 D A ((km_w cA h0 q) a7') 76 [(0, .ref h0), (1, .int a0'), (2, .int a1'), (4, .int a2'), (5, .int a3'), (6, .int a4'), (7, .int a5'), (8, .int a6')] []) (ke0 : ∀ (a0' : Int32) (a1' : Int32) (a2' : Int32) (a3' : Int32) (a4' : Int32) (a5' : Int32) (a6' : km_S), o = .inr (a0', a1', a2', a3', a4', a5', a6') → kj_J p l e rm_X8_weighed s m args below meth c 0 0 Q 11 D A ((km_w cA h0 q) a6') 168 [(0, .ref h0), (1, .int a0'), (2, .int a1'), (4, .int a2'), (5, .int a3'), (6, .int a4'), (7, .int a5')] []) : kj_J p l e rm_X8_weighed s m args below meth c 0 0 Q 11 D A ((km_w cA h0 q) z) 76 [(0, .ref h0), (1, .int x1), (2, .int x2), (4, .int x4), (5, .int x5), (6, .int x6), (7, .int x7), (8, .int x8)] [] := by
  unfold fm_weighed_76 at h
  refine kj_iload F dX8_weighed_76 7 rfl ?_
  refine kj_aload_n F dX8_weighed_78 0 rfl rfl ?_
  refine km_get F dX8_weighed_79 in_X8_weighed 14 (by decide) (by decide +kernel) rfl rfl ?_
  refine kj_icmp_ge F dX8_weighed_82 (tgt := 168) (by decide) h (fun hc h => ?_) (fun hc h => ?_)
  · refine kj_J.sub [0, 1, 2, 3, 4, 5, 6] rfl ?_
    exact ke0 x1 x2 x4 x5 x6 x7 z (Option.some.inj h).symm
  · refine kj_aload_n F dX8_weighed_85 0 rfl rfl ?_
    refine km_get F dX8_weighed_86 in_X8_weighed 24 (by decide) (by decide +kernel) rfl rfl ?_
    refine kj_iload F dX8_weighed_89 7 rfl ?_
    refine km_lald F dX8_weighed_91 0 (by decide) rfl h (fun v1 h => ?_)
    refine kj_lconst F dX8_weighed_92 (v := 0) (by decide) ?_
    refine kj_lcmp F dX8_weighed_93 ?_
    refine kj_if_le F dX8_weighed_94 (tgt := 138) (by decide) h (fun hc h => ?_) (fun hc h => ?_)
    · exact jm_weighed_138 F h kb ke0
    · refine kj_aload_n F dX8_weighed_97 0 rfl rfl ?_
      refine kj_iload F dX8_weighed_98 6 rfl ?_
      refine kj_iload F dX8_weighed_100 7 rfl ?_
      refine kj_iload_n F dX8_weighed_102 2 rfl rfl ?_
      refine kj_cVi (As := [.int x7, .int x8, .int x2]) (rest := []) F dX8_weighed_103 h (fun o h1 => cm_isUnder h1) (cwV 3 F.2.2.2.2.1 gX8_weighed_X8_isUnder rfl rfl rfl (by decide +kernel) ⟨Nat.le_of_ble_eq_true rfl, Nat.le_of_ble_eq_true rfl⟩) 0 rfl rfl rfl rfl rfl (Nat.le_of_ble_eq_true rfl) ⟨Nat.zero_le _, Nat.zero_le _⟩ (fun o2 h => ?_)
      refine kj_if_eq F dX8_weighed_106 (tgt := 138) (by decide) h (fun hc h => ?_) (fun hc h => ?_)
      · exact jm_weighed_138 F h kb ke0
      · refine kj_aload_n F dX8_weighed_109 0 rfl rfl ?_
        refine km_get F dX8_weighed_110 in_X8_weighed 24 (by decide) (by decide +kernel) rfl rfl ?_
        refine kj_iload F dX8_weighed_113 7 rfl ?_
        refine km_lald F dX8_weighed_115 0 (by decide) rfl h (fun v3 h => ?_)
        refine kj_iload F dX8_weighed_116 4 rfl ?_
        refine kj_aload_n F dX8_weighed_118 0 rfl rfl ?_
        refine kj_iload F dX8_weighed_119 3 rfl ?_
        refine kj_iload F dX8_weighed_121 5 rfl ?_
        refine kj_iload F dX8_weighed_123 7 rfl ?_
        refine kj_iload F dX8_weighed_125 6 rfl ?_
        refine kj_iload_n F dX8_weighed_127 2 rfl rfl ?_
        refine kj_cVi (As := [.int x4, .int x6, .int x8, .int x7, .int x2]) (rest := [.int x5, .long v3]) F dX8_weighed_128 h (fun o h1 => cm_exponent h1) (cwV 5 F.2.2.2.2.1 gX8_weighed_X8_exponent rfl rfl rfl (by decide +kernel) ⟨Nat.le_of_ble_eq_true rfl, Nat.le_of_ble_eq_true rfl⟩) 0 rfl rfl rfl rfl rfl (Nat.le_of_ble_eq_true rfl) ⟨Nat.zero_le _, Nat.zero_le _⟩ (fun o4 h => ?_)
        refine kj_cSlp (As := [.int x5, .int (o4.1)]) (rest := [.long v3]) F dX8_weighed_131 h (fun o h1 => cm_power (w := (km_w cA h0 q)) h1) (va_cwS 2 F.2.2.2.2.1 gX8_weighed_X8_power rfl rfl rfl (by decide +kernel) ⟨Nat.le_of_ble_eq_true rfl, Nat.le_of_ble_eq_true rfl⟩) rfl rfl (Nat.le_of_ble_eq_true rfl) ⟨Nat.zero_le _, Nat.zero_le _⟩ (fun o5 h => ?_)
        refine kj_lmul F dX8_weighed_134 ?_
        refine kj_goto F dX8_weighed_135 (tgt := 139) (by decide) ?_
        exact jm_weighed_139 F h kb ke0
theorem jlm_weighed_76 {p : Program} {l : Launch} {e : Env} {s : State} {m : MethodId} {args : Array Value} {below : List Frame} {meth : Method} {c : Code} {A : Nat → Prop} {D : va_G} {cA : Nat → ClassId} {h0 : Nat} {q : Nat → Nat} {Q : State → Prop} (F : kj_Fx p s m args meth c cX8_weighed 11 wsX8_weighed RX8 (some .int) D (km_T cA) A) {n : Nat} {x1 : Int32} {x2 : Int32} {x4 : Int32} {x5 : Int32} {x6 : Int32} {x7 : Int32} {x8 : Int32} {z : km_S} {r : (Int32 × Int32 × Int32 × Int32 × Int32 × Int32 × km_S)} (h : lm_weighed_76 n x1 x2 x4 x5 x6 x7 x8 z = some r) (ke : kj_J p l e rm_X8_weighed s m args below meth c 0 0 Q 11 D A ((km_w cA h0 q) (r.2.2.2.2.2.2)) 168 [(0, .ref h0), (1, .int (r.1)), (2, .int (r.2.1)), (4, .int (r.2.2.1)), (5, .int (r.2.2.2.1)), (6, .int (r.2.2.2.2.1)), (7, .int (r.2.2.2.2.2.1))] []) : kj_J p l e rm_X8_weighed s m args below meth c 0 0 Q 11 D A ((km_w cA h0 q) z) 76 [(0, .ref h0), (1, .int x1), (2, .int x2), (4, .int x4), (5, .int x5), (6, .int x6), (7, .int x7), (8, .int x8)] [] :=
  kj_it_J (Wh := fun (u : (Int32 × Int32 × Int32 × Int32 × Int32 × Int32 × Int32 × km_S)) => kj_J p l e rm_X8_weighed s m args below meth c 0 0 Q 11 D A ((km_w cA h0 q) (u.2.2.2.2.2.2.2)) 76 [(0, .ref h0), (1, .int (u.1)), (2, .int (u.2.1)), (4, .int (u.2.2.1)), (5, .int (u.2.2.2.1)), (6, .int (u.2.2.2.2.1)), (7, .int (u.2.2.2.2.2.1)), (8, .int (u.2.2.2.2.2.2.1))] []) (We := fun r => kj_J p l e rm_X8_weighed s m args below meth c 0 0 Q 11 D A ((km_w cA h0 q) (r.2.2.2.2.2.2)) 168 [(0, .ref h0), (1, .int (r.1)), (2, .int (r.2.1)), (4, .int (r.2.2.1)), (5, .int (r.2.2.2.1)), (6, .int (r.2.2.2.2.1)), (7, .int (r.2.2.2.2.2.1))] []) (fun u o h kb ke => jm_weighed_76 F h (fun a0' a1' a2' a3' a4' a5' a6' a7' e => kb (a0', a1', a2', a3', a4', a5', a6', a7') e) (fun a0' a1' a2' a3' a4' a5' a6' e => ke (a0', a1', a2', a3', a4', a5', a6') e)) n (x1, x2, x4, x5, x6, x7, x8, z) r h ke
set_option maxRecDepth 20000 in
theorem jm_weighed_55 {p : Program} {l : Launch} {e : Env} {s : State} {m : MethodId} {args : Array Value} {below : List Frame} {meth : Method} {c : Code} {A : Nat → Prop} {D : va_G} {cA : Nat → ClassId} {h0 : Nat} {q : Nat → Nat} {Q : State → Prop} (F : kj_Fx p s m args meth c cX8_weighed 11 wsX8_weighed RX8 (some .int) D (km_T cA) A) {x1 : Int32} {x2 : Int32} {x4 : Int32} {x5 : Int32} {x6 : Int32} {x7 : Int32} {z : km_S} {o : ((Int32 × Int32 × Int32 × Int32 × Int32 × Int32 × km_S) ⊕ (Int32 × Int32 × Int32 × Int32 × Int32 × km_S))} (h : fm_weighed_55 x1 x2 x4 x5 x6 x7 z = some o) (kb : ∀ (a0' : Int32) (a1' : Int32) (a2' : Int32) (a3' : Int32) (a4' : Int32) (a5' : Int32) (a6' : km_S), o = .inl (a0', a1', a2', a3', a4', a5', a6') → kj_J p l e rm_X8_weighed s m args below meth c 0 0 Q 11 D A ((km_w cA h0 q) a6') 55 [(0, .ref h0), (1, .int a0'), (2, .int a1'), (4, .int a2'), (5, .int a3'), (6, .int a4'), (7, .int a5')] []) (ke0 : ∀ (a0' : Int32) (a1' : Int32) (a2' : Int32) (a3' : Int32) (a4' : Int32) (a5' : km_S), o = .inr (a0', a1', a2', a3', a4', a5') → kj_J p l e rm_X8_weighed s m args below meth c 0 0 Q 11 D A ((km_w cA h0 q) a5') 174 [(0, .ref h0), (1, .int a0'), (2, .int a1'), (4, .int a2'), (5, .int a3'), (6, .int a4')] []) : kj_J p l e rm_X8_weighed s m args below meth c 0 0 Q 11 D A ((km_w cA h0 q) z) 55 [(0, .ref h0), (1, .int x1), (2, .int x2), (4, .int x4), (5, .int x5), (6, .int x6), (7, .int x7)] [] := by
  unfold fm_weighed_55 at h
  refine kj_iload F dX8_weighed_55 6 rfl ?_
  refine kj_aload_n F dX8_weighed_57 0 rfl rfl ?_
  refine km_get F dX8_weighed_58 in_X8_weighed 14 (by decide) (by decide +kernel) rfl rfl ?_
  refine kj_icmp_ge F dX8_weighed_61 (tgt := 174) (by decide) h (fun hc h => ?_) (fun hc h => ?_)
  · refine kj_J.sub [0, 1, 2, 3, 4, 5] rfl ?_
    exact ke0 x1 x2 x4 x5 x6 z (Option.some.inj h).symm
  · refine kj_aload_n F dX8_weighed_64 0 rfl rfl ?_
    refine km_get F dX8_weighed_65 in_X8_weighed 25 (by decide) (by decide +kernel) rfl rfl ?_
    refine kj_iload F dX8_weighed_68 6 rfl ?_
    refine kj_lconst F dX8_weighed_70 (v := 0) (by decide) ?_
    refine km_last F dX8_weighed_71 1 (by decide) rfl h (fun z1 h => ?_)
    refine kj_iload F dX8_weighed_72 6 rfl ?_
    refine kj_istore F dX8_weighed_74 (lv' := [(8, .int x7), (0, .ref h0), (1, .int x1), (2, .int x2), (4, .int x4), (5, .int x5), (6, .int x6), (7, .int x7)]) (by decide) rfl ?_
    refine kj_J.sub [1, 2, 3, 4, 5, 6, 7, 0] rfl ?_
    refine kj_bn h (fun r2 h1 h => ?_)
    refine jlm_weighed_76 F h1 ?_
    refine kj_iinc F dX8_weighed_168 6 rfl (v := 1) (by decide) (by decide) (lv' := [(7, .int ((r2.2.2.2.2.2.1) + 1)), (0, .ref h0), (1, .int (r2.1)), (2, .int (r2.2.1)), (4, .int (r2.2.2.1)), (5, .int (r2.2.2.2.1)), (6, .int (r2.2.2.2.2.1))]) rfl ?_
    refine kj_goto F dX8_weighed_171 (tgt := 55) (by decide) ?_
    refine kj_J.sub [1, 2, 3, 4, 5, 6, 0] rfl ?_
    exact kb (r2.1) (r2.2.1) (r2.2.2.1) (r2.2.2.2.1) (r2.2.2.2.2.1) ((r2.2.2.2.2.2.1) + 1) (r2.2.2.2.2.2.2) (Option.some.inj h).symm
theorem jlm_weighed_55 {p : Program} {l : Launch} {e : Env} {s : State} {m : MethodId} {args : Array Value} {below : List Frame} {meth : Method} {c : Code} {A : Nat → Prop} {D : va_G} {cA : Nat → ClassId} {h0 : Nat} {q : Nat → Nat} {Q : State → Prop} (F : kj_Fx p s m args meth c cX8_weighed 11 wsX8_weighed RX8 (some .int) D (km_T cA) A) {n : Nat} {x1 : Int32} {x2 : Int32} {x4 : Int32} {x5 : Int32} {x6 : Int32} {x7 : Int32} {z : km_S} {r : (Int32 × Int32 × Int32 × Int32 × Int32 × km_S)} (h : lm_weighed_55 n x1 x2 x4 x5 x6 x7 z = some r) (ke : kj_J p l e rm_X8_weighed s m args below meth c 0 0 Q 11 D A ((km_w cA h0 q) (r.2.2.2.2.2)) 174 [(0, .ref h0), (1, .int (r.1)), (2, .int (r.2.1)), (4, .int (r.2.2.1)), (5, .int (r.2.2.2.1)), (6, .int (r.2.2.2.2.1))] []) : kj_J p l e rm_X8_weighed s m args below meth c 0 0 Q 11 D A ((km_w cA h0 q) z) 55 [(0, .ref h0), (1, .int x1), (2, .int x2), (4, .int x4), (5, .int x5), (6, .int x6), (7, .int x7)] [] :=
  kj_it_J (Wh := fun (u : (Int32 × Int32 × Int32 × Int32 × Int32 × Int32 × km_S)) => kj_J p l e rm_X8_weighed s m args below meth c 0 0 Q 11 D A ((km_w cA h0 q) (u.2.2.2.2.2.2)) 55 [(0, .ref h0), (1, .int (u.1)), (2, .int (u.2.1)), (4, .int (u.2.2.1)), (5, .int (u.2.2.2.1)), (6, .int (u.2.2.2.2.1)), (7, .int (u.2.2.2.2.2.1))] []) (We := fun r => kj_J p l e rm_X8_weighed s m args below meth c 0 0 Q 11 D A ((km_w cA h0 q) (r.2.2.2.2.2)) 174 [(0, .ref h0), (1, .int (r.1)), (2, .int (r.2.1)), (4, .int (r.2.2.1)), (5, .int (r.2.2.2.1)), (6, .int (r.2.2.2.2.1))] []) (fun u o h kb ke => jm_weighed_55 F h (fun a0' a1' a2' a3' a4' a5' a6' e => kb (a0', a1', a2', a3', a4', a5', a6') e) (fun a0' a1' a2' a3' a4' a5' e => ke (a0', a1', a2', a3', a4', a5') e)) n (x1, x2, x4, x5, x6, x7, z) r h ke
set_option maxRecDepth 20000 in
theorem jm_weighed_46 {p : Program} {l : Launch} {e : Env} {s : State} {m : MethodId} {args : Array Value} {below : List Frame} {meth : Method} {c : Code} {A : Nat → Prop} {D : va_G} {cA : Nat → ClassId} {h0 : Nat} {q : Nat → Nat} {Q : State → Prop} (F : kj_Fx p s m args meth c cX8_weighed 11 wsX8_weighed RX8 (some .int) D (km_T cA) A) {x1 : Int32} {x2 : Int32} {x4 : Int32} {x5 : Int32} {x6 : Int32} {z : km_S} {o : ((Int32 × Int32 × Int32 × Int32 × Int32 × km_S) ⊕ km_S)} (h : fm_weighed_46 x1 x2 x4 x5 x6 z = some o) (kb : ∀ (a0' : Int32) (a1' : Int32) (a2' : Int32) (a3' : Int32) (a4' : Int32) (a5' : km_S), o = .inl (a0', a1', a2', a3', a4', a5') → kj_J p l e rm_X8_weighed s m args below meth c 0 0 Q 11 D A ((km_w cA h0 q) a5') 46 [(0, .ref h0), (1, .int a0'), (2, .int a1'), (4, .int a2'), (5, .int a3'), (6, .int a4')] []) (ke0 : ∀ (a0' : km_S), o = .inr a0' → kj_J p l e rm_X8_weighed s m args below meth c 0 0 Q 11 D A ((km_w cA h0 q) a0') 184 [(0, .ref h0)] []) : kj_J p l e rm_X8_weighed s m args below meth c 0 0 Q 11 D A ((km_w cA h0 q) z) 46 [(0, .ref h0), (1, .int x1), (2, .int x2), (4, .int x4), (5, .int x5), (6, .int x6)] [] := by
  unfold fm_weighed_46 at h
  refine kj_iload F dX8_weighed_46 5 rfl ?_
  refine kj_iload_n F dX8_weighed_48 1 rfl rfl ?_
  refine kj_icmp_ge F dX8_weighed_49 (tgt := 184) (by decide) h (fun hc h => ?_) (fun hc h => ?_)
  · refine kj_J.sub [0] rfl ?_
    exact ke0 z (Option.some.inj h).symm
  · refine kj_iconst F dX8_weighed_52 (v := 0) (by decide) ?_
    refine kj_istore F dX8_weighed_53 (lv' := [(7, .int (0 : Int32)), (0, .ref h0), (1, .int x1), (2, .int x2), (4, .int x4), (5, .int x5), (6, .int x6)]) (by decide) rfl ?_
    refine kj_J.sub [1, 2, 3, 4, 5, 6, 0] rfl ?_
    refine kj_bn h (fun r1 h1 h => ?_)
    refine jlm_weighed_55 F h1 ?_
    refine kj_aload_n F dX8_weighed_174 0 rfl rfl ?_
    refine kj_cVv (As := []) (rest := []) F dX8_weighed_175 h (fun o h1 => cm_nextRow h1) (cwV 0 F.2.2.2.2.1 gX8_weighed_X8_nextRow rfl rfl rfl (by decide +kernel) ⟨Nat.le_of_ble_eq_true rfl, Nat.le_of_ble_eq_true rfl⟩) 0 rfl rfl rfl rfl rfl (Nat.le_of_ble_eq_true rfl) ⟨Nat.zero_le _, Nat.zero_le _⟩ (fun o2 h => ?_)
    refine kj_iinc F dX8_weighed_178 5 rfl (v := 1) (by decide) (by decide) (lv' := [(6, .int ((r1.2.2.2.2.1) + 1)), (0, .ref h0), (1, .int (r1.1)), (2, .int (r1.2.1)), (4, .int (r1.2.2.1)), (5, .int (r1.2.2.2.1))]) rfl ?_
    refine kj_goto F dX8_weighed_181 (tgt := 46) (by decide) ?_
    refine kj_J.sub [1, 2, 3, 4, 5, 0] rfl ?_
    exact kb (r1.1) (r1.2.1) (r1.2.2.1) (r1.2.2.2.1) ((r1.2.2.2.2.1) + 1) o2 (Option.some.inj h).symm
theorem jlm_weighed_46 {p : Program} {l : Launch} {e : Env} {s : State} {m : MethodId} {args : Array Value} {below : List Frame} {meth : Method} {c : Code} {A : Nat → Prop} {D : va_G} {cA : Nat → ClassId} {h0 : Nat} {q : Nat → Nat} {Q : State → Prop} (F : kj_Fx p s m args meth c cX8_weighed 11 wsX8_weighed RX8 (some .int) D (km_T cA) A) {n : Nat} {x1 : Int32} {x2 : Int32} {x4 : Int32} {x5 : Int32} {x6 : Int32} {z : km_S} {r : km_S} (h : lm_weighed_46 n x1 x2 x4 x5 x6 z = some r) (ke : kj_J p l e rm_X8_weighed s m args below meth c 0 0 Q 11 D A ((km_w cA h0 q) (r)) 184 [(0, .ref h0)] []) : kj_J p l e rm_X8_weighed s m args below meth c 0 0 Q 11 D A ((km_w cA h0 q) z) 46 [(0, .ref h0), (1, .int x1), (2, .int x2), (4, .int x4), (5, .int x5), (6, .int x6)] [] :=
  kj_it_J (Wh := fun (u : (Int32 × Int32 × Int32 × Int32 × Int32 × km_S)) => kj_J p l e rm_X8_weighed s m args below meth c 0 0 Q 11 D A ((km_w cA h0 q) (u.2.2.2.2.2)) 46 [(0, .ref h0), (1, .int (u.1)), (2, .int (u.2.1)), (4, .int (u.2.2.1)), (5, .int (u.2.2.2.1)), (6, .int (u.2.2.2.2.1))] []) (We := fun r => kj_J p l e rm_X8_weighed s m args below meth c 0 0 Q 11 D A ((km_w cA h0 q) (r)) 184 [(0, .ref h0)] []) (fun u o h kb ke => jm_weighed_46 F h (fun a0' a1' a2' a3' a4' a5' e => kb (a0', a1', a2', a3', a4', a5') e) (fun a0' e => ke a0' e)) n (x1, x2, x4, x5, x6, z) r h ke
set_option maxRecDepth 20000 in
theorem jm_weighed {p : Program} {l : Launch} {e : Env} {s : State} {m : MethodId} {args : Array Value} {below : List Frame} {meth : Method} {c : Code} {A : Nat → Prop} {D : va_G} {cA : Nat → ClassId} {h0 : Nat} {q : Nat → Nat} (F : kj_Fx p s m args meth c cX8_weighed 11 wsX8_weighed RX8 (some .int) D (km_T cA) A) {x1 : Int32} {x2 : Int32} {x3 : Int32} {x4 : Int32} {x5 : Int32} {z : km_S} {o : (Int32 × km_S)} (h : fm_weighed x1 x2 x3 x4 x5 z = some o) : kj_J p l e rm_X8_weighed s m args below meth c 0 0 (MQ below (kj_Qi D (km_T cA) A (km_w cA h0 q) o) args s 0 0 A) 11 D A ((km_w cA h0 q) z) 0 [(0, .ref h0), (1, .int x1), (2, .int x2), (3, .int x3), (4, .int x4), (5, .int x5)] [] := by
  unfold fm_weighed at h
  refine kj_iload_n F dX8_weighed_0 1 rfl rfl ?_
  refine kj_iload_n F dX8_weighed_1 2 rfl rfl ?_
  refine kj_iload_n F dX8_weighed_2 3 rfl rfl ?_
  refine kj_cSip (As := [.int x1, .int x2, .int x3]) (rest := []) F dX8_weighed_3 h (fun o h1 => cm_isBox (w := (km_w cA h0 q)) h1) (va_cwS 3 F.2.2.2.2.1 gX8_weighed_X8_isBox rfl rfl rfl (by decide +kernel) ⟨Nat.le_of_ble_eq_true rfl, Nat.le_of_ble_eq_true rfl⟩) rfl rfl (Nat.le_of_ble_eq_true rfl) ⟨Nat.zero_le _, Nat.zero_le _⟩ (fun o1 h => ?_)
  refine kj_if_eq F dX8_weighed_6 (tgt := 30) (by decide) h (fun hc h => ?_) (fun hc h => ?_)
  · refine kj_ldc F dX8_weighed_30 (v := (-1000001)) (by decide +kernel) ?_
    exact kj_iret F dX8_weighed_32 h
  · refine kj_iload F dX8_weighed_9 4 rfl ?_
    refine kj_iconst F dX8_weighed_11 (v := 0) (by decide) ?_
    refine kj_iconst F dX8_weighed_12 (v := 4) (by decide) ?_
    refine kj_cSip (As := [.int x4, .int (0 : Int32), .int (4 : Int32)]) (rest := []) F dX8_weighed_13 h (fun o h1 => cm_in (w := (km_w cA h0 q)) h1) (va_cwS 3 F.2.2.2.2.1 gX8_weighed_X8_in rfl rfl rfl (by decide +kernel) ⟨Nat.le_of_ble_eq_true rfl, Nat.le_of_ble_eq_true rfl⟩) rfl rfl (Nat.le_of_ble_eq_true rfl) ⟨Nat.zero_le _, Nat.zero_le _⟩ (fun o2 h => ?_)
    refine kj_if_eq F dX8_weighed_16 (tgt := 30) (by decide) h (fun hc h => ?_) (fun hc h => ?_)
    · refine kj_ldc F dX8_weighed_30 (v := (-1000001)) (by decide +kernel) ?_
      exact kj_iret F dX8_weighed_32 h
    · refine kj_iload F dX8_weighed_19 5 rfl ?_
      refine kj_iconst F dX8_weighed_21 (v := 1) (by decide) ?_
      refine kj_bipush F dX8_weighed_22 (v := 9) (by decide) ?_
      refine kj_cSip (As := [.int x5, .int (1 : Int32), .int (9 : Int32)]) (rest := []) F dX8_weighed_24 h (fun o h1 => cm_in (w := (km_w cA h0 q)) h1) (va_cwS 3 F.2.2.2.2.1 gX8_weighed_X8_in rfl rfl rfl (by decide +kernel) ⟨Nat.le_of_ble_eq_true rfl, Nat.le_of_ble_eq_true rfl⟩) rfl rfl (Nat.le_of_ble_eq_true rfl) ⟨Nat.zero_le _, Nat.zero_le _⟩ (fun o3 h => ?_)
      refine kj_if_ne F dX8_weighed_27 (tgt := 33) (by decide) h (fun hc h => ?_) (fun hc h => ?_)
      · refine kj_ldc F dX8_weighed_30 (v := (-1000001)) (by decide +kernel) ?_
        exact kj_iret F dX8_weighed_32 h
      · refine kj_aload_n F dX8_weighed_33 0 rfl rfl ?_
        refine kj_iload_n F dX8_weighed_34 2 rfl rfl ?_
        refine kj_iload_n F dX8_weighed_35 3 rfl rfl ?_
        refine kj_cVv (As := [.int x2, .int x3]) (rest := []) F dX8_weighed_36 h (fun o h1 => cm_laysRows h1) (cwV 2 F.2.2.2.2.1 gX8_weighed_X8_laysRows rfl rfl rfl (by decide +kernel) ⟨Nat.le_of_ble_eq_true rfl, Nat.le_of_ble_eq_true rfl⟩) 0 rfl rfl rfl rfl rfl (Nat.le_of_ble_eq_true rfl) ⟨Nat.zero_le _, Nat.zero_le _⟩ (fun o4 h => ?_)
        refine kj_aload_n F dX8_weighed_39 0 rfl rfl ?_
        refine kj_cVv (As := []) (rest := []) F dX8_weighed_40 h (fun o h1 => cm_beginsSums h1) (cwV 0 F.2.2.2.2.1 gX8_weighed_X8_beginsSums rfl rfl rfl (by decide +kernel) ⟨Nat.le_of_ble_eq_true rfl, Nat.le_of_ble_eq_true rfl⟩) 0 rfl rfl rfl rfl rfl (Nat.le_of_ble_eq_true rfl) ⟨Nat.zero_le _, Nat.zero_le _⟩ (fun o5 h => ?_)
        refine kj_iconst F dX8_weighed_43 (v := 0) (by decide) ?_
        refine kj_istore F dX8_weighed_44 (lv' := [(6, .int (0 : Int32)), (0, .ref h0), (1, .int x1), (2, .int x2), (3, .int x3), (4, .int x4), (5, .int x5)]) (by decide) rfl ?_
        refine kj_J.sub [1, 2, 3, 5, 6, 0] rfl ?_
        refine kj_bn h (fun r6 h1 h => ?_)
        refine jlm_weighed_46 F h1 ?_
        refine kj_aload_n F dX8_weighed_184 0 rfl rfl ?_
        refine kj_cVl (As := []) (rest := []) F dX8_weighed_185 h (fun o h1 => cm_allSums h1) (cwV 0 F.2.2.2.2.1 gX8_weighed_X8_allSums rfl rfl rfl (by decide +kernel) ⟨Nat.le_of_ble_eq_true rfl, Nat.le_of_ble_eq_true rfl⟩) 0 rfl rfl rfl rfl rfl (Nat.le_of_ble_eq_true rfl) ⟨Nat.zero_le _, Nat.zero_le _⟩ (fun o7 h => ?_)
        refine kj_ldc2 F dX8_weighed_188 (v := (1000000007)) (by decide +kernel) ?_
        refine kj_lrem F dX8_weighed_191 h (fun h => ?_)
        refine kj_l2i F dX8_weighed_192 ?_
        exact kj_iret F dX8_weighed_193 h
theorem cm_weighed {l : Launch} {D : va_G} {cA : Nat → ClassId} {h0 : Nat} {q : Nat → Nat} {x1 : Int32} {x2 : Int32} {x3 : Int32} {x4 : Int32} {x5 : Int32} {z : km_S} {o : (Int32 × km_S)} (h : fm_weighed x1 x2 x3 x4 x5 z = some o) : kj_Mi l yX8_weighed wsX8_weighed rm_X8_weighed D (km_T cA) (km_w cA h0 q) z [.ref h0, .int x1, .int x2, .int x3, .int x4, .int x5] o :=
  fun sz => kj_start (by decide) rfl (Nat.le_of_ble_eq_true rfl) rfl fun p e s m args below meth c hsz F => jm_weighed F h
/-! X8_symmetric -/
abbrev rm_X8_symmetric : Room := { frames := 4, cells := 0, slots := 0, locals := 99 }
theorem in_X8_symmetric : ∀ w ∈ u_ws RX8 TX8 29, w ∈ wsX8_symmetric := by decide +kernel
def fm_symmetric_89 (x1 : Int32) (x2 : Int32) (x3 : Int32) (x4 : Int32) (x5 : Int32) (x7 : Int32) (t0 : Int32) (t1 : Int32) (z : km_S) : Option ((Int32 × Int32 × Int32 × Int32 × Int32 × Int32 × Int32 × km_S) ⊕ (Int32 × km_S)) :=
  some (.inl (x1, x2, x3, x4, x5, (t1 + t0), (x7 + 1), z))
def fm_symmetric_49 (x1 : Int32) (x2 : Int32) (x3 : Int32) (x4 : Int32) (x5 : Int32) (x6 : Int32) (x7 : Int32) (z : km_S) : Option ((Int32 × Int32 × Int32 × Int32 × Int32 × Int32 × Int32 × km_S) ⊕ (Int32 × km_S)) :=
  if x5 ≤ x7 then
  some (.inr (x6, z))
  else
  (fm_makes x1 x2 x3 x7 z).bind fun o1 =>
  (fm_symmetries 4 (0 : Int32) o1).bind fun o2 =>
  if (x4 &&& ((o2.1) ^^^ (-1 : Int32))) = 0 then
  fm_symmetric_89 x1 x2 x3 x4 x5 x7 (1 : Int32) x6 (o2.2)
  else
  fm_symmetric_89 x1 x2 x3 x4 x5 x7 (0 : Int32) x6 (o2.2)
def lm_symmetric_49 (n : Nat) (x1 : Int32) (x2 : Int32) (x3 : Int32) (x4 : Int32) (x5 : Int32) (x6 : Int32) (x7 : Int32) (z : km_S) : Option (Int32 × km_S) :=
  kj_it (fun (s : (Int32 × Int32 × Int32 × Int32 × Int32 × Int32 × Int32 × km_S)) => fm_symmetric_49 (s.1) (s.2.1) (s.2.2.1) (s.2.2.2.1) (s.2.2.2.2.1) (s.2.2.2.2.2.1) (s.2.2.2.2.2.2.1) (s.2.2.2.2.2.2.2)) n (x1, x2, x3, x4, x5, x6, x7, z)
def fm_symmetric (x1 : Int32) (x2 : Int32) (x3 : Int32) (x4 : Int32) (z : km_S) : Option (Int32 × km_S) :=
  (fm_isBox x1 x2 x3).bind fun o1 =>
  if o1 = 0 then
  some (((-1000001) : Int32), z)
  else
  (fm_in x4 (0 : Int32) (15 : Int32)).bind fun o2 =>
  if o2 = 0 then
  some (((-1000001) : Int32), z)
  else
  (fm_lays x1 x2 x3 z).bind fun o3 =>
  if (o3.1) ≤ (1000 : Int32) then
  (lm_symmetric_49 5000 x1 x2 x3 x4 (o3.1) (0 : Int32) (0 : Int32) (o3.2)).bind fun r4 =>
  some ((r4.1), (r4.2))
  else
  some (((-1000003) : Int32), (o3.2))
set_option maxRecDepth 20000 in
theorem jm_symmetric_89 {p : Program} {l : Launch} {e : Env} {s : State} {m : MethodId} {args : Array Value} {below : List Frame} {meth : Method} {c : Code} {A : Nat → Prop} {D : va_G} {cA : Nat → ClassId} {h0 : Nat} {q : Nat → Nat} {Q : State → Prop} (F : kj_Fx p s m args meth c cX8_symmetric 8 wsX8_symmetric RX8 (some .int) D (km_T cA) A) {x1 : Int32} {x2 : Int32} {x3 : Int32} {x4 : Int32} {x5 : Int32} {x7 : Int32} {t0 : Int32} {t1 : Int32} {z : km_S} {o : ((Int32 × Int32 × Int32 × Int32 × Int32 × Int32 × Int32 × km_S) ⊕ (Int32 × km_S))} (h : fm_symmetric_89 x1 x2 x3 x4 x5 x7 t0 t1 z = some o) (kb : ∀ (a0' : Int32) (a1' : Int32) (a2' : Int32) (a3' : Int32) (a4' : Int32) (a5' : Int32) (a6' : Int32) (a7' : km_S), o = .inl (a0', a1', a2', a3', a4', a5', a6', a7') → kj_J p l e rm_X8_symmetric s m args below meth c 0 0 Q 8 D A ((km_w cA h0 q) a7') 49 [(0, .ref h0), (1, .int a0'), (2, .int a1'), (3, .int a2'), (4, .int a3'), (5, .int a4'), (6, .int a5'), (7, .int a6')] []) (ke0 : ∀ (a0' : Int32) (a1' : km_S), o = .inr (a0', a1') → kj_J p l e rm_X8_symmetric s m args below meth c 0 0 Q 8 D A ((km_w cA h0 q) a1') 98 [(6, .int a0')] []) : kj_J p l e rm_X8_symmetric s m args below meth c 0 0 Q 8 D A ((km_w cA h0 q) z) 89 [(0, .ref h0), (1, .int x1), (2, .int x2), (3, .int x3), (4, .int x4), (5, .int x5), (7, .int x7)] [.int t0, .int t1] := by
  unfold fm_symmetric_89 at h
  refine kj_iadd F dX8_symmetric_89 ?_
  refine kj_istore F dX8_symmetric_90 (lv' := [(6, .int (t1 + t0)), (0, .ref h0), (1, .int x1), (2, .int x2), (3, .int x3), (4, .int x4), (5, .int x5), (7, .int x7)]) (by decide) rfl ?_
  refine kj_iinc F dX8_symmetric_92 7 rfl (v := 1) (by decide) (by decide) (lv' := [(7, .int (x7 + 1)), (6, .int (t1 + t0)), (0, .ref h0), (1, .int x1), (2, .int x2), (3, .int x3), (4, .int x4), (5, .int x5)]) rfl ?_
  refine kj_goto F dX8_symmetric_95 (tgt := 49) (by decide) ?_
  refine kj_J.sub [2, 3, 4, 5, 6, 7, 1, 0] rfl ?_
  exact kb x1 x2 x3 x4 x5 (t1 + t0) (x7 + 1) z (Option.some.inj h).symm
set_option maxRecDepth 20000 in
theorem jm_symmetric_49 {p : Program} {l : Launch} {e : Env} {s : State} {m : MethodId} {args : Array Value} {below : List Frame} {meth : Method} {c : Code} {A : Nat → Prop} {D : va_G} {cA : Nat → ClassId} {h0 : Nat} {q : Nat → Nat} {Q : State → Prop} (F : kj_Fx p s m args meth c cX8_symmetric 8 wsX8_symmetric RX8 (some .int) D (km_T cA) A) {x1 : Int32} {x2 : Int32} {x3 : Int32} {x4 : Int32} {x5 : Int32} {x6 : Int32} {x7 : Int32} {z : km_S} {o : ((Int32 × Int32 × Int32 × Int32 × Int32 × Int32 × Int32 × km_S) ⊕ (Int32 × km_S))} (h : fm_symmetric_49 x1 x2 x3 x4 x5 x6 x7 z = some o) (kb : ∀ (a0' : Int32) (a1' : Int32) (a2' : Int32) (a3' : Int32) (a4' : Int32) (a5' : Int32) (a6' : Int32) (a7' : km_S), o = .inl (a0', a1', a2', a3', a4', a5', a6', a7') → kj_J p l e rm_X8_symmetric s m args below meth c 0 0 Q 8 D A ((km_w cA h0 q) a7') 49 [(0, .ref h0), (1, .int a0'), (2, .int a1'), (3, .int a2'), (4, .int a3'), (5, .int a4'), (6, .int a5'), (7, .int a6')] []) (ke0 : ∀ (a0' : Int32) (a1' : km_S), o = .inr (a0', a1') → kj_J p l e rm_X8_symmetric s m args below meth c 0 0 Q 8 D A ((km_w cA h0 q) a1') 98 [(6, .int a0')] []) : kj_J p l e rm_X8_symmetric s m args below meth c 0 0 Q 8 D A ((km_w cA h0 q) z) 49 [(0, .ref h0), (1, .int x1), (2, .int x2), (3, .int x3), (4, .int x4), (5, .int x5), (6, .int x6), (7, .int x7)] [] := by
  unfold fm_symmetric_49 at h
  refine kj_iload F dX8_symmetric_49 7 rfl ?_
  refine kj_iload F dX8_symmetric_51 5 rfl ?_
  refine kj_icmp_ge F dX8_symmetric_53 (tgt := 98) (by decide) h (fun hc h => ?_) (fun hc h => ?_)
  · refine kj_J.sub [6] rfl ?_
    exact ke0 x6 z (Option.some.inj h).symm
  · refine kj_aload_n F dX8_symmetric_56 0 rfl rfl ?_
    refine kj_iload_n F dX8_symmetric_57 1 rfl rfl ?_
    refine kj_iload_n F dX8_symmetric_58 2 rfl rfl ?_
    refine kj_iload_n F dX8_symmetric_59 3 rfl rfl ?_
    refine kj_iload F dX8_symmetric_60 7 rfl ?_
    refine kj_cVv (As := [.int x1, .int x2, .int x3, .int x7]) (rest := []) F dX8_symmetric_62 h (fun o h1 => cm_makes h1) (cwV 4 F.2.2.2.2.1 gX8_symmetric_X8_makes rfl rfl rfl (by decide +kernel) ⟨Nat.le_of_ble_eq_true rfl, Nat.le_of_ble_eq_true rfl⟩) 0 rfl rfl rfl rfl rfl (Nat.le_of_ble_eq_true rfl) ⟨Nat.zero_le _, Nat.zero_le _⟩ (fun o1 h => ?_)
    refine kj_iload F dX8_symmetric_65 6 rfl ?_
    refine kj_iload F dX8_symmetric_67 4 rfl ?_
    refine kj_aload_n F dX8_symmetric_69 0 rfl rfl ?_
    refine kj_aload_n F dX8_symmetric_70 0 rfl rfl ?_
    refine km_get F dX8_symmetric_71 in_X8_symmetric 8 (by decide) (by decide +kernel) rfl rfl ?_
    refine kj_iconst F dX8_symmetric_74 (v := 0) (by decide) ?_
    refine kj_cVi (As := [.ref (q 4), .int (0 : Int32)]) (rest := [.int x4, .int x6]) F dX8_symmetric_75 h (fun o h1 => cm_symmetries (by decide) h1) (cwV 2 F.2.2.2.2.1 gX8_symmetric_X8_symmetries rfl rfl rfl (by decide +kernel) ⟨Nat.le_of_ble_eq_true rfl, Nat.le_of_ble_eq_true rfl⟩) 0 rfl rfl rfl rfl rfl (Nat.le_of_ble_eq_true rfl) ⟨Nat.zero_le _, Nat.zero_le _⟩ (fun o2 h => ?_)
    refine kj_iconst F dX8_symmetric_78 (v := (-1)) (by decide) ?_
    refine kj_ixor F dX8_symmetric_79 ?_
    refine kj_iand F dX8_symmetric_80 ?_
    refine kj_if_ne F dX8_symmetric_81 (tgt := 88) (by decide) h (fun hc h => ?_) (fun hc h => ?_)
    · refine kj_iconst F dX8_symmetric_84 (v := 1) (by decide) ?_
      refine kj_goto F dX8_symmetric_85 (tgt := 89) (by decide) ?_
      refine kj_J.sub [0, 1, 2, 3, 4, 5, 7] rfl ?_
      exact jm_symmetric_89 F h kb ke0
    · refine kj_iconst F dX8_symmetric_88 (v := 0) (by decide) ?_
      refine kj_J.sub [0, 1, 2, 3, 4, 5, 7] rfl ?_
      exact jm_symmetric_89 F h kb ke0
theorem jlm_symmetric_49 {p : Program} {l : Launch} {e : Env} {s : State} {m : MethodId} {args : Array Value} {below : List Frame} {meth : Method} {c : Code} {A : Nat → Prop} {D : va_G} {cA : Nat → ClassId} {h0 : Nat} {q : Nat → Nat} {Q : State → Prop} (F : kj_Fx p s m args meth c cX8_symmetric 8 wsX8_symmetric RX8 (some .int) D (km_T cA) A) {n : Nat} {x1 : Int32} {x2 : Int32} {x3 : Int32} {x4 : Int32} {x5 : Int32} {x6 : Int32} {x7 : Int32} {z : km_S} {r : (Int32 × km_S)} (h : lm_symmetric_49 n x1 x2 x3 x4 x5 x6 x7 z = some r) (ke : kj_J p l e rm_X8_symmetric s m args below meth c 0 0 Q 8 D A ((km_w cA h0 q) (r.2)) 98 [(6, .int (r.1))] []) : kj_J p l e rm_X8_symmetric s m args below meth c 0 0 Q 8 D A ((km_w cA h0 q) z) 49 [(0, .ref h0), (1, .int x1), (2, .int x2), (3, .int x3), (4, .int x4), (5, .int x5), (6, .int x6), (7, .int x7)] [] :=
  kj_it_J (Wh := fun (u : (Int32 × Int32 × Int32 × Int32 × Int32 × Int32 × Int32 × km_S)) => kj_J p l e rm_X8_symmetric s m args below meth c 0 0 Q 8 D A ((km_w cA h0 q) (u.2.2.2.2.2.2.2)) 49 [(0, .ref h0), (1, .int (u.1)), (2, .int (u.2.1)), (3, .int (u.2.2.1)), (4, .int (u.2.2.2.1)), (5, .int (u.2.2.2.2.1)), (6, .int (u.2.2.2.2.2.1)), (7, .int (u.2.2.2.2.2.2.1))] []) (We := fun r => kj_J p l e rm_X8_symmetric s m args below meth c 0 0 Q 8 D A ((km_w cA h0 q) (r.2)) 98 [(6, .int (r.1))] []) (fun u o h kb ke => jm_symmetric_49 F h (fun a0' a1' a2' a3' a4' a5' a6' a7' e => kb (a0', a1', a2', a3', a4', a5', a6', a7') e) (fun a0' a1' e => ke (a0', a1') e)) n (x1, x2, x3, x4, x5, x6, x7, z) r h ke
set_option maxRecDepth 20000 in
theorem jm_symmetric {p : Program} {l : Launch} {e : Env} {s : State} {m : MethodId} {args : Array Value} {below : List Frame} {meth : Method} {c : Code} {A : Nat → Prop} {D : va_G} {cA : Nat → ClassId} {h0 : Nat} {q : Nat → Nat} (F : kj_Fx p s m args meth c cX8_symmetric 8 wsX8_symmetric RX8 (some .int) D (km_T cA) A) {x1 : Int32} {x2 : Int32} {x3 : Int32} {x4 : Int32} {z : km_S} {o : (Int32 × km_S)} (h : fm_symmetric x1 x2 x3 x4 z = some o) : kj_J p l e rm_X8_symmetric s m args below meth c 0 0 (MQ below (kj_Qi D (km_T cA) A (km_w cA h0 q) o) args s 0 0 A) 8 D A ((km_w cA h0 q) z) 0 [(0, .ref h0), (1, .int x1), (2, .int x2), (3, .int x3), (4, .int x4)] [] := by
  unfold fm_symmetric at h
  refine kj_iload_n F dX8_symmetric_0 1 rfl rfl ?_
  refine kj_iload_n F dX8_symmetric_1 2 rfl rfl ?_
  refine kj_iload_n F dX8_symmetric_2 3 rfl rfl ?_
  refine kj_cSip (As := [.int x1, .int x2, .int x3]) (rest := []) F dX8_symmetric_3 h (fun o h1 => cm_isBox (w := (km_w cA h0 q)) h1) (va_cwS 3 F.2.2.2.2.1 gX8_symmetric_X8_isBox rfl rfl rfl (by decide +kernel) ⟨Nat.le_of_ble_eq_true rfl, Nat.le_of_ble_eq_true rfl⟩) rfl rfl (Nat.le_of_ble_eq_true rfl) ⟨Nat.zero_le _, Nat.zero_le _⟩ (fun o1 h => ?_)
  refine kj_if_eq F dX8_symmetric_6 (tgt := 20) (by decide) h (fun hc h => ?_) (fun hc h => ?_)
  · refine kj_ldc F dX8_symmetric_20 (v := (-1000001)) (by decide +kernel) ?_
    exact kj_iret F dX8_symmetric_22 h
  · refine kj_iload F dX8_symmetric_9 4 rfl ?_
    refine kj_iconst F dX8_symmetric_11 (v := 0) (by decide) ?_
    refine kj_bipush F dX8_symmetric_12 (v := 15) (by decide) ?_
    refine kj_cSip (As := [.int x4, .int (0 : Int32), .int (15 : Int32)]) (rest := []) F dX8_symmetric_14 h (fun o h1 => cm_in (w := (km_w cA h0 q)) h1) (va_cwS 3 F.2.2.2.2.1 gX8_symmetric_X8_in rfl rfl rfl (by decide +kernel) ⟨Nat.le_of_ble_eq_true rfl, Nat.le_of_ble_eq_true rfl⟩) rfl rfl (Nat.le_of_ble_eq_true rfl) ⟨Nat.zero_le _, Nat.zero_le _⟩ (fun o2 h => ?_)
    refine kj_if_ne F dX8_symmetric_17 (tgt := 23) (by decide) h (fun hc h => ?_) (fun hc h => ?_)
    · refine kj_ldc F dX8_symmetric_20 (v := (-1000001)) (by decide +kernel) ?_
      exact kj_iret F dX8_symmetric_22 h
    · refine kj_aload_n F dX8_symmetric_23 0 rfl rfl ?_
      refine kj_iload_n F dX8_symmetric_24 1 rfl rfl ?_
      refine kj_iload_n F dX8_symmetric_25 2 rfl rfl ?_
      refine kj_iload_n F dX8_symmetric_26 3 rfl rfl ?_
      refine kj_cVi (As := [.int x1, .int x2, .int x3]) (rest := []) F dX8_symmetric_27 h (fun o h1 => cm_lays h1) (cwV 3 F.2.2.2.2.1 gX8_symmetric_X8_lays rfl rfl rfl (by decide +kernel) ⟨Nat.le_of_ble_eq_true rfl, Nat.le_of_ble_eq_true rfl⟩) 0 rfl rfl rfl rfl rfl (Nat.le_of_ble_eq_true rfl) ⟨Nat.zero_le _, Nat.zero_le _⟩ (fun o3 h => ?_)
      refine kj_istore F dX8_symmetric_30 (lv' := [(5, .int (o3.1)), (0, .ref h0), (1, .int x1), (2, .int x2), (3, .int x3), (4, .int x4)]) (by decide) rfl ?_
      refine kj_iload F dX8_symmetric_32 0 rfl ?_
      refine kj_sipush F dX8_symmetric_34 (v := 1000) (by decide) ?_
      refine kj_icmp_le F dX8_symmetric_37 (tgt := 43) (by decide) h (fun hc h => ?_) (fun hc h => ?_)
      · refine kj_iconst F dX8_symmetric_43 (v := 0) (by decide) ?_
        refine kj_istore F dX8_symmetric_44 (lv' := [(6, .int (0 : Int32)), (5, .int (o3.1)), (0, .ref h0), (1, .int x1), (2, .int x2), (3, .int x3), (4, .int x4)]) (by decide) rfl ?_
        refine kj_iconst F dX8_symmetric_46 (v := 0) (by decide) ?_
        refine kj_istore F dX8_symmetric_47 (lv' := [(7, .int (0 : Int32)), (6, .int (0 : Int32)), (5, .int (o3.1)), (0, .ref h0), (1, .int x1), (2, .int x2), (3, .int x3), (4, .int x4)]) (by decide) rfl ?_
        refine kj_J.sub [3, 4, 5, 6, 7, 2, 1, 0] rfl ?_
        refine kj_bn h (fun r4 h1 h => ?_)
        refine jlm_symmetric_49 F h1 ?_
        refine kj_iload F dX8_symmetric_98 0 rfl ?_
        exact kj_iret F dX8_symmetric_100 h
      · refine kj_ldc F dX8_symmetric_40 (v := (-1000003)) (by decide +kernel) ?_
        exact kj_iret F dX8_symmetric_42 h
theorem cm_symmetric {l : Launch} {D : va_G} {cA : Nat → ClassId} {h0 : Nat} {q : Nat → Nat} {x1 : Int32} {x2 : Int32} {x3 : Int32} {x4 : Int32} {z : km_S} {o : (Int32 × km_S)} (h : fm_symmetric x1 x2 x3 x4 z = some o) : kj_Mi l yX8_symmetric wsX8_symmetric rm_X8_symmetric D (km_T cA) (km_w cA h0 q) z [.ref h0, .int x1, .int x2, .int x3, .int x4] o :=
  fun sz => kj_start (by decide) rfl (Nat.le_of_ble_eq_true rfl) rfl fun p e s m args below meth c hsz F => jm_symmetric F h
/-! X8_isBetween -/
abbrev rm_X8_isBetween : Room := { frames := 1, cells := 0, slots := 0, locals := 21 }
theorem in_X8_isBetween : ∀ w ∈ u_ws RX8 TX8 29, w ∈ wsX8_isBetween := by decide +kernel
def fm_isBetween_89 (x1 : Int32) (x2 : Int32) (x3 : Int32) (x4 : Int32) (x6 : Int32) (t0 : Int32) (z : km_S) : Option ((Int32 × Int32 × Int32 × Int32 × Int32 × Int32 × km_S) ⊕ (Int32 × km_S)) :=
  some (.inl (x1, x2, x3, x4, t0, (x6 + 1), z))
def fm_isBetween_88 (x1 : Int32) (x2 : Int32) (x3 : Int32) (x4 : Int32) (x6 : Int32) (z : km_S) : Option ((Int32 × Int32 × Int32 × Int32 × Int32 × Int32 × km_S) ⊕ (Int32 × km_S)) :=
  fm_isBetween_89 x1 x2 x3 x4 x6 (0 : Int32) z
def fm_isBetween_6 (x1 : Int32) (x2 : Int32) (x3 : Int32) (x4 : Int32) (x5 : Int32) (x6 : Int32) (z : km_S) : Option ((Int32 × Int32 × Int32 × Int32 × Int32 × Int32 × km_S) ⊕ (Int32 × km_S)) :=
  (km_rd z 0 (((20 : Int32) * x2) + (2 : Int32))).bind fun v1 =>
  if v1 ≤ x6 then
  some (.inr (x5, z))
  else
  (km_rd z 6 (((4 : Int32) * x1) + x6)).bind fun v2 =>
  if x5 = 0 then
  fm_isBetween_88 x1 x2 x3 x4 x6 z
  else
  (fm_at x4 x6).bind fun o3 =>
  (km_rd z 0 (((20 : Int32) * x2) + o3)).bind fun v4 =>
  if v2 < v4 then
  fm_isBetween_88 x1 x2 x3 x4 x6 z
  else
  (fm_at x4 x6).bind fun o5 =>
  (km_rd z 0 (((20 : Int32) * x3) + o5)).bind fun v6 =>
  if v6 < v2 then
  fm_isBetween_88 x1 x2 x3 x4 x6 z
  else
  fm_isBetween_89 x1 x2 x3 x4 x6 (1 : Int32) z
def lm_isBetween_6 (n : Nat) (x1 : Int32) (x2 : Int32) (x3 : Int32) (x4 : Int32) (x5 : Int32) (x6 : Int32) (z : km_S) : Option (Int32 × km_S) :=
  kj_it (fun (s : (Int32 × Int32 × Int32 × Int32 × Int32 × Int32 × km_S)) => fm_isBetween_6 (s.1) (s.2.1) (s.2.2.1) (s.2.2.2.1) (s.2.2.2.2.1) (s.2.2.2.2.2.1) (s.2.2.2.2.2.2)) n (x1, x2, x3, x4, x5, x6, z)
def fm_isBetween (x1 : Int32) (x2 : Int32) (x3 : Int32) (x4 : Int32) (z : km_S) : Option (Int32 × km_S) :=
  (lm_isBetween_6 5000 x1 x2 x3 x4 (1 : Int32) (0 : Int32) z).bind fun r1 =>
  if (r1.1) = 0 ∨ (r1.1) = 1 then some ((r1.1), (r1.2)) else none
set_option maxRecDepth 20000 in
theorem jm_isBetween_89 {p : Program} {l : Launch} {e : Env} {s : State} {m : MethodId} {args : Array Value} {below : List Frame} {meth : Method} {c : Code} {A : Nat → Prop} {D : va_G} {cA : Nat → ClassId} {h0 : Nat} {q : Nat → Nat} {Q : State → Prop} (F : kj_Fx p s m args meth c cX8_isBetween 8 wsX8_isBetween RX8 (some .boolean) D (km_T cA) A) {x1 : Int32} {x2 : Int32} {x3 : Int32} {x4 : Int32} {x6 : Int32} {t0 : Int32} {z : km_S} {o : ((Int32 × Int32 × Int32 × Int32 × Int32 × Int32 × km_S) ⊕ (Int32 × km_S))} (h : fm_isBetween_89 x1 x2 x3 x4 x6 t0 z = some o) (kb : ∀ (a0' : Int32) (a1' : Int32) (a2' : Int32) (a3' : Int32) (a4' : Int32) (a5' : Int32) (a6' : km_S), o = .inl (a0', a1', a2', a3', a4', a5', a6') → kj_J p l e rm_X8_isBetween s m args below meth c 0 0 Q 8 D A ((km_w cA h0 q) a6') 6 [(0, .ref h0), (1, .int a0'), (2, .int a1'), (3, .int a2'), (4, .int a3'), (5, .int a4'), (6, .int a5')] []) (ke0 : ∀ (a0' : Int32) (a1' : km_S), o = .inr (a0', a1') → kj_J p l e rm_X8_isBetween s m args below meth c 0 0 Q 8 D A ((km_w cA h0 q) a1') 97 [(5, .int a0')] []) : kj_J p l e rm_X8_isBetween s m args below meth c 0 0 Q 8 D A ((km_w cA h0 q) z) 89 [(0, .ref h0), (1, .int x1), (2, .int x2), (3, .int x3), (4, .int x4), (6, .int x6)] [.int t0] := by
  unfold fm_isBetween_89 at h
  refine kj_istore F dX8_isBetween_89 (lv' := [(5, .int t0), (0, .ref h0), (1, .int x1), (2, .int x2), (3, .int x3), (4, .int x4), (6, .int x6)]) (by decide) rfl ?_
  refine kj_iinc F dX8_isBetween_91 6 rfl (v := 1) (by decide) (by decide) (lv' := [(6, .int (x6 + 1)), (5, .int t0), (0, .ref h0), (1, .int x1), (2, .int x2), (3, .int x3), (4, .int x4)]) rfl ?_
  refine kj_goto F dX8_isBetween_94 (tgt := 6) (by decide) ?_
  refine kj_J.sub [2, 3, 4, 5, 6, 1, 0] rfl ?_
  exact kb x1 x2 x3 x4 t0 (x6 + 1) z (Option.some.inj h).symm
set_option maxRecDepth 20000 in
theorem jm_isBetween_88 {p : Program} {l : Launch} {e : Env} {s : State} {m : MethodId} {args : Array Value} {below : List Frame} {meth : Method} {c : Code} {A : Nat → Prop} {D : va_G} {cA : Nat → ClassId} {h0 : Nat} {q : Nat → Nat} {Q : State → Prop} (F : kj_Fx p s m args meth c cX8_isBetween 8 wsX8_isBetween RX8 (some .boolean) D (km_T cA) A) {x1 : Int32} {x2 : Int32} {x3 : Int32} {x4 : Int32} {x6 : Int32} {z : km_S} {o : ((Int32 × Int32 × Int32 × Int32 × Int32 × Int32 × km_S) ⊕ (Int32 × km_S))} (h : fm_isBetween_88 x1 x2 x3 x4 x6 z = some o) (kb : ∀ (a0' : Int32) (a1' : Int32) (a2' : Int32) (a3' : Int32) (a4' : Int32) (a5' : Int32) (a6' : km_S), o = .inl (a0', a1', a2', a3', a4', a5', a6') → kj_J p l e rm_X8_isBetween s m args below meth c 0 0 Q 8 D A ((km_w cA h0 q) a6') 6 [(0, .ref h0), (1, .int a0'), (2, .int a1'), (3, .int a2'), (4, .int a3'), (5, .int a4'), (6, .int a5')] []) (ke0 : ∀ (a0' : Int32) (a1' : km_S), o = .inr (a0', a1') → kj_J p l e rm_X8_isBetween s m args below meth c 0 0 Q 8 D A ((km_w cA h0 q) a1') 97 [(5, .int a0')] []) : kj_J p l e rm_X8_isBetween s m args below meth c 0 0 Q 8 D A ((km_w cA h0 q) z) 88 [(0, .ref h0), (1, .int x1), (2, .int x2), (3, .int x3), (4, .int x4), (6, .int x6)] [] := by
  unfold fm_isBetween_88 at h
  refine kj_iconst F dX8_isBetween_88 (v := 0) (by decide) ?_
  exact jm_isBetween_89 F h kb ke0
set_option maxRecDepth 20000 in
theorem jm_isBetween_6 {p : Program} {l : Launch} {e : Env} {s : State} {m : MethodId} {args : Array Value} {below : List Frame} {meth : Method} {c : Code} {A : Nat → Prop} {D : va_G} {cA : Nat → ClassId} {h0 : Nat} {q : Nat → Nat} {Q : State → Prop} (F : kj_Fx p s m args meth c cX8_isBetween 8 wsX8_isBetween RX8 (some .boolean) D (km_T cA) A) {x1 : Int32} {x2 : Int32} {x3 : Int32} {x4 : Int32} {x5 : Int32} {x6 : Int32} {z : km_S} {o : ((Int32 × Int32 × Int32 × Int32 × Int32 × Int32 × km_S) ⊕ (Int32 × km_S))} (h : fm_isBetween_6 x1 x2 x3 x4 x5 x6 z = some o) (kb : ∀ (a0' : Int32) (a1' : Int32) (a2' : Int32) (a3' : Int32) (a4' : Int32) (a5' : Int32) (a6' : km_S), o = .inl (a0', a1', a2', a3', a4', a5', a6') → kj_J p l e rm_X8_isBetween s m args below meth c 0 0 Q 8 D A ((km_w cA h0 q) a6') 6 [(0, .ref h0), (1, .int a0'), (2, .int a1'), (3, .int a2'), (4, .int a3'), (5, .int a4'), (6, .int a5')] []) (ke0 : ∀ (a0' : Int32) (a1' : km_S), o = .inr (a0', a1') → kj_J p l e rm_X8_isBetween s m args below meth c 0 0 Q 8 D A ((km_w cA h0 q) a1') 97 [(5, .int a0')] []) : kj_J p l e rm_X8_isBetween s m args below meth c 0 0 Q 8 D A ((km_w cA h0 q) z) 6 [(0, .ref h0), (1, .int x1), (2, .int x2), (3, .int x3), (4, .int x4), (5, .int x5), (6, .int x6)] [] := by
  unfold fm_isBetween_6 at h
  refine kj_iload F dX8_isBetween_6 6 rfl ?_
  refine kj_aload_n F dX8_isBetween_8 0 rfl rfl ?_
  refine km_get F dX8_isBetween_9 in_X8_isBetween 0 (by decide) (by decide +kernel) rfl rfl ?_
  refine kj_bipush F dX8_isBetween_12 (v := 20) (by decide) ?_
  refine kj_iload_n F dX8_isBetween_14 2 rfl rfl ?_
  refine kj_imul F dX8_isBetween_15 ?_
  refine kj_iconst F dX8_isBetween_16 (v := 2) (by decide) ?_
  refine kj_iadd F dX8_isBetween_17 ?_
  refine km_iald F dX8_isBetween_18 0 (by decide) h (fun v1 h => ?_)
  refine kj_icmp_ge F dX8_isBetween_19 (tgt := 97) (by decide) h (fun hc h => ?_) (fun hc h => ?_)
  · refine kj_J.sub [5] rfl ?_
    exact ke0 x5 z (Option.some.inj h).symm
  · refine kj_aload_n F dX8_isBetween_22 0 rfl rfl ?_
    refine km_get F dX8_isBetween_23 in_X8_isBetween 13 (by decide) (by decide +kernel) rfl rfl ?_
    refine kj_iconst F dX8_isBetween_26 (v := 4) (by decide) ?_
    refine kj_iload_n F dX8_isBetween_27 1 rfl rfl ?_
    refine kj_imul F dX8_isBetween_28 ?_
    refine kj_iload F dX8_isBetween_29 6 rfl ?_
    refine kj_iadd F dX8_isBetween_31 ?_
    refine km_iald F dX8_isBetween_32 6 (by decide) h (fun v2 h => ?_)
    refine kj_istore F dX8_isBetween_33 (lv' := [(7, .int v2), (0, .ref h0), (1, .int x1), (2, .int x2), (3, .int x3), (4, .int x4), (5, .int x5), (6, .int x6)]) (by decide) rfl ?_
    refine kj_iload F dX8_isBetween_35 6 rfl ?_
    refine kj_if_eq F dX8_isBetween_37 (tgt := 88) (by decide) h (fun hc h => ?_) (fun hc h => ?_)
    · refine kj_J.sub [1, 2, 3, 4, 5, 7] rfl ?_
      exact jm_isBetween_88 F h kb ke0
    · refine kj_iload F dX8_isBetween_40 0 rfl ?_
      refine kj_aload_n F dX8_isBetween_42 1 rfl rfl ?_
      refine km_get F dX8_isBetween_43 in_X8_isBetween 0 (by decide) (by decide +kernel) rfl rfl ?_
      refine kj_bipush F dX8_isBetween_46 (v := 20) (by decide) ?_
      refine kj_iload_n F dX8_isBetween_48 3 rfl rfl ?_
      refine kj_imul F dX8_isBetween_49 ?_
      refine kj_iload F dX8_isBetween_50 5 rfl ?_
      refine kj_iload F dX8_isBetween_52 7 rfl ?_
      refine kj_cSip (As := [.int x4, .int x6]) (rest := [.int ((20 : Int32) * x2), .ref (q 0), .int v2]) F dX8_isBetween_54 h (fun o h1 => cm_at (w := (km_w cA h0 q)) h1) (va_cwS 2 F.2.2.2.2.1 gX8_isBetween_X8_at rfl rfl rfl (by decide +kernel) ⟨Nat.le_of_ble_eq_true rfl, Nat.le_of_ble_eq_true rfl⟩) rfl rfl (Nat.le_of_ble_eq_true rfl) ⟨Nat.zero_le _, Nat.zero_le _⟩ (fun o3 h => ?_)
      refine kj_iadd F dX8_isBetween_57 ?_
      refine km_iald F dX8_isBetween_58 0 (by decide) h (fun v4 h => ?_)
      refine kj_icmp_lt F dX8_isBetween_59 (tgt := 88) (by decide) h (fun hc h => ?_) (fun hc h => ?_)
      · refine kj_J.sub [1, 2, 3, 4, 5, 7] rfl ?_
        exact jm_isBetween_88 F h kb ke0
      · refine kj_iload F dX8_isBetween_62 0 rfl ?_
        refine kj_aload_n F dX8_isBetween_64 1 rfl rfl ?_
        refine km_get F dX8_isBetween_65 in_X8_isBetween 0 (by decide) (by decide +kernel) rfl rfl ?_
        refine kj_bipush F dX8_isBetween_68 (v := 20) (by decide) ?_
        refine kj_iload_n F dX8_isBetween_70 4 rfl rfl ?_
        refine kj_imul F dX8_isBetween_71 ?_
        refine kj_iload F dX8_isBetween_72 5 rfl ?_
        refine kj_iload F dX8_isBetween_74 7 rfl ?_
        refine kj_cSip (As := [.int x4, .int x6]) (rest := [.int ((20 : Int32) * x3), .ref (q 0), .int v2]) F dX8_isBetween_76 h (fun o h1 => cm_at (w := (km_w cA h0 q)) h1) (va_cwS 2 F.2.2.2.2.1 gX8_isBetween_X8_at rfl rfl rfl (by decide +kernel) ⟨Nat.le_of_ble_eq_true rfl, Nat.le_of_ble_eq_true rfl⟩) rfl rfl (Nat.le_of_ble_eq_true rfl) ⟨Nat.zero_le _, Nat.zero_le _⟩ (fun o5 h => ?_)
        refine kj_iadd F dX8_isBetween_79 ?_
        refine km_iald F dX8_isBetween_80 0 (by decide) h (fun v6 h => ?_)
        refine kj_icmp_gt F dX8_isBetween_81 (tgt := 88) (by decide) h (fun hc h => ?_) (fun hc h => ?_)
        · refine kj_J.sub [1, 2, 3, 4, 5, 7] rfl ?_
          exact jm_isBetween_88 F h kb ke0
        · refine kj_iconst F dX8_isBetween_84 (v := 1) (by decide) ?_
          refine kj_goto F dX8_isBetween_85 (tgt := 89) (by decide) ?_
          refine kj_J.sub [1, 2, 3, 4, 5, 7] rfl ?_
          exact jm_isBetween_89 F h kb ke0
theorem jlm_isBetween_6 {p : Program} {l : Launch} {e : Env} {s : State} {m : MethodId} {args : Array Value} {below : List Frame} {meth : Method} {c : Code} {A : Nat → Prop} {D : va_G} {cA : Nat → ClassId} {h0 : Nat} {q : Nat → Nat} {Q : State → Prop} (F : kj_Fx p s m args meth c cX8_isBetween 8 wsX8_isBetween RX8 (some .boolean) D (km_T cA) A) {n : Nat} {x1 : Int32} {x2 : Int32} {x3 : Int32} {x4 : Int32} {x5 : Int32} {x6 : Int32} {z : km_S} {r : (Int32 × km_S)} (h : lm_isBetween_6 n x1 x2 x3 x4 x5 x6 z = some r) (ke : kj_J p l e rm_X8_isBetween s m args below meth c 0 0 Q 8 D A ((km_w cA h0 q) (r.2)) 97 [(5, .int (r.1))] []) : kj_J p l e rm_X8_isBetween s m args below meth c 0 0 Q 8 D A ((km_w cA h0 q) z) 6 [(0, .ref h0), (1, .int x1), (2, .int x2), (3, .int x3), (4, .int x4), (5, .int x5), (6, .int x6)] [] :=
  kj_it_J (Wh := fun (u : (Int32 × Int32 × Int32 × Int32 × Int32 × Int32 × km_S)) => kj_J p l e rm_X8_isBetween s m args below meth c 0 0 Q 8 D A ((km_w cA h0 q) (u.2.2.2.2.2.2)) 6 [(0, .ref h0), (1, .int (u.1)), (2, .int (u.2.1)), (3, .int (u.2.2.1)), (4, .int (u.2.2.2.1)), (5, .int (u.2.2.2.2.1)), (6, .int (u.2.2.2.2.2.1))] []) (We := fun r => kj_J p l e rm_X8_isBetween s m args below meth c 0 0 Q 8 D A ((km_w cA h0 q) (r.2)) 97 [(5, .int (r.1))] []) (fun u o h kb ke => jm_isBetween_6 F h (fun a0' a1' a2' a3' a4' a5' a6' e => kb (a0', a1', a2', a3', a4', a5', a6') e) (fun a0' a1' e => ke (a0', a1') e)) n (x1, x2, x3, x4, x5, x6, z) r h ke
set_option maxRecDepth 20000 in
theorem jm_isBetween {p : Program} {l : Launch} {e : Env} {s : State} {m : MethodId} {args : Array Value} {below : List Frame} {meth : Method} {c : Code} {A : Nat → Prop} {D : va_G} {cA : Nat → ClassId} {h0 : Nat} {q : Nat → Nat} (F : kj_Fx p s m args meth c cX8_isBetween 8 wsX8_isBetween RX8 (some .boolean) D (km_T cA) A) {x1 : Int32} {x2 : Int32} {x3 : Int32} {x4 : Int32} {z : km_S} {o : (Int32 × km_S)} (h : fm_isBetween x1 x2 x3 x4 z = some o) : kj_J p l e rm_X8_isBetween s m args below meth c 0 0 (MQ below (kj_Qi D (km_T cA) A (km_w cA h0 q) o) args s 0 0 A) 8 D A ((km_w cA h0 q) z) 0 [(0, .ref h0), (1, .int x1), (2, .int x2), (3, .int x3), (4, .int x4)] [] := by
  unfold fm_isBetween at h
  refine kj_iconst F dX8_isBetween_0 (v := 1) (by decide) ?_
  refine kj_istore F dX8_isBetween_1 (lv' := [(5, .int (1 : Int32)), (0, .ref h0), (1, .int x1), (2, .int x2), (3, .int x3), (4, .int x4)]) (by decide) rfl ?_
  refine kj_iconst F dX8_isBetween_3 (v := 0) (by decide) ?_
  refine kj_istore F dX8_isBetween_4 (lv' := [(6, .int (0 : Int32)), (5, .int (1 : Int32)), (0, .ref h0), (1, .int x1), (2, .int x2), (3, .int x3), (4, .int x4)]) (by decide) rfl ?_
  refine kj_J.sub [2, 3, 4, 5, 6, 1, 0] rfl ?_
  refine kj_bn h (fun r1 h1 h => ?_)
  refine jlm_isBetween_6 F h1 ?_
  refine kj_iload F dX8_isBetween_97 0 rfl ?_
  exact kj_zretB F dX8_isBetween_99 h
theorem cm_isBetween {l : Launch} {D : va_G} {cA : Nat → ClassId} {h0 : Nat} {q : Nat → Nat} {x1 : Int32} {x2 : Int32} {x3 : Int32} {x4 : Int32} {z : km_S} {o : (Int32 × km_S)} (h : fm_isBetween x1 x2 x3 x4 z = some o) : kj_Mi l yX8_isBetween wsX8_isBetween rm_X8_isBetween D (km_T cA) (km_w cA h0 q) z [.ref h0, .int x1, .int x2, .int x3, .int x4] o :=
  fun sz => kj_start (by decide) rfl (Nat.le_of_ble_eq_true rfl) rfl fun p e s m args below meth c hsz F => jm_isBetween F h
/-! X8_between -/
abbrev rm_X8_between : Room := { frames := 3, cells := 0, slots := 0, locals := 63 }
theorem in_X8_between : ∀ w ∈ u_ws RX8 TX8 29, w ∈ wsX8_between := by decide +kernel
def fm_between_159 (x1 : Int32) (x2 : Int32) (x3 : Int32) (x4 : Int32) (x5 : Int32) (x6 : Int32) (t0 : Int64) (t1 : Int64) (t2 : Int32) (z : km_S) : Option ((Int32 × Int32 × Int32 × Int32 × Int32 × Int32 × km_S) ⊕ (Int32 × Int32 × Int32 × Int32 × Int32 × km_S)) :=
  (km_wl z 1 t2 (t1 + t0)).bind fun z1 =>
  some (.inl (x1, x2, x3, x4, x5, (x6 + 1), z1))
def fm_between_158 (x1 : Int32) (x2 : Int32) (x3 : Int32) (x4 : Int32) (x5 : Int32) (x6 : Int32) (t0 : Int64) (t1 : Int32) (z : km_S) : Option ((Int32 × Int32 × Int32 × Int32 × Int32 × Int32 × km_S) ⊕ (Int32 × Int32 × Int32 × Int32 × Int32 × km_S)) :=
  fm_between_159 x1 x2 x3 x4 x5 x6 (0 : Int64) t0 t1 z
def fm_between_106 (x1 : Int32) (x2 : Int32) (x3 : Int32) (x4 : Int32) (x5 : Int32) (x6 : Int32) (z : km_S) : Option ((Int32 × Int32 × Int32 × Int32 × Int32 × Int32 × km_S) ⊕ (Int32 × Int32 × Int32 × Int32 × Int32 × km_S)) :=
  if (z.1 5) ≤ x6 then
  some (.inr (x1, x2, x3, x4, x5, z))
  else
  (km_rl z 1 x5).bind fun v1 =>
  (fm_isBetween x5 x1 x2 x4 z).bind fun o2 =>
  if (o2.1) = 0 then
  fm_between_158 x1 x2 x3 x4 x5 x6 v1 x5 (o2.2)
  else
  (fm_isUnder x5 x6 x3 (o2.2)).bind fun o3 =>
  if (o3.1) = 0 then
  fm_between_158 x1 x2 x3 x4 x5 x6 v1 x5 (o3.2)
  else
  (km_rl (o3.2) 0 x6).bind fun v4 =>
  fm_between_159 x1 x2 x3 x4 x5 x6 v4 v1 x5 (o3.2)
def lm_between_106 (n : Nat) (x1 : Int32) (x2 : Int32) (x3 : Int32) (x4 : Int32) (x5 : Int32) (x6 : Int32) (z : km_S) : Option (Int32 × Int32 × Int32 × Int32 × Int32 × km_S) :=
  kj_it (fun (s : (Int32 × Int32 × Int32 × Int32 × Int32 × Int32 × km_S)) => fm_between_106 (s.1) (s.2.1) (s.2.2.1) (s.2.2.2.1) (s.2.2.2.2.1) (s.2.2.2.2.2.1) (s.2.2.2.2.2.2)) n (x1, x2, x3, x4, x5, x6, z)
def fm_between_85 (x1 : Int32) (x2 : Int32) (x3 : Int32) (x4 : Int32) (x5 : Int32) (z : km_S) : Option ((Int32 × Int32 × Int32 × Int32 × Int32 × km_S) ⊕ (Int32 × Int32 × Int32 × Int32 × km_S)) :=
  if (z.1 5) ≤ x5 then
  some (.inr (x1, x2, x3, x4, z))
  else
  (km_wl z 1 x5 (0 : Int64)).bind fun z1 =>
  (lm_between_106 5000 x1 x2 x3 x4 x5 x5 z1).bind fun r2 =>
  some (.inl ((r2.1), (r2.2.1), (r2.2.2.1), (r2.2.2.2.1), ((r2.2.2.2.2.1) + 1), (r2.2.2.2.2.2)))
def lm_between_85 (n : Nat) (x1 : Int32) (x2 : Int32) (x3 : Int32) (x4 : Int32) (x5 : Int32) (z : km_S) : Option (Int32 × Int32 × Int32 × Int32 × km_S) :=
  kj_it (fun (s : (Int32 × Int32 × Int32 × Int32 × Int32 × km_S)) => fm_between_85 (s.1) (s.2.1) (s.2.2.1) (s.2.2.2.1) (s.2.2.2.2.1) (s.2.2.2.2.2)) n (x1, x2, x3, x4, x5, z)
def fm_between_66 (x1 : Int32) (x2 : Int32) (x3 : Int32) (x4 : Int32) (z : km_S) : Option ((Int32 × Int32 × Int32 × Int32 × km_S) ⊕ km_S) :=
  (km_rd z 0 (((20 : Int32) * x1) + (1 : Int32))).bind fun v1 =>
  if v1 ≤ x4 then
  some (.inr z)
  else
  (lm_between_85 5000 x1 x2 x3 x4 (0 : Int32) z).bind fun r2 =>
  (fm_nextRow (r2.2.2.2.2)).bind fun o3 =>
  some (.inl ((r2.1), (r2.2.1), (r2.2.2.1), ((r2.2.2.2.1) + 1), o3))
def lm_between_66 (n : Nat) (x1 : Int32) (x2 : Int32) (x3 : Int32) (x4 : Int32) (z : km_S) : Option km_S :=
  kj_it (fun (s : (Int32 × Int32 × Int32 × Int32 × km_S)) => fm_between_66 (s.1) (s.2.1) (s.2.2.1) (s.2.2.2.1) (s.2.2.2.2)) n (x1, x2, x3, x4, z)
def fm_between (x1 : Int32) (x2 : Int32) (z : km_S) : Option (Int32 × km_S) :=
  (fm_isHeap x1 z).bind fun o1 =>
  if (o1.1) = 0 then
  some (((-1000001) : Int32), (o1.2))
  else
  (fm_isHeap x2 (o1.2)).bind fun o2 =>
  if (o2.1) = 0 then
  some (((-1000001) : Int32), (o2.2))
  else
  (fm_areAlike x1 x2 (o2.2)).bind fun o3 =>
  if (o3.1) = 0 then
  some (((-1000002) : Int32), (o3.2))
  else
  (km_rd (o3.2) 0 (((20 : Int32) * x1) + (2 : Int32))).bind fun v4 =>
  (km_rd (o3.2) 0 (((20 : Int32) * x1) + (3 : Int32))).bind fun v5 =>
  (fm_laysRows v4 v5 (o3.2)).bind fun o6 =>
  (fm_beginsSums o6).bind fun o7 =>
  (lm_between_66 5000 x1 x2 v4 (0 : Int32) o7).bind fun r8 =>
  (fm_allSums (r8)).bind fun o9 =>
  some (((o9.1)).toInt32, (o9.2))
set_option maxRecDepth 20000 in
theorem jm_between_159 {p : Program} {l : Launch} {e : Env} {s : State} {m : MethodId} {args : Array Value} {below : List Frame} {meth : Method} {c : Code} {A : Nat → Prop} {D : va_G} {cA : Nat → ClassId} {h0 : Nat} {q : Nat → Nat} {Q : State → Prop} (F : kj_Fx p s m args meth c cX8_between 7 wsX8_between RX8 (some .int) D (km_T cA) A) {x1 : Int32} {x2 : Int32} {x3 : Int32} {x4 : Int32} {x5 : Int32} {x6 : Int32} {t0 : Int64} {t1 : Int64} {t2 : Int32} {z : km_S} {o : ((Int32 × Int32 × Int32 × Int32 × Int32 × Int32 × km_S) ⊕ (Int32 × Int32 × Int32 × Int32 × Int32 × km_S))} (h : fm_between_159 x1 x2 x3 x4 x5 x6 t0 t1 t2 z = some o) (kb : ∀ (a0' : Int32) (a1' : Int32) (a2' : Int32) (a3' : Int32) (a4' : Int32) (a5' : Int32) (a6' : km_S), o = .inl (a0', a1', a2', a3', a4', a5', a6') → kj_J p l e rm_X8_between s m args below meth c 0 0 Q 7 D A ((km_w cA h0 q) a6') 106 [(0, .ref h0), (1, .int a0'), (2, .int a1'), (3, .int a2'), (4, .int a3'), (5, .int a4'), (6, .int a5')] []) (ke0 : ∀ (a0' : Int32) (a1' : Int32) (a2' : Int32) (a3' : Int32) (a4' : Int32) (a5' : km_S), o = .inr (a0', a1', a2', a3', a4', a5') → kj_J p l e rm_X8_between s m args below meth c 0 0 Q 7 D A ((km_w cA h0 q) a5') 167 [(0, .ref h0), (1, .int a0'), (2, .int a1'), (3, .int a2'), (4, .int a3'), (5, .int a4')] []) : kj_J p l e rm_X8_between s m args below meth c 0 0 Q 7 D A ((km_w cA h0 q) z) 159 [(0, .ref h0), (1, .int x1), (2, .int x2), (3, .int x3), (4, .int x4), (5, .int x5), (6, .int x6)] [.long t0, .long t1, .int t2, .ref (q (1 + 20))] := by
  unfold fm_between_159 at h
  refine kj_ladd F dX8_between_159 ?_
  refine km_last F dX8_between_160 1 (by decide) rfl h (fun z1 h => ?_)
  refine kj_iinc F dX8_between_161 6 rfl (v := 1) (by decide) (by decide) (lv' := [(6, .int (x6 + 1)), (0, .ref h0), (1, .int x1), (2, .int x2), (3, .int x3), (4, .int x4), (5, .int x5)]) rfl ?_
  refine kj_goto F dX8_between_164 (tgt := 106) (by decide) ?_
  refine kj_J.sub [1, 2, 3, 4, 5, 6, 0] rfl ?_
  exact kb x1 x2 x3 x4 x5 (x6 + 1) z1 (Option.some.inj h).symm
set_option maxRecDepth 20000 in
theorem jm_between_158 {p : Program} {l : Launch} {e : Env} {s : State} {m : MethodId} {args : Array Value} {below : List Frame} {meth : Method} {c : Code} {A : Nat → Prop} {D : va_G} {cA : Nat → ClassId} {h0 : Nat} {q : Nat → Nat} {Q : State → Prop} (F : kj_Fx p s m args meth c cX8_between 7 wsX8_between RX8 (some .int) D (km_T cA) A) {x1 : Int32} {x2 : Int32} {x3 : Int32} {x4 : Int32} {x5 : Int32} {x6 : Int32} {t0 : Int64} {t1 : Int32} {z : km_S} {o : ((Int32 × Int32 × Int32 × Int32 × Int32 × Int32 × km_S) ⊕ (Int32 × Int32 × Int32 × Int32 × Int32 × km_S))} (h : fm_between_158 x1 x2 x3 x4 x5 x6 t0 t1 z = some o) (kb : ∀ (a0' : Int32) (a1' : Int32) (a2' : Int32) (a3' : Int32) (a4' : Int32) (a5' : Int32) (a6' : km_S), o = .inl (a0', a1', a2', a3', a4', a5', a6') → kj_J p l e rm_X8_between s m args below meth c 0 0 Q 7 D A ((km_w cA h0 q) a6') 106 [(0, .ref h0), (1, .int a0'), (2, .int a1'), (3, .int a2'), (4, .int a3'), (5, .int a4'), (6, .int a5')] []) (ke0 : ∀ (a0' : Int32) (a1' : Int32) (a2' : Int32) (a3' : Int32) (a4' : Int32) (a5' : km_S), o = .inr (a0', a1', a2', a3', a4', a5') → kj_J p l e rm_X8_between s m args below meth c 0 0 Q 7 D A ((km_w cA h0 q) a5') 167 [(0, .ref h0), (1, .int a0'), (2, .int a1'), (3, .int a2'), (4, .int a3'), (5, .int a4')] []) : kj_J p l e rm_X8_between s m args below meth c 0 0 Q 7 D A ((km_w cA h0 q) z) 158 [(0, .ref h0), (1, .int x1), (2, .int x2), (3, .int x3), (4, .int x4), (5, .int x5), (6, .int x6)] [.long t0, .int t1, .ref (q (1 + 20))] := by
  unfold fm_between_158 at h
  refine kj_lconst F dX8_between_158 (v := 0) (by decide) ?_
  exact jm_between_159 F h kb ke0
set_option maxRecDepth 20000 in
theorem jm_between_106 {p : Program} {l : Launch} {e : Env} {s : State} {m : MethodId} {args : Array Value} {below : List Frame} {meth : Method} {c : Code} {A : Nat → Prop} {D : va_G} {cA : Nat → ClassId} {h0 : Nat} {q : Nat → Nat} {Q : State → Prop} (F : kj_Fx p s m args meth c cX8_between 7 wsX8_between RX8 (some .int) D (km_T cA) A) {x1 : Int32} {x2 : Int32} {x3 : Int32} {x4 : Int32} {x5 : Int32} {x6 : Int32} {z : km_S} {o : ((Int32 × Int32 × Int32 × Int32 × Int32 × Int32 × km_S) ⊕ (Int32 × Int32 × Int32 × Int32 × Int32 × km_S))} (h : fm_between_106 x1 x2 x3 x4 x5 x6 z = some o) (kb : ∀ (a0' : Int32) (a1' : Int32) (a2' : Int32) (a3' : Int32) (a4' : Int32) (a5' : Int32) (a6' : km_S), o = .inl (a0', a1', a2', a3', a4', a5', a6') → kj_J p l e rm_X8_between s m args below meth c 0 0 Q 7 D A ((km_w cA h0 q) a6') 106 [(0, .ref h0), (1, .int a0'), (2, .int a1'), (3, .int a2'), (4, .int a3'), (5, .int a4'), (6, .int a5')] []) (ke0 : ∀ (a0' : Int32) (a1' : Int32) (a2' : Int32) (a3' : Int32) (a4' : Int32) (a5' : km_S), o = .inr (a0', a1', a2', a3', a4', a5') → kj_J p l e rm_X8_between s m args below meth c 0 0 Q 7 D A ((km_w cA h0 q) a5') 167 [(0, .ref h0), (1, .int a0'), (2, .int a1'), (3, .int a2'), (4, .int a3'), (5, .int a4')] []) : kj_J p l e rm_X8_between s m args below meth c 0 0 Q 7 D A ((km_w cA h0 q) z) 106 [(0, .ref h0), (1, .int x1), (2, .int x2), (3, .int x3), (4, .int x4), (5, .int x5), (6, .int x6)] [] := by
  unfold fm_between_106 at h
  refine kj_iload F dX8_between_106 6 rfl ?_
  refine kj_aload_n F dX8_between_108 0 rfl rfl ?_
  refine km_get F dX8_between_109 in_X8_between 14 (by decide) (by decide +kernel) rfl rfl ?_
  refine kj_icmp_ge F dX8_between_112 (tgt := 167) (by decide) h (fun hc h => ?_) (fun hc h => ?_)
  · refine kj_J.sub [0, 1, 2, 3, 4, 5] rfl ?_
    exact ke0 x1 x2 x3 x4 x5 z (Option.some.inj h).symm
  · refine kj_aload_n F dX8_between_115 0 rfl rfl ?_
    refine km_get F dX8_between_116 in_X8_between 25 (by decide) (by decide +kernel) rfl rfl ?_
    refine kj_iload F dX8_between_119 5 rfl ?_
    refine kj_dup2_11 F dX8_between_121 rfl rfl ?_
    refine km_lald F dX8_between_122 1 (by decide) rfl h (fun v1 h => ?_)
    refine kj_aload_n F dX8_between_123 0 rfl rfl ?_
    refine kj_iload F dX8_between_124 5 rfl ?_
    refine kj_iload_n F dX8_between_126 1 rfl rfl ?_
    refine kj_iload_n F dX8_between_127 2 rfl rfl ?_
    refine kj_iload F dX8_between_128 4 rfl ?_
    refine kj_cVi (As := [.int x5, .int x1, .int x2, .int x4]) (rest := [.long v1, .int x5, .ref (q (1 + 20))]) F dX8_between_130 h (fun o h1 => cm_isBetween h1) (cwV 4 F.2.2.2.2.1 gX8_between_X8_isBetween rfl rfl rfl (by decide +kernel) ⟨Nat.le_of_ble_eq_true rfl, Nat.le_of_ble_eq_true rfl⟩) 0 rfl rfl rfl rfl rfl (Nat.le_of_ble_eq_true rfl) ⟨Nat.zero_le _, Nat.zero_le _⟩ (fun o2 h => ?_)
    refine kj_if_eq F dX8_between_133 (tgt := 158) (by decide) h (fun hc h => ?_) (fun hc h => ?_)
    · exact jm_between_158 F h kb ke0
    · refine kj_aload_n F dX8_between_136 0 rfl rfl ?_
      refine kj_iload F dX8_between_137 5 rfl ?_
      refine kj_iload F dX8_between_139 6 rfl ?_
      refine kj_iload_n F dX8_between_141 3 rfl rfl ?_
      refine kj_cVi (As := [.int x5, .int x6, .int x3]) (rest := [.long v1, .int x5, .ref (q (1 + 20))]) F dX8_between_142 h (fun o h1 => cm_isUnder h1) (cwV 3 F.2.2.2.2.1 gX8_between_X8_isUnder rfl rfl rfl (by decide +kernel) ⟨Nat.le_of_ble_eq_true rfl, Nat.le_of_ble_eq_true rfl⟩) 0 rfl rfl rfl rfl rfl (Nat.le_of_ble_eq_true rfl) ⟨Nat.zero_le _, Nat.zero_le _⟩ (fun o3 h => ?_)
      refine kj_if_eq F dX8_between_145 (tgt := 158) (by decide) h (fun hc h => ?_) (fun hc h => ?_)
      · exact jm_between_158 F h kb ke0
      · refine kj_aload_n F dX8_between_148 0 rfl rfl ?_
        refine km_get F dX8_between_149 in_X8_between 24 (by decide) (by decide +kernel) rfl rfl ?_
        refine kj_iload F dX8_between_152 6 rfl ?_
        refine km_lald F dX8_between_154 0 (by decide) rfl h (fun v4 h => ?_)
        refine kj_goto F dX8_between_155 (tgt := 159) (by decide) ?_
        exact jm_between_159 F h kb ke0
theorem jlm_between_106 {p : Program} {l : Launch} {e : Env} {s : State} {m : MethodId} {args : Array Value} {below : List Frame} {meth : Method} {c : Code} {A : Nat → Prop} {D : va_G} {cA : Nat → ClassId} {h0 : Nat} {q : Nat → Nat} {Q : State → Prop} (F : kj_Fx p s m args meth c cX8_between 7 wsX8_between RX8 (some .int) D (km_T cA) A) {n : Nat} {x1 : Int32} {x2 : Int32} {x3 : Int32} {x4 : Int32} {x5 : Int32} {x6 : Int32} {z : km_S} {r : (Int32 × Int32 × Int32 × Int32 × Int32 × km_S)} (h : lm_between_106 n x1 x2 x3 x4 x5 x6 z = some r) (ke : kj_J p l e rm_X8_between s m args below meth c 0 0 Q 7 D A ((km_w cA h0 q) (r.2.2.2.2.2)) 167 [(0, .ref h0), (1, .int (r.1)), (2, .int (r.2.1)), (3, .int (r.2.2.1)), (4, .int (r.2.2.2.1)), (5, .int (r.2.2.2.2.1))] []) : kj_J p l e rm_X8_between s m args below meth c 0 0 Q 7 D A ((km_w cA h0 q) z) 106 [(0, .ref h0), (1, .int x1), (2, .int x2), (3, .int x3), (4, .int x4), (5, .int x5), (6, .int x6)] [] :=
  kj_it_J (Wh := fun (u : (Int32 × Int32 × Int32 × Int32 × Int32 × Int32 × km_S)) => kj_J p l e rm_X8_between s m args below meth c 0 0 Q 7 D A ((km_w cA h0 q) (u.2.2.2.2.2.2)) 106 [(0, .ref h0), (1, .int (u.1)), (2, .int (u.2.1)), (3, .int (u.2.2.1)), (4, .int (u.2.2.2.1)), (5, .int (u.2.2.2.2.1)), (6, .int (u.2.2.2.2.2.1))] []) (We := fun r => kj_J p l e rm_X8_between s m args below meth c 0 0 Q 7 D A ((km_w cA h0 q) (r.2.2.2.2.2)) 167 [(0, .ref h0), (1, .int (r.1)), (2, .int (r.2.1)), (3, .int (r.2.2.1)), (4, .int (r.2.2.2.1)), (5, .int (r.2.2.2.2.1))] []) (fun u o h kb ke => jm_between_106 F h (fun a0' a1' a2' a3' a4' a5' a6' e => kb (a0', a1', a2', a3', a4', a5', a6') e) (fun a0' a1' a2' a3' a4' a5' e => ke (a0', a1', a2', a3', a4', a5') e)) n (x1, x2, x3, x4, x5, x6, z) r h ke
set_option maxRecDepth 20000 in
theorem jm_between_85 {p : Program} {l : Launch} {e : Env} {s : State} {m : MethodId} {args : Array Value} {below : List Frame} {meth : Method} {c : Code} {A : Nat → Prop} {D : va_G} {cA : Nat → ClassId} {h0 : Nat} {q : Nat → Nat} {Q : State → Prop} (F : kj_Fx p s m args meth c cX8_between 7 wsX8_between RX8 (some .int) D (km_T cA) A) {x1 : Int32} {x2 : Int32} {x3 : Int32} {x4 : Int32} {x5 : Int32} {z : km_S} {o : ((Int32 × Int32 × Int32 × Int32 × Int32 × km_S) ⊕ (Int32 × Int32 × Int32 × Int32 × km_S))} (h : fm_between_85 x1 x2 x3 x4 x5 z = some o) (kb : ∀ (a0' : Int32) (a1' : Int32) (a2' : Int32) (a3' : Int32) (a4' : Int32) (a5' : km_S), o = .inl (a0', a1', a2', a3', a4', a5') → kj_J p l e rm_X8_between s m args below meth c 0 0 Q 7 D A ((km_w cA h0 q) a5') 85 [(0, .ref h0), (1, .int a0'), (2, .int a1'), (3, .int a2'), (4, .int a3'), (5, .int a4')] []) (ke0 : ∀ (a0' : Int32) (a1' : Int32) (a2' : Int32) (a3' : Int32) (a4' : km_S), o = .inr (a0', a1', a2', a3', a4') → kj_J p l e rm_X8_between s m args below meth c 0 0 Q 7 D A ((km_w cA h0 q) a4') 173 [(0, .ref h0), (1, .int a0'), (2, .int a1'), (3, .int a2'), (4, .int a3')] []) : kj_J p l e rm_X8_between s m args below meth c 0 0 Q 7 D A ((km_w cA h0 q) z) 85 [(0, .ref h0), (1, .int x1), (2, .int x2), (3, .int x3), (4, .int x4), (5, .int x5)] [] := by
  unfold fm_between_85 at h
  refine kj_iload F dX8_between_85 5 rfl ?_
  refine kj_aload_n F dX8_between_87 0 rfl rfl ?_
  refine km_get F dX8_between_88 in_X8_between 14 (by decide) (by decide +kernel) rfl rfl ?_
  refine kj_icmp_ge F dX8_between_91 (tgt := 173) (by decide) h (fun hc h => ?_) (fun hc h => ?_)
  · refine kj_J.sub [0, 1, 2, 3, 4] rfl ?_
    exact ke0 x1 x2 x3 x4 z (Option.some.inj h).symm
  · refine kj_aload_n F dX8_between_94 0 rfl rfl ?_
    refine km_get F dX8_between_95 in_X8_between 25 (by decide) (by decide +kernel) rfl rfl ?_
    refine kj_iload F dX8_between_98 5 rfl ?_
    refine kj_lconst F dX8_between_100 (v := 0) (by decide) ?_
    refine km_last F dX8_between_101 1 (by decide) rfl h (fun z1 h => ?_)
    refine kj_iload F dX8_between_102 5 rfl ?_
    refine kj_istore F dX8_between_104 (lv' := [(6, .int x5), (0, .ref h0), (1, .int x1), (2, .int x2), (3, .int x3), (4, .int x4), (5, .int x5)]) (by decide) rfl ?_
    refine kj_J.sub [1, 2, 3, 4, 5, 6, 0] rfl ?_
    refine kj_bn h (fun r2 h1 h => ?_)
    refine jlm_between_106 F h1 ?_
    refine kj_iinc F dX8_between_167 5 rfl (v := 1) (by decide) (by decide) (lv' := [(5, .int ((r2.2.2.2.2.1) + 1)), (0, .ref h0), (1, .int (r2.1)), (2, .int (r2.2.1)), (3, .int (r2.2.2.1)), (4, .int (r2.2.2.2.1))]) rfl ?_
    refine kj_goto F dX8_between_170 (tgt := 85) (by decide) ?_
    refine kj_J.sub [1, 2, 3, 4, 5, 0] rfl ?_
    exact kb (r2.1) (r2.2.1) (r2.2.2.1) (r2.2.2.2.1) ((r2.2.2.2.2.1) + 1) (r2.2.2.2.2.2) (Option.some.inj h).symm
theorem jlm_between_85 {p : Program} {l : Launch} {e : Env} {s : State} {m : MethodId} {args : Array Value} {below : List Frame} {meth : Method} {c : Code} {A : Nat → Prop} {D : va_G} {cA : Nat → ClassId} {h0 : Nat} {q : Nat → Nat} {Q : State → Prop} (F : kj_Fx p s m args meth c cX8_between 7 wsX8_between RX8 (some .int) D (km_T cA) A) {n : Nat} {x1 : Int32} {x2 : Int32} {x3 : Int32} {x4 : Int32} {x5 : Int32} {z : km_S} {r : (Int32 × Int32 × Int32 × Int32 × km_S)} (h : lm_between_85 n x1 x2 x3 x4 x5 z = some r) (ke : kj_J p l e rm_X8_between s m args below meth c 0 0 Q 7 D A ((km_w cA h0 q) (r.2.2.2.2)) 173 [(0, .ref h0), (1, .int (r.1)), (2, .int (r.2.1)), (3, .int (r.2.2.1)), (4, .int (r.2.2.2.1))] []) : kj_J p l e rm_X8_between s m args below meth c 0 0 Q 7 D A ((km_w cA h0 q) z) 85 [(0, .ref h0), (1, .int x1), (2, .int x2), (3, .int x3), (4, .int x4), (5, .int x5)] [] :=
  kj_it_J (Wh := fun (u : (Int32 × Int32 × Int32 × Int32 × Int32 × km_S)) => kj_J p l e rm_X8_between s m args below meth c 0 0 Q 7 D A ((km_w cA h0 q) (u.2.2.2.2.2)) 85 [(0, .ref h0), (1, .int (u.1)), (2, .int (u.2.1)), (3, .int (u.2.2.1)), (4, .int (u.2.2.2.1)), (5, .int (u.2.2.2.2.1))] []) (We := fun r => kj_J p l e rm_X8_between s m args below meth c 0 0 Q 7 D A ((km_w cA h0 q) (r.2.2.2.2)) 173 [(0, .ref h0), (1, .int (r.1)), (2, .int (r.2.1)), (3, .int (r.2.2.1)), (4, .int (r.2.2.2.1))] []) (fun u o h kb ke => jm_between_85 F h (fun a0' a1' a2' a3' a4' a5' e => kb (a0', a1', a2', a3', a4', a5') e) (fun a0' a1' a2' a3' a4' e => ke (a0', a1', a2', a3', a4') e)) n (x1, x2, x3, x4, x5, z) r h ke
set_option maxRecDepth 20000 in
theorem jm_between_66 {p : Program} {l : Launch} {e : Env} {s : State} {m : MethodId} {args : Array Value} {below : List Frame} {meth : Method} {c : Code} {A : Nat → Prop} {D : va_G} {cA : Nat → ClassId} {h0 : Nat} {q : Nat → Nat} {Q : State → Prop} (F : kj_Fx p s m args meth c cX8_between 7 wsX8_between RX8 (some .int) D (km_T cA) A) {x1 : Int32} {x2 : Int32} {x3 : Int32} {x4 : Int32} {z : km_S} {o : ((Int32 × Int32 × Int32 × Int32 × km_S) ⊕ km_S)} (h : fm_between_66 x1 x2 x3 x4 z = some o) (kb : ∀ (a0' : Int32) (a1' : Int32) (a2' : Int32) (a3' : Int32) (a4' : km_S), o = .inl (a0', a1', a2', a3', a4') → kj_J p l e rm_X8_between s m args below meth c 0 0 Q 7 D A ((km_w cA h0 q) a4') 66 [(0, .ref h0), (1, .int a0'), (2, .int a1'), (3, .int a2'), (4, .int a3')] []) (ke0 : ∀ (a0' : km_S), o = .inr a0' → kj_J p l e rm_X8_between s m args below meth c 0 0 Q 7 D A ((km_w cA h0 q) a0') 183 [(0, .ref h0)] []) : kj_J p l e rm_X8_between s m args below meth c 0 0 Q 7 D A ((km_w cA h0 q) z) 66 [(0, .ref h0), (1, .int x1), (2, .int x2), (3, .int x3), (4, .int x4)] [] := by
  unfold fm_between_66 at h
  refine kj_iload F dX8_between_66 4 rfl ?_
  refine kj_aload_n F dX8_between_68 0 rfl rfl ?_
  refine km_get F dX8_between_69 in_X8_between 0 (by decide) (by decide +kernel) rfl rfl ?_
  refine kj_bipush F dX8_between_72 (v := 20) (by decide) ?_
  refine kj_iload_n F dX8_between_74 1 rfl rfl ?_
  refine kj_imul F dX8_between_75 ?_
  refine kj_iconst F dX8_between_76 (v := 1) (by decide) ?_
  refine kj_iadd F dX8_between_77 ?_
  refine km_iald F dX8_between_78 0 (by decide) h (fun v1 h => ?_)
  refine kj_icmp_ge F dX8_between_79 (tgt := 183) (by decide) h (fun hc h => ?_) (fun hc h => ?_)
  · refine kj_J.sub [0] rfl ?_
    exact ke0 z (Option.some.inj h).symm
  · refine kj_iconst F dX8_between_82 (v := 0) (by decide) ?_
    refine kj_istore F dX8_between_83 (lv' := [(5, .int (0 : Int32)), (0, .ref h0), (1, .int x1), (2, .int x2), (3, .int x3), (4, .int x4)]) (by decide) rfl ?_
    refine kj_J.sub [1, 2, 3, 4, 5, 0] rfl ?_
    refine kj_bn h (fun r2 h1 h => ?_)
    refine jlm_between_85 F h1 ?_
    refine kj_aload_n F dX8_between_173 0 rfl rfl ?_
    refine kj_cVv (As := []) (rest := []) F dX8_between_174 h (fun o h1 => cm_nextRow h1) (cwV 0 F.2.2.2.2.1 gX8_between_X8_nextRow rfl rfl rfl (by decide +kernel) ⟨Nat.le_of_ble_eq_true rfl, Nat.le_of_ble_eq_true rfl⟩) 0 rfl rfl rfl rfl rfl (Nat.le_of_ble_eq_true rfl) ⟨Nat.zero_le _, Nat.zero_le _⟩ (fun o3 h => ?_)
    refine kj_iinc F dX8_between_177 4 rfl (v := 1) (by decide) (by decide) (lv' := [(4, .int ((r2.2.2.2.1) + 1)), (0, .ref h0), (1, .int (r2.1)), (2, .int (r2.2.1)), (3, .int (r2.2.2.1))]) rfl ?_
    refine kj_goto F dX8_between_180 (tgt := 66) (by decide) ?_
    refine kj_J.sub [1, 2, 3, 4, 0] rfl ?_
    exact kb (r2.1) (r2.2.1) (r2.2.2.1) ((r2.2.2.2.1) + 1) o3 (Option.some.inj h).symm
theorem jlm_between_66 {p : Program} {l : Launch} {e : Env} {s : State} {m : MethodId} {args : Array Value} {below : List Frame} {meth : Method} {c : Code} {A : Nat → Prop} {D : va_G} {cA : Nat → ClassId} {h0 : Nat} {q : Nat → Nat} {Q : State → Prop} (F : kj_Fx p s m args meth c cX8_between 7 wsX8_between RX8 (some .int) D (km_T cA) A) {n : Nat} {x1 : Int32} {x2 : Int32} {x3 : Int32} {x4 : Int32} {z : km_S} {r : km_S} (h : lm_between_66 n x1 x2 x3 x4 z = some r) (ke : kj_J p l e rm_X8_between s m args below meth c 0 0 Q 7 D A ((km_w cA h0 q) (r)) 183 [(0, .ref h0)] []) : kj_J p l e rm_X8_between s m args below meth c 0 0 Q 7 D A ((km_w cA h0 q) z) 66 [(0, .ref h0), (1, .int x1), (2, .int x2), (3, .int x3), (4, .int x4)] [] :=
  kj_it_J (Wh := fun (u : (Int32 × Int32 × Int32 × Int32 × km_S)) => kj_J p l e rm_X8_between s m args below meth c 0 0 Q 7 D A ((km_w cA h0 q) (u.2.2.2.2)) 66 [(0, .ref h0), (1, .int (u.1)), (2, .int (u.2.1)), (3, .int (u.2.2.1)), (4, .int (u.2.2.2.1))] []) (We := fun r => kj_J p l e rm_X8_between s m args below meth c 0 0 Q 7 D A ((km_w cA h0 q) (r)) 183 [(0, .ref h0)] []) (fun u o h kb ke => jm_between_66 F h (fun a0' a1' a2' a3' a4' e => kb (a0', a1', a2', a3', a4') e) (fun a0' e => ke a0' e)) n (x1, x2, x3, x4, z) r h ke
set_option maxRecDepth 20000 in
theorem jm_between {p : Program} {l : Launch} {e : Env} {s : State} {m : MethodId} {args : Array Value} {below : List Frame} {meth : Method} {c : Code} {A : Nat → Prop} {D : va_G} {cA : Nat → ClassId} {h0 : Nat} {q : Nat → Nat} (F : kj_Fx p s m args meth c cX8_between 7 wsX8_between RX8 (some .int) D (km_T cA) A) {x1 : Int32} {x2 : Int32} {z : km_S} {o : (Int32 × km_S)} (h : fm_between x1 x2 z = some o) : kj_J p l e rm_X8_between s m args below meth c 0 0 (MQ below (kj_Qi D (km_T cA) A (km_w cA h0 q) o) args s 0 0 A) 7 D A ((km_w cA h0 q) z) 0 [(0, .ref h0), (1, .int x1), (2, .int x2)] [] := by
  unfold fm_between at h
  refine kj_aload_n F dX8_between_0 0 rfl rfl ?_
  refine kj_iload_n F dX8_between_1 1 rfl rfl ?_
  refine kj_cVi (As := [.int x1]) (rest := []) F dX8_between_2 h (fun o h1 => cm_isHeap h1) (cwV 1 F.2.2.2.2.1 gX8_between_X8_isHeap rfl rfl rfl (by decide +kernel) ⟨Nat.le_of_ble_eq_true rfl, Nat.le_of_ble_eq_true rfl⟩) 0 rfl rfl rfl rfl rfl (Nat.le_of_ble_eq_true rfl) ⟨Nat.zero_le _, Nat.zero_le _⟩ (fun o1 h => ?_)
  refine kj_if_eq F dX8_between_5 (tgt := 16) (by decide) h (fun hc h => ?_) (fun hc h => ?_)
  · refine kj_ldc F dX8_between_16 (v := (-1000001)) (by decide +kernel) ?_
    exact kj_iret F dX8_between_18 h
  · refine kj_aload_n F dX8_between_8 0 rfl rfl ?_
    refine kj_iload_n F dX8_between_9 2 rfl rfl ?_
    refine kj_cVi (As := [.int x2]) (rest := []) F dX8_between_10 h (fun o h1 => cm_isHeap h1) (cwV 1 F.2.2.2.2.1 gX8_between_X8_isHeap rfl rfl rfl (by decide +kernel) ⟨Nat.le_of_ble_eq_true rfl, Nat.le_of_ble_eq_true rfl⟩) 0 rfl rfl rfl rfl rfl (Nat.le_of_ble_eq_true rfl) ⟨Nat.zero_le _, Nat.zero_le _⟩ (fun o2 h => ?_)
    refine kj_if_ne F dX8_between_13 (tgt := 19) (by decide) h (fun hc h => ?_) (fun hc h => ?_)
    · refine kj_ldc F dX8_between_16 (v := (-1000001)) (by decide +kernel) ?_
      exact kj_iret F dX8_between_18 h
    · refine kj_aload_n F dX8_between_19 0 rfl rfl ?_
      refine kj_iload_n F dX8_between_20 1 rfl rfl ?_
      refine kj_iload_n F dX8_between_21 2 rfl rfl ?_
      refine kj_cVi (As := [.int x1, .int x2]) (rest := []) F dX8_between_22 h (fun o h1 => cm_areAlike h1) (cwV 2 F.2.2.2.2.1 gX8_between_X8_areAlike rfl rfl rfl (by decide +kernel) ⟨Nat.le_of_ble_eq_true rfl, Nat.le_of_ble_eq_true rfl⟩) 0 rfl rfl rfl rfl rfl (Nat.le_of_ble_eq_true rfl) ⟨Nat.zero_le _, Nat.zero_le _⟩ (fun o3 h => ?_)
      refine kj_if_ne F dX8_between_25 (tgt := 31) (by decide) h (fun hc h => ?_) (fun hc h => ?_)
      · refine kj_ldc F dX8_between_28 (v := (-1000002)) (by decide +kernel) ?_
        exact kj_iret F dX8_between_30 h
      · refine kj_aload_n F dX8_between_31 0 rfl rfl ?_
        refine km_get F dX8_between_32 in_X8_between 0 (by decide) (by decide +kernel) rfl rfl ?_
        refine kj_bipush F dX8_between_35 (v := 20) (by decide) ?_
        refine kj_iload_n F dX8_between_37 1 rfl rfl ?_
        refine kj_imul F dX8_between_38 ?_
        refine kj_iconst F dX8_between_39 (v := 2) (by decide) ?_
        refine kj_iadd F dX8_between_40 ?_
        refine km_iald F dX8_between_41 0 (by decide) h (fun v4 h => ?_)
        refine kj_istore_n F dX8_between_42 (lv' := [(3, .int v4), (0, .ref h0), (1, .int x1), (2, .int x2)]) rfl (by decide) rfl ?_
        refine kj_aload_n F dX8_between_43 1 rfl rfl ?_
        refine kj_iload_n F dX8_between_44 0 rfl rfl ?_
        refine kj_aload_n F dX8_between_45 1 rfl rfl ?_
        refine km_get F dX8_between_46 in_X8_between 0 (by decide) (by decide +kernel) rfl rfl ?_
        refine kj_bipush F dX8_between_49 (v := 20) (by decide) ?_
        refine kj_iload_n F dX8_between_51 2 rfl rfl ?_
        refine kj_imul F dX8_between_52 ?_
        refine kj_iconst F dX8_between_53 (v := 3) (by decide) ?_
        refine kj_iadd F dX8_between_54 ?_
        refine km_iald F dX8_between_55 0 (by decide) h (fun v5 h => ?_)
        refine kj_cVv (As := [.int v4, .int v5]) (rest := []) F dX8_between_56 h (fun o h1 => cm_laysRows h1) (cwV 2 F.2.2.2.2.1 gX8_between_X8_laysRows rfl rfl rfl (by decide +kernel) ⟨Nat.le_of_ble_eq_true rfl, Nat.le_of_ble_eq_true rfl⟩) 0 rfl rfl rfl rfl rfl (Nat.le_of_ble_eq_true rfl) ⟨Nat.zero_le _, Nat.zero_le _⟩ (fun o6 h => ?_)
        refine kj_aload_n F dX8_between_59 1 rfl rfl ?_
        refine kj_cVv (As := []) (rest := []) F dX8_between_60 h (fun o h1 => cm_beginsSums h1) (cwV 0 F.2.2.2.2.1 gX8_between_X8_beginsSums rfl rfl rfl (by decide +kernel) ⟨Nat.le_of_ble_eq_true rfl, Nat.le_of_ble_eq_true rfl⟩) 0 rfl rfl rfl rfl rfl (Nat.le_of_ble_eq_true rfl) ⟨Nat.zero_le _, Nat.zero_le _⟩ (fun o7 h => ?_)
        refine kj_iconst F dX8_between_63 (v := 0) (by decide) ?_
        refine kj_istore F dX8_between_64 (lv' := [(4, .int (0 : Int32)), (3, .int v4), (0, .ref h0), (1, .int x1), (2, .int x2)]) (by decide) rfl ?_
        refine kj_J.sub [2, 3, 4, 1, 0] rfl ?_
        refine kj_bn h (fun r8 h1 h => ?_)
        refine jlm_between_66 F h1 ?_
        refine kj_aload_n F dX8_between_183 0 rfl rfl ?_
        refine kj_cVl (As := []) (rest := []) F dX8_between_184 h (fun o h1 => cm_allSums h1) (cwV 0 F.2.2.2.2.1 gX8_between_X8_allSums rfl rfl rfl (by decide +kernel) ⟨Nat.le_of_ble_eq_true rfl, Nat.le_of_ble_eq_true rfl⟩) 0 rfl rfl rfl rfl rfl (Nat.le_of_ble_eq_true rfl) ⟨Nat.zero_le _, Nat.zero_le _⟩ (fun o9 h => ?_)
        refine kj_l2i F dX8_between_187 ?_
        exact kj_iret F dX8_between_188 h
theorem cm_between {l : Launch} {D : va_G} {cA : Nat → ClassId} {h0 : Nat} {q : Nat → Nat} {x1 : Int32} {x2 : Int32} {z : km_S} {o : (Int32 × km_S)} (h : fm_between x1 x2 z = some o) : kj_Mi l yX8_between wsX8_between rm_X8_between D (km_T cA) (km_w cA h0 q) z [.ref h0, .int x1, .int x2] o :=
  fun sz => kj_start (by decide) rfl (Nat.le_of_ble_eq_true rfl) rfl fun p e s m args below meth c hsz F => jm_between F h
