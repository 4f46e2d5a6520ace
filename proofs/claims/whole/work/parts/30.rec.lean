/-! X7_ordersOf -/
abbrev rm_X7_ordersOf (d : Nat) : Room := { frames := 2 + d, cells := 0, slots := 0, locals := 49 + d * 26 }
theorem in_X7_ordersOf_X0 : ∀ w ∈ u_ws RX0 TX0 3, w ∈ wsX7_ordersOf := by decide +kernel
def fc_ordersOf_79 (ba bb bc : Int32) (rc : Int64 → Int32 → Option Int32) (x1 : Int64) (x3 : Int32) (x4 : Int32) (x5 : Int32) (x6 : Int32) : Option ((Int64 × Int32 × Int32 × Int32 × Int32) ⊕ (Int64 × Int32 × Int32 × Int32)) :=
  some (.inl (x1, x3, x4, x5, (x6 + 1)))
def fc_ordersOf_25 (ba bb bc : Int32) (rc : Int64 → Int32 → Option Int32) (x1 : Int64) (x3 : Int32) (x4 : Int32) (x5 : Int32) (x6 : Int32) : Option ((Int64 × Int32 × Int32 × Int32 × Int32) ⊕ (Int64 × Int32 × Int32 × Int32)) :=
  if bb ≤ x6 then
  some (.inr (x1, x3, x4, x5))
  else
  (fx_level ba bb bc x1 x5 x6).bind fun o1 =>
  if o1 ≤ 0 then
  some (.inr (x1, x3, x4, x5))
  else
  (fx_shrinksAt ba bb bc x1 x5 x6).bind fun o2 =>
  if o2 = 0 then
  fc_ordersOf_79 ba bb bc rc x1 x3 x4 x5 x6
  else
  (fx_cube x5 x6).bind fun o3 =>
  (rc (x1 - o3) (x3 - (1 : Int32))).bind fun o4 =>
  fc_ordersOf_79 ba bb bc rc x1 x3 (x4 + o4) x5 x6
def lc_ordersOf_25 (ba bb bc : Int32) (rc : Int64 → Int32 → Option Int32) (fu : Nat) (x1 : Int64) (x3 : Int32) (x4 : Int32) (x5 : Int32) (x6 : Int32) : Option (Int64 × Int32 × Int32 × Int32) :=
  kj_it (fun (s : (Int64 × Int32 × Int32 × Int32 × Int32)) => fc_ordersOf_25 ba bb bc rc (s.1) (s.2.1) (s.2.2.1) (s.2.2.2.1) (s.2.2.2.2)) fu (x1, x3, x4, x5, x6)
def fc_ordersOf_85 (ba bb bc : Int32) (rc : Int64 → Int32 → Option Int32) (x1 : Int64) (x3 : Int32) (x4 : Int32) (x5 : Int32) : Option ((Int64 × Int32 × Int32 × Int32) ⊕ Int32) :=
  some (.inl (x1, x3, x4, (x5 + 1)))
def fc_ordersOf_13 (ba bb bc : Int32) (rc : Int64 → Int32 → Option Int32) (x1 : Int64) (x3 : Int32) (x4 : Int32) (x5 : Int32) : Option ((Int64 × Int32 × Int32 × Int32) ⊕ Int32) :=
  if ba ≤ x5 then
  some (.inr x4)
  else
  (lc_ordersOf_25 ba bb bc rc 5000 x1 x3 x4 x5 (0 : Int32)).bind fun r1 =>
  fc_ordersOf_85 ba bb bc rc (r1.1) (r1.2.1) (r1.2.2.1) (r1.2.2.2)
def lc_ordersOf_13 (ba bb bc : Int32) (rc : Int64 → Int32 → Option Int32) (fu : Nat) (x1 : Int64) (x3 : Int32) (x4 : Int32) (x5 : Int32) : Option Int32 :=
  kj_it (fun (s : (Int64 × Int32 × Int32 × Int32)) => fc_ordersOf_13 ba bb bc rc (s.1) (s.2.1) (s.2.2.1) (s.2.2.2)) fu (x1, x3, x4, x5)
def fc_ordersOf_body (ba bb bc : Int32) (rc : Int64 → Int32 → Option Int32) (x1 : Int64) (x3 : Int32) : Option Int32 :=
  if (1 : Int32) < x3 then
  (lc_ordersOf_13 ba bb bc rc 5000 x1 x3 (0 : Int32) (0 : Int32)).bind fun r1 =>
  some (r1)
  else
  some (1 : Int32)
def fc_ordersOf : Nat → Int32 → Int32 → Int32 → Int64 → Int32 → Option Int32
  | 0, _, _, _, _, _ => none
  | d + 1, ba, bb, bc, x1, x3 => fc_ordersOf_body ba bb bc (fc_ordersOf d ba bb bc) x1 x3
set_option maxRecDepth 20000 in
theorem jc_ordersOf_79 {p : Program} {l : Launch} {e : Env} {s : State} {m : MethodId} {args : Array Value} {below : List Frame} {meth : Method} {c : Code} {A : Nat → Prop} {D : va_G} {tys : List (ClassId × FieldType)} {S : Type} {w : S → va_W} {z : S} {Q : State → Prop} (F : kj_Fx p s m args meth c cX7_ordersOf 7 wsX7_ordersOf RX7 (some .int) D tys A) {ba bb bc : Int32} {b0 q0 d : Nat} (hb : (w z)[q0]? = some (b0, .inr (0, [.int ba, .int bb, .int bc]))) {rc : Int64 → Int32 → Option Int32} (hrec : ∀ {y1 : Int64} {y3 : Int32} {o : Int32}, rc y1 y3 = some o → kj_Mi l yX7_ordersOf wsX7_ordersOf (rm_X7_ordersOf d) D tys w z [.ref b0, .long y1, .int y3] (o, z)) {x1 : Int64} {x3 : Int32} {x4 : Int32} {x5 : Int32} {x6 : Int32} {o : ((Int64 × Int32 × Int32 × Int32 × Int32) ⊕ (Int64 × Int32 × Int32 × Int32))} (h : fc_ordersOf_79 ba bb bc rc x1 x3 x4 x5 x6 = some o) (kb : ∀ (a0' : Int64) (a1' : Int32) (a2' : Int32) (a3' : Int32) (a4' : Int32), o = .inl (a0', a1', a2', a3', a4') → kj_J p l e (rm_X7_ordersOf (d + 1)) s m args below meth c 0 0 Q 7 D A (w z) 25 [(0, .ref b0), (1, .long a0'), (3, .int a1'), (4, .int a2'), (5, .int a3'), (6, .int a4')] []) (ke0 : ∀ (a0' : Int64) (a1' : Int32) (a2' : Int32) (a3' : Int32), o = .inr (a0', a1', a2', a3') → kj_J p l e (rm_X7_ordersOf (d + 1)) s m args below meth c 0 0 Q 7 D A (w z) 85 [(0, .ref b0), (1, .long a0'), (3, .int a1'), (4, .int a2'), (5, .int a3')] []) : kj_J p l e (rm_X7_ordersOf (d + 1)) s m args below meth c 0 0 Q 7 D A (w z) 79 [(0, .ref b0), (1, .long x1), (3, .int x3), (4, .int x4), (5, .int x5), (6, .int x6)] [] := by
  unfold fc_ordersOf_79 at h
  refine kj_iinc F dX7_ordersOf_79 5 rfl (v := 1) (by decide) (by decide) (lv' := [(6, .int (x6 + 1)), (0, .ref b0), (1, .long x1), (3, .int x3), (4, .int x4), (5, .int x5)]) rfl ?_
  refine kj_goto F dX7_ordersOf_82 (tgt := 25) (by decide) ?_
  refine kj_J.sub [1, 2, 3, 4, 5, 0] rfl ?_
  exact kb x1 x3 x4 x5 (x6 + 1) (Option.some.inj h).symm
set_option maxRecDepth 20000 in
theorem jc_ordersOf_25 {p : Program} {l : Launch} {e : Env} {s : State} {m : MethodId} {args : Array Value} {below : List Frame} {meth : Method} {c : Code} {A : Nat → Prop} {D : va_G} {tys : List (ClassId × FieldType)} {S : Type} {w : S → va_W} {z : S} {Q : State → Prop} (F : kj_Fx p s m args meth c cX7_ordersOf 7 wsX7_ordersOf RX7 (some .int) D tys A) {ba bb bc : Int32} {b0 q0 d : Nat} (hb : (w z)[q0]? = some (b0, .inr (0, [.int ba, .int bb, .int bc]))) {rc : Int64 → Int32 → Option Int32} (hrec : ∀ {y1 : Int64} {y3 : Int32} {o : Int32}, rc y1 y3 = some o → kj_Mi l yX7_ordersOf wsX7_ordersOf (rm_X7_ordersOf d) D tys w z [.ref b0, .long y1, .int y3] (o, z)) {x1 : Int64} {x3 : Int32} {x4 : Int32} {x5 : Int32} {x6 : Int32} {o : ((Int64 × Int32 × Int32 × Int32 × Int32) ⊕ (Int64 × Int32 × Int32 × Int32))} (h : fc_ordersOf_25 ba bb bc rc x1 x3 x4 x5 x6 = some o) (kb : ∀ (a0' : Int64) (a1' : Int32) (a2' : Int32) (a3' : Int32) (a4' : Int32), o = .inl (a0', a1', a2', a3', a4') → kj_J p l e (rm_X7_ordersOf (d + 1)) s m args below meth c 0 0 Q 7 D A (w z) 25 [(0, .ref b0), (1, .long a0'), (3, .int a1'), (4, .int a2'), (5, .int a3'), (6, .int a4')] []) (ke0 : ∀ (a0' : Int64) (a1' : Int32) (a2' : Int32) (a3' : Int32), o = .inr (a0', a1', a2', a3') → kj_J p l e (rm_X7_ordersOf (d + 1)) s m args below meth c 0 0 Q 7 D A (w z) 85 [(0, .ref b0), (1, .long a0'), (3, .int a1'), (4, .int a2'), (5, .int a3')] []) : kj_J p l e (rm_X7_ordersOf (d + 1)) s m args below meth c 0 0 Q 7 D A (w z) 25 [(0, .ref b0), (1, .long x1), (3, .int x3), (4, .int x4), (5, .int x5), (6, .int x6)] [] := by
  unfold fc_ordersOf_25 at h
  refine kj_iload F dX7_ordersOf_25 5 rfl ?_
  refine kj_aload_n F dX7_ordersOf_27 0 rfl rfl ?_
  refine kj_get F dX7_ordersOf_28 in_X7_ordersOf_X0 _ hb rfl 1 (by decide) (by decide +kernel) rfl rfl ?_
  refine kj_icmp_ge F dX7_ordersOf_31 (tgt := 85) (by decide) h (fun hc h => ?_) (fun hc h => ?_)
  · refine kj_J.sub [0, 1, 2, 3, 4] rfl ?_
    exact ke0 x1 x3 x4 x5 (Option.some.inj h).symm
  · refine kj_aload_n F dX7_ordersOf_34 0 rfl rfl ?_
    refine kj_lload_n F dX7_ordersOf_35 1 rfl rfl ?_
    refine kj_iload F dX7_ordersOf_36 4 rfl ?_
    refine kj_iload F dX7_ordersOf_38 5 rfl ?_
    refine kj_cVip (As := [.long x1, .int x5, .int x6]) (rest := []) F dX7_ordersOf_40 h (fun o h1 => cx_level (w := w) hb h1) (cwV 3 F.2.2.2.2.1 gX7_ordersOf_X0_level rfl rfl rfl (by decide +kernel) ⟨show 0 + 1 ≤ 2 + (d + 1) by omega, show 8 + (5 + 11) + 0 ≤ 49 + (d + 1) * 26 by omega⟩) _ hb rfl rfl rfl rfl (Nat.le_of_ble_eq_true rfl) ⟨Nat.zero_le _, Nat.zero_le _⟩ (fun o1 h => ?_)
    refine kj_if_le F dX7_ordersOf_43 (tgt := 85) (by decide) h (fun hc h => ?_) (fun hc h => ?_)
    · refine kj_J.sub [0, 1, 2, 3, 4] rfl ?_
      exact ke0 x1 x3 x4 x5 (Option.some.inj h).symm
    · refine kj_aload_n F dX7_ordersOf_46 0 rfl rfl ?_
      refine kj_lload_n F dX7_ordersOf_47 1 rfl rfl ?_
      refine kj_iload F dX7_ordersOf_48 4 rfl ?_
      refine kj_iload F dX7_ordersOf_50 5 rfl ?_
      refine kj_cVip (As := [.long x1, .int x5, .int x6]) (rest := []) F dX7_ordersOf_52 h (fun o h1 => cx_shrinksAt (w := w) hb h1) (cwV 3 F.2.2.2.2.1 gX7_ordersOf_X0_shrinksAt rfl rfl rfl (by decide +kernel) ⟨show 1 + 1 ≤ 2 + (d + 1) by omega, show 8 + (6 + 11) + 24 ≤ 49 + (d + 1) * 26 by omega⟩) _ hb rfl rfl rfl rfl (Nat.le_of_ble_eq_true rfl) ⟨Nat.zero_le _, Nat.zero_le _⟩ (fun o2 h => ?_)
      refine kj_if_eq F dX7_ordersOf_55 (tgt := 79) (by decide) h (fun hc h => ?_) (fun hc h => ?_)
      · exact jc_ordersOf_79 F hb hrec h kb ke0
      · refine kj_iload F dX7_ordersOf_58 3 rfl ?_
        refine kj_aload_n F dX7_ordersOf_60 0 rfl rfl ?_
        refine kj_lload_n F dX7_ordersOf_61 1 rfl rfl ?_
        refine kj_iload F dX7_ordersOf_62 4 rfl ?_
        refine kj_iload F dX7_ordersOf_64 5 rfl ?_
        refine kj_cSlp (As := [.int x5, .int x6]) (rest := [.long x1, .ref b0, .int x4]) F dX7_ordersOf_66 h (fun o h1 => cx_cube (w := w) h1) (va_cwS 2 F.2.2.2.2.1 gX7_ordersOf_X0_cube rfl rfl rfl (by decide +kernel) ⟨show 0 + 1 ≤ 2 + (d + 1) by omega, show 8 + (2 + 11) + 0 ≤ 49 + (d + 1) * 26 by omega⟩) rfl rfl (Nat.le_of_ble_eq_true rfl) ⟨Nat.zero_le _, Nat.zero_le _⟩ (fun o3 h => ?_)
        refine kj_lsub F dX7_ordersOf_69 ?_
        refine kj_iload_n F dX7_ordersOf_70 2 rfl rfl ?_
        refine kj_iconst F dX7_ordersOf_71 (v := 1) (by decide) ?_
        refine kj_isub F dX7_ordersOf_72 ?_
        refine kj_cSip (As := [.ref b0, .long (x1 - o3), .int (x3 - (1 : Int32))]) (rest := [.int x4]) F dX7_ordersOf_73 h (fun o h1 => hrec h1) (va_cwS 3 F.2.2.2.2.1 gX7_ordersOf_X7_ordersOf rfl rfl rfl (by decide +kernel) ⟨show 2 + d + 1 ≤ 2 + (d + 1) by omega, show 8 + (7 + 11) + (49 + d * 26) ≤ 49 + (d + 1) * 26 by omega⟩) rfl rfl (Nat.le_of_ble_eq_true rfl) ⟨Nat.zero_le _, Nat.zero_le _⟩ (fun o4 h => ?_)
        refine kj_iadd F dX7_ordersOf_76 ?_
        refine kj_istore F dX7_ordersOf_77 (lv' := [(4, .int (x4 + o4)), (0, .ref b0), (1, .long x1), (3, .int x3), (5, .int x5), (6, .int x6)]) (by decide) rfl ?_
        refine kj_J.sub [1, 2, 3, 0, 4, 5] rfl ?_
        exact jc_ordersOf_79 F hb hrec h kb ke0
theorem jlc_ordersOf_25 {p : Program} {l : Launch} {e : Env} {s : State} {m : MethodId} {args : Array Value} {below : List Frame} {meth : Method} {c : Code} {A : Nat → Prop} {D : va_G} {tys : List (ClassId × FieldType)} {S : Type} {w : S → va_W} {z : S} {Q : State → Prop} (F : kj_Fx p s m args meth c cX7_ordersOf 7 wsX7_ordersOf RX7 (some .int) D tys A) {ba bb bc : Int32} {b0 q0 d : Nat} (hb : (w z)[q0]? = some (b0, .inr (0, [.int ba, .int bb, .int bc]))) {rc : Int64 → Int32 → Option Int32} (hrec : ∀ {y1 : Int64} {y3 : Int32} {o : Int32}, rc y1 y3 = some o → kj_Mi l yX7_ordersOf wsX7_ordersOf (rm_X7_ordersOf d) D tys w z [.ref b0, .long y1, .int y3] (o, z)) {fu : Nat} {x1 : Int64} {x3 : Int32} {x4 : Int32} {x5 : Int32} {x6 : Int32} {r : (Int64 × Int32 × Int32 × Int32)} (h : lc_ordersOf_25 ba bb bc rc fu x1 x3 x4 x5 x6 = some r) (ke : kj_J p l e (rm_X7_ordersOf (d + 1)) s m args below meth c 0 0 Q 7 D A (w z) 85 [(0, .ref b0), (1, .long (r.1)), (3, .int (r.2.1)), (4, .int (r.2.2.1)), (5, .int (r.2.2.2))] []) : kj_J p l e (rm_X7_ordersOf (d + 1)) s m args below meth c 0 0 Q 7 D A (w z) 25 [(0, .ref b0), (1, .long x1), (3, .int x3), (4, .int x4), (5, .int x5), (6, .int x6)] [] :=
  kj_it_J (Wh := fun (u : (Int64 × Int32 × Int32 × Int32 × Int32)) => kj_J p l e (rm_X7_ordersOf (d + 1)) s m args below meth c 0 0 Q 7 D A (w z) 25 [(0, .ref b0), (1, .long (u.1)), (3, .int (u.2.1)), (4, .int (u.2.2.1)), (5, .int (u.2.2.2.1)), (6, .int (u.2.2.2.2))] []) (We := fun r => kj_J p l e (rm_X7_ordersOf (d + 1)) s m args below meth c 0 0 Q 7 D A (w z) 85 [(0, .ref b0), (1, .long (r.1)), (3, .int (r.2.1)), (4, .int (r.2.2.1)), (5, .int (r.2.2.2))] []) (fun u o h kb ke => jc_ordersOf_25 F hb hrec h (fun a0' a1' a2' a3' a4' e => kb (a0', a1', a2', a3', a4') e) (fun a0' a1' a2' a3' e => ke (a0', a1', a2', a3') e)) fu (x1, x3, x4, x5, x6) r h ke
set_option maxRecDepth 20000 in
theorem jc_ordersOf_85 {p : Program} {l : Launch} {e : Env} {s : State} {m : MethodId} {args : Array Value} {below : List Frame} {meth : Method} {c : Code} {A : Nat → Prop} {D : va_G} {tys : List (ClassId × FieldType)} {S : Type} {w : S → va_W} {z : S} {Q : State → Prop} (F : kj_Fx p s m args meth c cX7_ordersOf 7 wsX7_ordersOf RX7 (some .int) D tys A) {ba bb bc : Int32} {b0 q0 d : Nat} (hb : (w z)[q0]? = some (b0, .inr (0, [.int ba, .int bb, .int bc]))) {rc : Int64 → Int32 → Option Int32} (hrec : ∀ {y1 : Int64} {y3 : Int32} {o : Int32}, rc y1 y3 = some o → kj_Mi l yX7_ordersOf wsX7_ordersOf (rm_X7_ordersOf d) D tys w z [.ref b0, .long y1, .int y3] (o, z)) {x1 : Int64} {x3 : Int32} {x4 : Int32} {x5 : Int32} {o : ((Int64 × Int32 × Int32 × Int32) ⊕ Int32)} (h : fc_ordersOf_85 ba bb bc rc x1 x3 x4 x5 = some o) (kb : ∀ (a0' : Int64) (a1' : Int32) (a2' : Int32) (a3' : Int32), o = .inl (a0', a1', a2', a3') → kj_J p l e (rm_X7_ordersOf (d + 1)) s m args below meth c 0 0 Q 7 D A (w z) 13 [(0, .ref b0), (1, .long a0'), (3, .int a1'), (4, .int a2'), (5, .int a3')] []) (ke0 : ∀ (a0' : Int32), o = .inr a0' → kj_J p l e (rm_X7_ordersOf (d + 1)) s m args below meth c 0 0 Q 7 D A (w z) 91 [(4, .int a0')] []) : kj_J p l e (rm_X7_ordersOf (d + 1)) s m args below meth c 0 0 Q 7 D A (w z) 85 [(0, .ref b0), (1, .long x1), (3, .int x3), (4, .int x4), (5, .int x5)] [] := by
  unfold fc_ordersOf_85 at h
  refine kj_iinc F dX7_ordersOf_85 4 rfl (v := 1) (by decide) (by decide) (lv' := [(5, .int (x5 + 1)), (0, .ref b0), (1, .long x1), (3, .int x3), (4, .int x4)]) rfl ?_
  refine kj_goto F dX7_ordersOf_88 (tgt := 13) (by decide) ?_
  refine kj_J.sub [1, 2, 3, 4, 0] rfl ?_
  exact kb x1 x3 x4 (x5 + 1) (Option.some.inj h).symm
set_option maxRecDepth 20000 in
theorem jc_ordersOf_13 {p : Program} {l : Launch} {e : Env} {s : State} {m : MethodId} {args : Array Value} {below : List Frame} {meth : Method} {c : Code} {A : Nat → Prop} {D : va_G} {tys : List (ClassId × FieldType)} {S : Type} {w : S → va_W} {z : S} {Q : State → Prop} (F : kj_Fx p s m args meth c cX7_ordersOf 7 wsX7_ordersOf RX7 (some .int) D tys A) {ba bb bc : Int32} {b0 q0 d : Nat} (hb : (w z)[q0]? = some (b0, .inr (0, [.int ba, .int bb, .int bc]))) {rc : Int64 → Int32 → Option Int32} (hrec : ∀ {y1 : Int64} {y3 : Int32} {o : Int32}, rc y1 y3 = some o → kj_Mi l yX7_ordersOf wsX7_ordersOf (rm_X7_ordersOf d) D tys w z [.ref b0, .long y1, .int y3] (o, z)) {x1 : Int64} {x3 : Int32} {x4 : Int32} {x5 : Int32} {o : ((Int64 × Int32 × Int32 × Int32) ⊕ Int32)} (h : fc_ordersOf_13 ba bb bc rc x1 x3 x4 x5 = some o) (kb : ∀ (a0' : Int64) (a1' : Int32) (a2' : Int32) (a3' : Int32), o = .inl (a0', a1', a2', a3') → kj_J p l e (rm_X7_ordersOf (d + 1)) s m args below meth c 0 0 Q 7 D A (w z) 13 [(0, .ref b0), (1, .long a0'), (3, .int a1'), (4, .int a2'), (5, .int a3')] []) (ke0 : ∀ (a0' : Int32), o = .inr a0' → kj_J p l e (rm_X7_ordersOf (d + 1)) s m args below meth c 0 0 Q 7 D A (w z) 91 [(4, .int a0')] []) : kj_J p l e (rm_X7_ordersOf (d + 1)) s m args below meth c 0 0 Q 7 D A (w z) 13 [(0, .ref b0), (1, .long x1), (3, .int x3), (4, .int x4), (5, .int x5)] [] := by
  unfold fc_ordersOf_13 at h
  refine kj_iload F dX7_ordersOf_13 4 rfl ?_
  refine kj_aload_n F dX7_ordersOf_15 0 rfl rfl ?_
  refine kj_get F dX7_ordersOf_16 in_X7_ordersOf_X0 _ hb rfl 0 (by decide) (by decide +kernel) rfl rfl ?_
  refine kj_icmp_ge F dX7_ordersOf_19 (tgt := 91) (by decide) h (fun hc h => ?_) (fun hc h => ?_)
  · refine kj_J.sub [3] rfl ?_
    exact ke0 x4 (Option.some.inj h).symm
  · refine kj_iconst F dX7_ordersOf_22 (v := 0) (by decide) ?_
    refine kj_istore F dX7_ordersOf_23 (lv' := [(6, .int (0 : Int32)), (0, .ref b0), (1, .long x1), (3, .int x3), (4, .int x4), (5, .int x5)]) (by decide) rfl ?_
    refine kj_J.sub [1, 2, 3, 4, 5, 0] rfl ?_
    refine kj_bn h (fun r1 h1 h => ?_)
    refine jlc_ordersOf_25 F hb hrec h1 ?_
    exact jc_ordersOf_85 F hb hrec h kb ke0
theorem jlc_ordersOf_13 {p : Program} {l : Launch} {e : Env} {s : State} {m : MethodId} {args : Array Value} {below : List Frame} {meth : Method} {c : Code} {A : Nat → Prop} {D : va_G} {tys : List (ClassId × FieldType)} {S : Type} {w : S → va_W} {z : S} {Q : State → Prop} (F : kj_Fx p s m args meth c cX7_ordersOf 7 wsX7_ordersOf RX7 (some .int) D tys A) {ba bb bc : Int32} {b0 q0 d : Nat} (hb : (w z)[q0]? = some (b0, .inr (0, [.int ba, .int bb, .int bc]))) {rc : Int64 → Int32 → Option Int32} (hrec : ∀ {y1 : Int64} {y3 : Int32} {o : Int32}, rc y1 y3 = some o → kj_Mi l yX7_ordersOf wsX7_ordersOf (rm_X7_ordersOf d) D tys w z [.ref b0, .long y1, .int y3] (o, z)) {fu : Nat} {x1 : Int64} {x3 : Int32} {x4 : Int32} {x5 : Int32} {r : Int32} (h : lc_ordersOf_13 ba bb bc rc fu x1 x3 x4 x5 = some r) (ke : kj_J p l e (rm_X7_ordersOf (d + 1)) s m args below meth c 0 0 Q 7 D A (w z) 91 [(4, .int (r))] []) : kj_J p l e (rm_X7_ordersOf (d + 1)) s m args below meth c 0 0 Q 7 D A (w z) 13 [(0, .ref b0), (1, .long x1), (3, .int x3), (4, .int x4), (5, .int x5)] [] :=
  kj_it_J (Wh := fun (u : (Int64 × Int32 × Int32 × Int32)) => kj_J p l e (rm_X7_ordersOf (d + 1)) s m args below meth c 0 0 Q 7 D A (w z) 13 [(0, .ref b0), (1, .long (u.1)), (3, .int (u.2.1)), (4, .int (u.2.2.1)), (5, .int (u.2.2.2))] []) (We := fun r => kj_J p l e (rm_X7_ordersOf (d + 1)) s m args below meth c 0 0 Q 7 D A (w z) 91 [(4, .int (r))] []) (fun u o h kb ke => jc_ordersOf_13 F hb hrec h (fun a0' a1' a2' a3' e => kb (a0', a1', a2', a3') e) (fun a0' e => ke a0' e)) fu (x1, x3, x4, x5) r h ke
set_option maxRecDepth 20000 in
theorem jc_ordersOf {p : Program} {l : Launch} {e : Env} {s : State} {m : MethodId} {args : Array Value} {below : List Frame} {meth : Method} {c : Code} {A : Nat → Prop} {D : va_G} {tys : List (ClassId × FieldType)} {S : Type} {w : S → va_W} {z : S} (F : kj_Fx p s m args meth c cX7_ordersOf 7 wsX7_ordersOf RX7 (some .int) D tys A) {ba bb bc : Int32} {b0 q0 d : Nat} (hb : (w z)[q0]? = some (b0, .inr (0, [.int ba, .int bb, .int bc]))) {rc : Int64 → Int32 → Option Int32} (hrec : ∀ {y1 : Int64} {y3 : Int32} {o : Int32}, rc y1 y3 = some o → kj_Mi l yX7_ordersOf wsX7_ordersOf (rm_X7_ordersOf d) D tys w z [.ref b0, .long y1, .int y3] (o, z)) {x1 : Int64} {x3 : Int32} {o : Int32} (h : fc_ordersOf_body ba bb bc rc x1 x3 = some o) : kj_J p l e (rm_X7_ordersOf (d + 1)) s m args below meth c 0 0 (MQ below (kj_Qi D tys A w (o, z)) args s 0 0 A) 7 D A (w z) 0 [(0, .ref b0), (1, .long x1), (3, .int x3)] [] := by
  unfold fc_ordersOf_body at h
  refine kj_iload_n F dX7_ordersOf_0 2 rfl rfl ?_
  refine kj_iconst F dX7_ordersOf_1 (v := 1) (by decide) ?_
  refine kj_icmp_gt F dX7_ordersOf_2 (tgt := 7) (by decide) h (fun hc h => ?_) (fun hc h => ?_)
  · refine kj_iconst F dX7_ordersOf_7 (v := 0) (by decide) ?_
    refine kj_istore F dX7_ordersOf_8 (lv' := [(4, .int (0 : Int32)), (0, .ref b0), (1, .long x1), (3, .int x3)]) (by decide) rfl ?_
    refine kj_iconst F dX7_ordersOf_10 (v := 0) (by decide) ?_
    refine kj_istore F dX7_ordersOf_11 (lv' := [(5, .int (0 : Int32)), (4, .int (0 : Int32)), (0, .ref b0), (1, .long x1), (3, .int x3)]) (by decide) rfl ?_
    refine kj_J.sub [2, 3, 4, 1, 0] rfl ?_
    refine kj_bn h (fun r1 h1 h => ?_)
    refine jlc_ordersOf_13 F hb hrec h1 ?_
    refine kj_iload F dX7_ordersOf_91 0 rfl ?_
    exact kj_iret F dX7_ordersOf_93 (kj_pr h)
  · refine kj_iconst F dX7_ordersOf_5 (v := 1) (by decide) ?_
    exact kj_iret F dX7_ordersOf_6 (kj_pr h)
theorem cc_ordersOf {l : Launch} {D : va_G} {tys : List (ClassId × FieldType)} {S : Type} {w : S → va_W} {z : S} {ba bb bc : Int32} {b0 q0 : Nat} (hb : (w z)[q0]? = some (b0, .inr (0, [.int ba, .int bb, .int bc]))) : ∀ {d : Nat} {x1 : Int64} {x3 : Int32} {o : Int32}, fc_ordersOf d ba bb bc x1 x3 = some o → kj_Mi l yX7_ordersOf wsX7_ordersOf (rm_X7_ordersOf d) D tys w z [.ref b0, .long x1, .int x3] (o, z) := by
  intro d
  induction d with
  | zero => intro x1 x3 o h; exact absurd h (by simp [fc_ordersOf])
  | succ d ih => intro x1 x3 o h; exact fun sz => kj_start (by decide) rfl (Nat.le_of_ble_eq_true rfl) rfl fun p e s m args below meth c hsz F => jc_ordersOf F hb (fun h => ih h) h
/-! X7_determinant -/
abbrev rm_X7_determinant (d : Nat) : Room := { frames := 1 + d, cells := 0, slots := 0, locals := 23 + d * 29 }
theorem in_X7_determinant_X0 : ∀ w ∈ u_ws RX0 TX0 3, w ∈ wsX7_determinant := by decide +kernel
def fc_determinant_86 (ba bb bc : Int32) (rc : Int32 → Int32 → Int32 → Option Int64) (x1 : Int32) (x2 : Int32) (x3 : Int32) (x4 : Int64) (x6 : Int32) (x7 : Int32) : Option ((Int32 × Int32 × Int32 × Int64 × Int32 × Int32) ⊕ Int64) :=
  some (.inl (x1, x2, x3, x4, x6, (x7 + 1)))
def fc_determinant_16 (ba bb bc : Int32) (rc : Int32 → Int32 → Int32 → Option Int64) (x1 : Int32) (x2 : Int32) (x3 : Int32) (x4 : Int64) (x6 : Int32) (x7 : Int32) : Option ((Int32 × Int32 × Int32 × Int64 × Int32 × Int32) ⊕ Int64) :=
  if x1 ≤ x7 then
  some (.inr x4)
  else
  if ((x3 >>> (x7 &&& 31)) &&& (1 : Int32)) = 0 then
  (fc_choose (bb + bc) ((bc + x7) - x2)).bind fun o1 =>
  (rc x1 (x2 + (1 : Int32)) (x3 ||| ((1 : Int32) <<< (x7 &&& 31)))).bind fun o2 =>
  fc_determinant_86 ba bb bc rc x1 x2 x3 (x4 + (((x6).toInt64 * (o1).toInt64) * o2)) (-x6) x7
  else
  fc_determinant_86 ba bb bc rc x1 x2 x3 x4 x6 x7
def lc_determinant_16 (ba bb bc : Int32) (rc : Int32 → Int32 → Int32 → Option Int64) (fu : Nat) (x1 : Int32) (x2 : Int32) (x3 : Int32) (x4 : Int64) (x6 : Int32) (x7 : Int32) : Option Int64 :=
  kj_it (fun (s : (Int32 × Int32 × Int32 × Int64 × Int32 × Int32)) => fc_determinant_16 ba bb bc rc (s.1) (s.2.1) (s.2.2.1) (s.2.2.2.1) (s.2.2.2.2.1) (s.2.2.2.2.2)) fu (x1, x2, x3, x4, x6, x7)
def fc_determinant_body (ba bb bc : Int32) (rc : Int32 → Int32 → Int32 → Option Int64) (x1 : Int32) (x2 : Int32) (x3 : Int32) : Option Int64 :=
  if x2 < x1 then
  (lc_determinant_16 ba bb bc rc 5000 x1 x2 x3 (0 : Int64) (1 : Int32) (0 : Int32)).bind fun r1 =>
  some (r1)
  else
  some (1 : Int64)
def fc_determinant : Nat → Int32 → Int32 → Int32 → Int32 → Int32 → Int32 → Option Int64
  | 0, _, _, _, _, _, _ => none
  | d + 1, ba, bb, bc, x1, x2, x3 => fc_determinant_body ba bb bc (fc_determinant d ba bb bc) x1 x2 x3
set_option maxRecDepth 20000 in
theorem jc_determinant_86 {p : Program} {l : Launch} {e : Env} {s : State} {m : MethodId} {args : Array Value} {below : List Frame} {meth : Method} {c : Code} {A : Nat → Prop} {D : va_G} {tys : List (ClassId × FieldType)} {S : Type} {w : S → va_W} {z : S} {Q : State → Prop} (F : kj_Fx p s m args meth c cX7_determinant 10 wsX7_determinant RX7 (some .long) D tys A) {ba bb bc : Int32} {b0 q0 d : Nat} (hb : (w z)[q0]? = some (b0, .inr (0, [.int ba, .int bb, .int bc]))) {rc : Int32 → Int32 → Int32 → Option Int64} (hrec : ∀ {y1 : Int32} {y2 : Int32} {y3 : Int32} {o : Int64}, rc y1 y2 y3 = some o → kj_Ml l yX7_determinant wsX7_determinant (rm_X7_determinant d) D tys w z [.ref b0, .int y1, .int y2, .int y3] (o, z)) {x1 : Int32} {x2 : Int32} {x3 : Int32} {x4 : Int64} {x6 : Int32} {x7 : Int32} {o : ((Int32 × Int32 × Int32 × Int64 × Int32 × Int32) ⊕ Int64)} (h : fc_determinant_86 ba bb bc rc x1 x2 x3 x4 x6 x7 = some o) (kb : ∀ (a0' : Int32) (a1' : Int32) (a2' : Int32) (a3' : Int64) (a4' : Int32) (a5' : Int32), o = .inl (a0', a1', a2', a3', a4', a5') → kj_J p l e (rm_X7_determinant (d + 1)) s m args below meth c 0 0 Q 10 D A (w z) 16 [(0, .ref b0), (1, .int a0'), (2, .int a1'), (3, .int a2'), (4, .long a3'), (6, .int a4'), (7, .int a5')] []) (ke0 : ∀ (a0' : Int64), o = .inr a0' → kj_J p l e (rm_X7_determinant (d + 1)) s m args below meth c 0 0 Q 10 D A (w z) 92 [(4, .long a0')] []) : kj_J p l e (rm_X7_determinant (d + 1)) s m args below meth c 0 0 Q 10 D A (w z) 86 [(0, .ref b0), (1, .int x1), (2, .int x2), (3, .int x3), (4, .long x4), (6, .int x6), (7, .int x7)] [] := by
  unfold fc_determinant_86 at h
  refine kj_iinc F dX7_determinant_86 6 rfl (v := 1) (by decide) (by decide) (lv' := [(7, .int (x7 + 1)), (0, .ref b0), (1, .int x1), (2, .int x2), (3, .int x3), (4, .long x4), (6, .int x6)]) rfl ?_
  refine kj_goto F dX7_determinant_89 (tgt := 16) (by decide) ?_
  refine kj_J.sub [1, 2, 3, 4, 5, 6, 0] rfl ?_
  exact kb x1 x2 x3 x4 x6 (x7 + 1) (Option.some.inj h).symm
set_option maxRecDepth 20000 in
theorem jc_determinant_16 {p : Program} {l : Launch} {e : Env} {s : State} {m : MethodId} {args : Array Value} {below : List Frame} {meth : Method} {c : Code} {A : Nat → Prop} {D : va_G} {tys : List (ClassId × FieldType)} {S : Type} {w : S → va_W} {z : S} {Q : State → Prop} (F : kj_Fx p s m args meth c cX7_determinant 10 wsX7_determinant RX7 (some .long) D tys A) {ba bb bc : Int32} {b0 q0 d : Nat} (hb : (w z)[q0]? = some (b0, .inr (0, [.int ba, .int bb, .int bc]))) {rc : Int32 → Int32 → Int32 → Option Int64} (hrec : ∀ {y1 : Int32} {y2 : Int32} {y3 : Int32} {o : Int64}, rc y1 y2 y3 = some o → kj_Ml l yX7_determinant wsX7_determinant (rm_X7_determinant d) D tys w z [.ref b0, .int y1, .int y2, .int y3] (o, z)) {x1 : Int32} {x2 : Int32} {x3 : Int32} {x4 : Int64} {x6 : Int32} {x7 : Int32} {o : ((Int32 × Int32 × Int32 × Int64 × Int32 × Int32) ⊕ Int64)} (h : fc_determinant_16 ba bb bc rc x1 x2 x3 x4 x6 x7 = some o) (kb : ∀ (a0' : Int32) (a1' : Int32) (a2' : Int32) (a3' : Int64) (a4' : Int32) (a5' : Int32), o = .inl (a0', a1', a2', a3', a4', a5') → kj_J p l e (rm_X7_determinant (d + 1)) s m args below meth c 0 0 Q 10 D A (w z) 16 [(0, .ref b0), (1, .int a0'), (2, .int a1'), (3, .int a2'), (4, .long a3'), (6, .int a4'), (7, .int a5')] []) (ke0 : ∀ (a0' : Int64), o = .inr a0' → kj_J p l e (rm_X7_determinant (d + 1)) s m args below meth c 0 0 Q 10 D A (w z) 92 [(4, .long a0')] []) : kj_J p l e (rm_X7_determinant (d + 1)) s m args below meth c 0 0 Q 10 D A (w z) 16 [(0, .ref b0), (1, .int x1), (2, .int x2), (3, .int x3), (4, .long x4), (6, .int x6), (7, .int x7)] [] := by
  unfold fc_determinant_16 at h
  refine kj_iload F dX7_determinant_16 6 rfl ?_
  refine kj_iload_n F dX7_determinant_18 1 rfl rfl ?_
  refine kj_icmp_ge F dX7_determinant_19 (tgt := 92) (by decide) h (fun hc h => ?_) (fun hc h => ?_)
  · refine kj_J.sub [4] rfl ?_
    exact ke0 x4 (Option.some.inj h).symm
  · refine kj_iload_n F dX7_determinant_22 3 rfl rfl ?_
    refine kj_iload F dX7_determinant_23 6 rfl ?_
    refine kj_ishr F dX7_determinant_25 ?_
    refine kj_iconst F dX7_determinant_26 (v := 1) (by decide) ?_
    refine kj_iand F dX7_determinant_27 ?_
    refine kj_if_ne F dX7_determinant_28 (tgt := 86) (by decide) h (fun hc h => ?_) (fun hc h => ?_)
    · refine kj_aload_n F dX7_determinant_31 0 rfl rfl ?_
      refine kj_get F dX7_determinant_32 in_X7_determinant_X0 _ hb rfl 1 (by decide) (by decide +kernel) rfl rfl ?_
      refine kj_aload_n F dX7_determinant_35 0 rfl rfl ?_
      refine kj_get F dX7_determinant_36 in_X7_determinant_X0 _ hb rfl 2 (by decide) (by decide +kernel) rfl rfl ?_
      refine kj_iadd F dX7_determinant_39 ?_
      refine kj_aload_n F dX7_determinant_40 0 rfl rfl ?_
      refine kj_get F dX7_determinant_41 in_X7_determinant_X0 _ hb rfl 2 (by decide) (by decide +kernel) rfl rfl ?_
      refine kj_iload F dX7_determinant_44 6 rfl ?_
      refine kj_iadd F dX7_determinant_46 ?_
      refine kj_iload_n F dX7_determinant_47 2 rfl rfl ?_
      refine kj_isub F dX7_determinant_48 ?_
      refine kj_cSip (As := [.int (bb + bc), .int ((bc + x7) - x2)]) (rest := []) F dX7_determinant_49 h (fun o h1 => cc_choose (w := w) h1) (va_cwS 2 F.2.2.2.2.1 gX7_determinant_X7_choose rfl rfl rfl (by decide +kernel) ⟨show 0 + 1 ≤ 1 + (d + 1) by omega, show 8 + (4 + 11) + 0 ≤ 23 + (d + 1) * 29 by omega⟩) rfl rfl (Nat.le_of_ble_eq_true rfl) ⟨Nat.zero_le _, Nat.zero_le _⟩ (fun o1 h => ?_)
      refine kj_i2l F dX7_determinant_52 ?_
      refine kj_lstore F dX7_determinant_53 (lv' := [(8, .long (o1).toInt64), (0, .ref b0), (1, .int x1), (2, .int x2), (3, .int x3), (4, .long x4), (6, .int x6), (7, .int x7)]) (by decide) rfl ?_
      refine kj_lload F dX7_determinant_55 5 rfl ?_
      refine kj_iload F dX7_determinant_57 6 rfl ?_
      refine kj_i2l F dX7_determinant_59 ?_
      refine kj_lload F dX7_determinant_60 0 rfl ?_
      refine kj_lmul F dX7_determinant_62 ?_
      refine kj_aload_n F dX7_determinant_63 1 rfl rfl ?_
      refine kj_iload_n F dX7_determinant_64 2 rfl rfl ?_
      refine kj_iload_n F dX7_determinant_65 3 rfl rfl ?_
      refine kj_iconst F dX7_determinant_66 (v := 1) (by decide) ?_
      refine kj_iadd F dX7_determinant_67 ?_
      refine kj_iload_n F dX7_determinant_68 4 rfl rfl ?_
      refine kj_iconst F dX7_determinant_69 (v := 1) (by decide) ?_
      refine kj_iload F dX7_determinant_70 7 rfl ?_
      refine kj_ishl F dX7_determinant_72 ?_
      refine kj_ior F dX7_determinant_73 ?_
      refine kj_cSlp (As := [.ref b0, .int x1, .int (x2 + (1 : Int32)), .int (x3 ||| ((1 : Int32) <<< (x7 &&& 31)))]) (rest := [.long ((x6).toInt64 * (o1).toInt64), .long x4]) F dX7_determinant_74 h (fun o h1 => hrec h1) (va_cwS 4 F.2.2.2.2.1 gX7_determinant_X7_determinant rfl rfl rfl (by decide +kernel) ⟨show 1 + d + 1 ≤ 1 + (d + 1) by omega, show 8 + (10 + 11) + (23 + d * 29) ≤ 23 + (d + 1) * 29 by omega⟩) rfl rfl (Nat.le_of_ble_eq_true rfl) ⟨Nat.zero_le _, Nat.zero_le _⟩ (fun o2 h => ?_)
      refine kj_lmul F dX7_determinant_77 ?_
      refine kj_ladd F dX7_determinant_78 ?_
      refine kj_lstore F dX7_determinant_79 (lv' := [(4, .long (x4 + (((x6).toInt64 * (o1).toInt64) * o2))), (8, .long (o1).toInt64), (0, .ref b0), (1, .int x1), (2, .int x2), (3, .int x3), (6, .int x6), (7, .int x7)]) (by decide) rfl ?_
      refine kj_iload F dX7_determinant_81 6 rfl ?_
      refine kj_ineg F dX7_determinant_83 ?_
      refine kj_istore F dX7_determinant_84 (lv' := [(6, .int (-x6)), (4, .long (x4 + (((x6).toInt64 * (o1).toInt64) * o2))), (8, .long (o1).toInt64), (0, .ref b0), (1, .int x1), (2, .int x2), (3, .int x3), (7, .int x7)]) (by decide) rfl ?_
      refine kj_J.sub [3, 4, 5, 6, 1, 0, 7] rfl ?_
      exact jc_determinant_86 F hb hrec h kb ke0
    · exact jc_determinant_86 F hb hrec h kb ke0
theorem jlc_determinant_16 {p : Program} {l : Launch} {e : Env} {s : State} {m : MethodId} {args : Array Value} {below : List Frame} {meth : Method} {c : Code} {A : Nat → Prop} {D : va_G} {tys : List (ClassId × FieldType)} {S : Type} {w : S → va_W} {z : S} {Q : State → Prop} (F : kj_Fx p s m args meth c cX7_determinant 10 wsX7_determinant RX7 (some .long) D tys A) {ba bb bc : Int32} {b0 q0 d : Nat} (hb : (w z)[q0]? = some (b0, .inr (0, [.int ba, .int bb, .int bc]))) {rc : Int32 → Int32 → Int32 → Option Int64} (hrec : ∀ {y1 : Int32} {y2 : Int32} {y3 : Int32} {o : Int64}, rc y1 y2 y3 = some o → kj_Ml l yX7_determinant wsX7_determinant (rm_X7_determinant d) D tys w z [.ref b0, .int y1, .int y2, .int y3] (o, z)) {fu : Nat} {x1 : Int32} {x2 : Int32} {x3 : Int32} {x4 : Int64} {x6 : Int32} {x7 : Int32} {r : Int64} (h : lc_determinant_16 ba bb bc rc fu x1 x2 x3 x4 x6 x7 = some r) (ke : kj_J p l e (rm_X7_determinant (d + 1)) s m args below meth c 0 0 Q 10 D A (w z) 92 [(4, .long (r))] []) : kj_J p l e (rm_X7_determinant (d + 1)) s m args below meth c 0 0 Q 10 D A (w z) 16 [(0, .ref b0), (1, .int x1), (2, .int x2), (3, .int x3), (4, .long x4), (6, .int x6), (7, .int x7)] [] :=
  kj_it_J (Wh := fun (u : (Int32 × Int32 × Int32 × Int64 × Int32 × Int32)) => kj_J p l e (rm_X7_determinant (d + 1)) s m args below meth c 0 0 Q 10 D A (w z) 16 [(0, .ref b0), (1, .int (u.1)), (2, .int (u.2.1)), (3, .int (u.2.2.1)), (4, .long (u.2.2.2.1)), (6, .int (u.2.2.2.2.1)), (7, .int (u.2.2.2.2.2))] []) (We := fun r => kj_J p l e (rm_X7_determinant (d + 1)) s m args below meth c 0 0 Q 10 D A (w z) 92 [(4, .long (r))] []) (fun u o h kb ke => jc_determinant_16 F hb hrec h (fun a0' a1' a2' a3' a4' a5' e => kb (a0', a1', a2', a3', a4', a5') e) (fun a0' e => ke a0' e)) fu (x1, x2, x3, x4, x6, x7) r h ke
set_option maxRecDepth 20000 in
theorem jc_determinant {p : Program} {l : Launch} {e : Env} {s : State} {m : MethodId} {args : Array Value} {below : List Frame} {meth : Method} {c : Code} {A : Nat → Prop} {D : va_G} {tys : List (ClassId × FieldType)} {S : Type} {w : S → va_W} {z : S} (F : kj_Fx p s m args meth c cX7_determinant 10 wsX7_determinant RX7 (some .long) D tys A) {ba bb bc : Int32} {b0 q0 d : Nat} (hb : (w z)[q0]? = some (b0, .inr (0, [.int ba, .int bb, .int bc]))) {rc : Int32 → Int32 → Int32 → Option Int64} (hrec : ∀ {y1 : Int32} {y2 : Int32} {y3 : Int32} {o : Int64}, rc y1 y2 y3 = some o → kj_Ml l yX7_determinant wsX7_determinant (rm_X7_determinant d) D tys w z [.ref b0, .int y1, .int y2, .int y3] (o, z)) {x1 : Int32} {x2 : Int32} {x3 : Int32} {o : Int64} (h : fc_determinant_body ba bb bc rc x1 x2 x3 = some o) : kj_J p l e (rm_X7_determinant (d + 1)) s m args below meth c 0 0 (MQ below (kj_Ql D tys A w (o, z)) args s 0 0 A) 10 D A (w z) 0 [(0, .ref b0), (1, .int x1), (2, .int x2), (3, .int x3)] [] := by
  unfold fc_determinant_body at h
  refine kj_iload_n F dX7_determinant_0 2 rfl rfl ?_
  refine kj_iload_n F dX7_determinant_1 1 rfl rfl ?_
  refine kj_icmp_lt F dX7_determinant_2 (tgt := 7) (by decide) h (fun hc h => ?_) (fun hc h => ?_)
  · refine kj_lconst F dX7_determinant_7 (v := 0) (by decide) ?_
    refine kj_lstore F dX7_determinant_8 (lv' := [(4, .long (0 : Int64)), (0, .ref b0), (1, .int x1), (2, .int x2), (3, .int x3)]) (by decide) rfl ?_
    refine kj_iconst F dX7_determinant_10 (v := 1) (by decide) ?_
    refine kj_istore F dX7_determinant_11 (lv' := [(6, .int (1 : Int32)), (4, .long (0 : Int64)), (0, .ref b0), (1, .int x1), (2, .int x2), (3, .int x3)]) (by decide) rfl ?_
    refine kj_iconst F dX7_determinant_13 (v := 0) (by decide) ?_
    refine kj_istore F dX7_determinant_14 (lv' := [(7, .int (0 : Int32)), (6, .int (1 : Int32)), (4, .long (0 : Int64)), (0, .ref b0), (1, .int x1), (2, .int x2), (3, .int x3)]) (by decide) rfl ?_
    refine kj_J.sub [3, 4, 5, 6, 2, 1, 0] rfl ?_
    refine kj_bn h (fun r1 h1 h => ?_)
    refine jlc_determinant_16 F hb hrec h1 ?_
    refine kj_lload F dX7_determinant_92 0 rfl ?_
    exact kj_lret F dX7_determinant_94 (kj_pr h)
  · refine kj_lconst F dX7_determinant_5 (v := 1) (by decide) ?_
    exact kj_lret F dX7_determinant_6 (kj_pr h)
theorem cc_determinant {l : Launch} {D : va_G} {tys : List (ClassId × FieldType)} {S : Type} {w : S → va_W} {z : S} {ba bb bc : Int32} {b0 q0 : Nat} (hb : (w z)[q0]? = some (b0, .inr (0, [.int ba, .int bb, .int bc]))) : ∀ {d : Nat} {x1 : Int32} {x2 : Int32} {x3 : Int32} {o : Int64}, fc_determinant d ba bb bc x1 x2 x3 = some o → kj_Ml l yX7_determinant wsX7_determinant (rm_X7_determinant d) D tys w z [.ref b0, .int x1, .int x2, .int x3] (o, z) := by
  intro d
  induction d with
  | zero => intro x1 x2 x3 o h; exact absurd h (by simp [fc_determinant])
  | succ d ih => intro x1 x2 x3 o h; exact fun sz => kj_start (by decide) rfl (Nat.le_of_ble_eq_true rfl) rfl fun p e s m args below meth c hsz F => jc_determinant F hb (fun h => ih h) h
