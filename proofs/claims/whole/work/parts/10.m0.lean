theorem kj_pr {α β : Type} {v : α} {z : β} {o : α} (h : some v = some o) : some (v, z) = some (o, z) := by cases h; rfl
theorem kj_prB {β : Type} {v : Int32} {z : β} {o : Int32} (h : (if v = 0 ∨ v = 1 then some v else none) = some o) : (if v = 0 ∨ v = 1 then some (v, z) else none) = some (o, z) := by
  by_cases hc : v = 0 ∨ v = 1
  · rw [if_pos hc] at h ⊢; cases h; rfl
  · rw [if_neg hc] at h; cases h
/-! X8_in -/
abbrev rm_X8_in : Room := { frames := 0, cells := 0, slots := 0, locals := 0 }
def fm_in (x0 : Int32) (x1 : Int32) (x2 : Int32) : Option Int32 :=
  if x0 < x1 then
  some (0 : Int32)
  else
  if x2 < x0 then
  some (0 : Int32)
  else
  some (1 : Int32)
set_option maxRecDepth 20000 in
theorem jm_in {p : Program} {l : Launch} {e : Env} {s : State} {m : MethodId} {args : Array Value} {below : List Frame} {meth : Method} {c : Code} {A : Nat → Prop} {D : va_G} {tys : List (ClassId × FieldType)} {S : Type} {w : S → va_W} {z : S} (F : kj_Fx p s m args meth c cX8_in 3 wsX8_in RX8 (some .boolean) D tys A) {x0 : Int32} {x1 : Int32} {x2 : Int32} {o : Int32} (h : fm_in x0 x1 x2 = some o) : kj_J p l e rm_X8_in s m args below meth c 0 0 (MQ below (kj_Qi D tys A w (o, z)) args s 0 0 A) 3 D A (w z) 0 [(0, .int x0), (1, .int x1), (2, .int x2)] [] := by
  unfold fm_in at h
  refine kj_iload_n F dX8_in_0 0 rfl rfl ?_
  refine kj_iload_n F dX8_in_1 1 rfl rfl ?_
  refine kj_icmp_lt F dX8_in_2 (tgt := 14) (by decide) h (fun hc h => ?_) (fun hc h => ?_)
  · refine kj_iconst F dX8_in_14 (v := 0) (by decide) ?_
    exact kj_zret F dX8_in_15 (by decide) (kj_pr h)
  · refine kj_iload_n F dX8_in_5 0 rfl rfl ?_
    refine kj_iload_n F dX8_in_6 2 rfl rfl ?_
    refine kj_icmp_gt F dX8_in_7 (tgt := 14) (by decide) h (fun hc h => ?_) (fun hc h => ?_)
    · refine kj_iconst F dX8_in_14 (v := 0) (by decide) ?_
      exact kj_zret F dX8_in_15 (by decide) (kj_pr h)
    · refine kj_iconst F dX8_in_10 (v := 1) (by decide) ?_
      refine kj_goto F dX8_in_11 (tgt := 15) (by decide) ?_
      exact kj_zret F dX8_in_15 (by decide) (kj_pr h)
theorem cm_in {l : Launch} {D : va_G} {tys : List (ClassId × FieldType)} {S : Type} {w : S → va_W} {z : S} {x0 : Int32} {x1 : Int32} {x2 : Int32} {o : Int32} (h : fm_in x0 x1 x2 = some o) : kj_Mi l yX8_in wsX8_in rm_X8_in D tys w z [.int x0, .int x1, .int x2] (o, z) :=
  fun sz => kj_start (by decide) rfl (Nat.le_of_ble_eq_true rfl) rfl fun p e s m args below meth c hsz F => jm_in F h
/-! X8_bring -/
abbrev rm_X8_bring : Room := { frames := 0, cells := 0, slots := 0, locals := 0 }
def fm_bring_3 (k0 : Nat) (k1 : Nat) (x1 : Int32) (x3 : Int32) (x4 : Int32) (x5 : Int32) (z : km_S) : Option ((Int32 × Int32 × Int32 × Int32 × km_S) ⊕ km_S) :=
  if x4 ≤ x5 then
  some (.inr z)
  else
  (km_rd z k0 (x1 + x5)).bind fun v1 =>
  (km_wr z k1 (x3 + x5) v1).bind fun z2 =>
  some (.inl (x1, x3, x4, (x5 + 1), z2))
def lm_bring_3 (k0 : Nat) (k1 : Nat) (n : Nat) (x1 : Int32) (x3 : Int32) (x4 : Int32) (x5 : Int32) (z : km_S) : Option km_S :=
  kj_it (fun (s : (Int32 × Int32 × Int32 × Int32 × km_S)) => fm_bring_3 k0 k1 (s.1) (s.2.1) (s.2.2.1) (s.2.2.2.1) (s.2.2.2.2)) n (x1, x3, x4, x5, z)
def fm_bring (k0 : Nat) (k1 : Nat) (x1 : Int32) (x3 : Int32) (x4 : Int32) (z : km_S) : Option km_S :=
  (lm_bring_3 k0 k1 5000 x1 x3 x4 (0 : Int32) z).bind fun r1 =>
  some (r1)
set_option maxRecDepth 20000 in
theorem jm_bring_3 {p : Program} {l : Launch} {e : Env} {s : State} {m : MethodId} {args : Array Value} {below : List Frame} {meth : Method} {c : Code} {A : Nat → Prop} {D : va_G} {cA : Nat → ClassId} {h0 : Nat} {q : Nat → Nat} {Q : State → Prop} (F : kj_Fx p s m args meth c cX8_bring 6 wsX8_bring RX8 none D (km_T cA) A) {k0 : Nat} (hk0 : k0 < 18) {k1 : Nat} (hk1 : k1 < 18) {x1 : Int32} {x3 : Int32} {x4 : Int32} {x5 : Int32} {z : km_S} {o : ((Int32 × Int32 × Int32 × Int32 × km_S) ⊕ km_S)} (h : fm_bring_3 k0 k1 x1 x3 x4 x5 z = some o) (kb : ∀ (a0' : Int32) (a1' : Int32) (a2' : Int32) (a3' : Int32) (a4' : km_S), o = .inl (a0', a1', a2', a3', a4') → kj_J p l e rm_X8_bring s m args below meth c 0 0 Q 6 D A ((km_w cA h0 q) a4') 3 [(0, .ref (q k0)), (1, .int a0'), (2, .ref (q k1)), (3, .int a1'), (4, .int a2'), (5, .int a3')] []) (ke0 : ∀ (a0' : km_S), o = .inr a0' → kj_J p l e rm_X8_bring s m args below meth c 0 0 Q 6 D A ((km_w cA h0 q) a0') 28 [] []) : kj_J p l e rm_X8_bring s m args below meth c 0 0 Q 6 D A ((km_w cA h0 q) z) 3 [(0, .ref (q k0)), (1, .int x1), (2, .ref (q k1)), (3, .int x3), (4, .int x4), (5, .int x5)] [] := by
  unfold fm_bring_3 at h
  refine kj_iload F dX8_bring_3 5 rfl ?_
  refine kj_iload F dX8_bring_5 4 rfl ?_
  refine kj_icmp_ge F dX8_bring_7 (tgt := 28) (by decide) h (fun hc h => ?_) (fun hc h => ?_)
  · refine kj_J.sub [] rfl ?_
    exact ke0 z (Option.some.inj h).symm
  · refine kj_aload_n F dX8_bring_10 2 rfl rfl ?_
    refine kj_iload_n F dX8_bring_11 3 rfl rfl ?_
    refine kj_iload F dX8_bring_12 5 rfl ?_
    refine kj_iadd F dX8_bring_14 ?_
    refine kj_aload_n F dX8_bring_15 0 rfl rfl ?_
    refine kj_iload_n F dX8_bring_16 1 rfl rfl ?_
    refine kj_iload F dX8_bring_17 5 rfl ?_
    refine kj_iadd F dX8_bring_19 ?_
    refine km_iald F dX8_bring_20 k0 hk0 h (fun v1 h => ?_)
    refine km_iast F dX8_bring_21 k1 hk1 h (fun z2 h => ?_)
    refine kj_iinc F dX8_bring_22 5 rfl (v := 1) (by decide) (by decide) (lv' := [(5, .int (x5 + 1)), (0, .ref (q k0)), (1, .int x1), (2, .ref (q k1)), (3, .int x3), (4, .int x4)]) rfl ?_
    refine kj_goto F dX8_bring_25 (tgt := 3) (by decide) ?_
    refine kj_J.sub [1, 2, 3, 4, 5, 0] rfl ?_
    exact kb x1 x3 x4 (x5 + 1) z2 (Option.some.inj h).symm
theorem jlm_bring_3 {p : Program} {l : Launch} {e : Env} {s : State} {m : MethodId} {args : Array Value} {below : List Frame} {meth : Method} {c : Code} {A : Nat → Prop} {D : va_G} {cA : Nat → ClassId} {h0 : Nat} {q : Nat → Nat} {Q : State → Prop} (F : kj_Fx p s m args meth c cX8_bring 6 wsX8_bring RX8 none D (km_T cA) A) {k0 : Nat} (hk0 : k0 < 18) {k1 : Nat} (hk1 : k1 < 18) {n : Nat} {x1 : Int32} {x3 : Int32} {x4 : Int32} {x5 : Int32} {z : km_S} {r : km_S} (h : lm_bring_3 k0 k1 n x1 x3 x4 x5 z = some r) (ke : kj_J p l e rm_X8_bring s m args below meth c 0 0 Q 6 D A ((km_w cA h0 q) (r)) 28 [] []) : kj_J p l e rm_X8_bring s m args below meth c 0 0 Q 6 D A ((km_w cA h0 q) z) 3 [(0, .ref (q k0)), (1, .int x1), (2, .ref (q k1)), (3, .int x3), (4, .int x4), (5, .int x5)] [] :=
  kj_it_J (Wh := fun (u : (Int32 × Int32 × Int32 × Int32 × km_S)) => kj_J p l e rm_X8_bring s m args below meth c 0 0 Q 6 D A ((km_w cA h0 q) (u.2.2.2.2)) 3 [(0, .ref (q k0)), (1, .int (u.1)), (2, .ref (q k1)), (3, .int (u.2.1)), (4, .int (u.2.2.1)), (5, .int (u.2.2.2.1))] []) (We := fun r => kj_J p l e rm_X8_bring s m args below meth c 0 0 Q 6 D A ((km_w cA h0 q) (r)) 28 [] []) (fun u o h kb ke => jm_bring_3 F hk0 hk1 h (fun a0' a1' a2' a3' a4' e => kb (a0', a1', a2', a3', a4') e) (fun a0' e => ke a0' e)) n (x1, x3, x4, x5, z) r h ke
set_option maxRecDepth 20000 in
theorem jm_bring {p : Program} {l : Launch} {e : Env} {s : State} {m : MethodId} {args : Array Value} {below : List Frame} {meth : Method} {c : Code} {A : Nat → Prop} {D : va_G} {cA : Nat → ClassId} {h0 : Nat} {q : Nat → Nat} (F : kj_Fx p s m args meth c cX8_bring 6 wsX8_bring RX8 none D (km_T cA) A) {k0 : Nat} (hk0 : k0 < 18) {k1 : Nat} (hk1 : k1 < 18) {x1 : Int32} {x3 : Int32} {x4 : Int32} {z : km_S} {o : km_S} (h : fm_bring k0 k1 x1 x3 x4 z = some o) : kj_J p l e rm_X8_bring s m args below meth c 0 0 (MQ below (kj_Qv D (km_T cA) A (km_w cA h0 q) o) args s 0 0 A) 6 D A ((km_w cA h0 q) z) 0 [(0, .ref (q k0)), (1, .int x1), (2, .ref (q k1)), (3, .int x3), (4, .int x4)] [] := by
  unfold fm_bring at h
  refine kj_iconst F dX8_bring_0 (v := 0) (by decide) ?_
  refine kj_istore F dX8_bring_1 (lv' := [(5, .int (0 : Int32)), (0, .ref (q k0)), (1, .int x1), (2, .ref (q k1)), (3, .int x3), (4, .int x4)]) (by decide) rfl ?_
  refine kj_J.sub [1, 2, 3, 4, 5, 0] rfl ?_
  refine kj_bn h (fun r1 h1 h => ?_)
  refine jlm_bring_3 F hk0 hk1 h1 ?_
  exact kj_vret F dX8_bring_28 h
theorem cm_bring {l : Launch} {D : va_G} {cA : Nat → ClassId} {h0 : Nat} {q : Nat → Nat} {k0 : Nat} (hk0 : k0 < 18) {k1 : Nat} (hk1 : k1 < 18) {x1 : Int32} {x3 : Int32} {x4 : Int32} {z : km_S} {o : km_S} (h : fm_bring k0 k1 x1 x3 x4 z = some o) : kj_Mv l yX8_bring wsX8_bring rm_X8_bring D (km_T cA) (km_w cA h0 q) z [.ref (q k0), .int x1, .ref (q k1), .int x3, .int x4] o :=
  fun sz => kj_start (by decide) rfl (Nat.le_of_ble_eq_true rfl) rfl fun p e s m args below meth c hsz F => jm_bring F hk0 hk1 h
/-! X8_isBox -/
abbrev rm_X8_isBox : Room := { frames := 1, cells := 0, slots := 0, locals := 22 }
def fm_isBox (x0 : Int32) (x1 : Int32) (x2 : Int32) : Option Int32 :=
  (fm_in x0 (1 : Int32) (4 : Int32)).bind fun o1 =>
  if o1 = 0 then
  some (0 : Int32)
  else
  (fm_in x1 (1 : Int32) (4 : Int32)).bind fun o2 =>
  if o2 = 0 then
  some (0 : Int32)
  else
  (fm_in x2 (1 : Int32) (4 : Int32)).bind fun o3 =>
  if o3 = 0 then
  some (0 : Int32)
  else
  if (48 : Int32) < ((x0 * x1) * x2) then
  some (0 : Int32)
  else
  some (1 : Int32)
set_option maxRecDepth 20000 in
theorem jm_isBox {p : Program} {l : Launch} {e : Env} {s : State} {m : MethodId} {args : Array Value} {below : List Frame} {meth : Method} {c : Code} {A : Nat → Prop} {D : va_G} {tys : List (ClassId × FieldType)} {S : Type} {w : S → va_W} {z : S} (F : kj_Fx p s m args meth c cX8_isBox 3 wsX8_isBox RX8 (some .boolean) D tys A) {x0 : Int32} {x1 : Int32} {x2 : Int32} {o : Int32} (h : fm_isBox x0 x1 x2 = some o) : kj_J p l e rm_X8_isBox s m args below meth c 0 0 (MQ below (kj_Qi D tys A w (o, z)) args s 0 0 A) 3 D A (w z) 0 [(0, .int x0), (1, .int x1), (2, .int x2)] [] := by
  unfold fm_isBox at h
  refine kj_iload_n F dX8_isBox_0 0 rfl rfl ?_
  refine kj_iconst F dX8_isBox_1 (v := 1) (by decide) ?_
  refine kj_iconst F dX8_isBox_2 (v := 4) (by decide) ?_
  refine kj_cSip (As := [.int x0, .int (1 : Int32), .int (4 : Int32)]) (rest := []) F dX8_isBox_3 h (fun o h1 => cm_in (w := w) h1) (va_cwS 3 F.2.2.2.2.1 gX8_isBox_X8_in rfl rfl rfl (by decide +kernel) ⟨Nat.le_of_ble_eq_true rfl, Nat.le_of_ble_eq_true rfl⟩) rfl rfl (Nat.le_of_ble_eq_true rfl) ⟨Nat.zero_le _, Nat.zero_le _⟩ (fun o1 h => ?_)
  refine kj_if_eq F dX8_isBox_6 (tgt := 41) (by decide) h (fun hc h => ?_) (fun hc h => ?_)
  · refine kj_iconst F dX8_isBox_41 (v := 0) (by decide) ?_
    exact kj_zret F dX8_isBox_42 (by decide) (kj_pr h)
  · refine kj_iload_n F dX8_isBox_9 1 rfl rfl ?_
    refine kj_iconst F dX8_isBox_10 (v := 1) (by decide) ?_
    refine kj_iconst F dX8_isBox_11 (v := 4) (by decide) ?_
    refine kj_cSip (As := [.int x1, .int (1 : Int32), .int (4 : Int32)]) (rest := []) F dX8_isBox_12 h (fun o h1 => cm_in (w := w) h1) (va_cwS 3 F.2.2.2.2.1 gX8_isBox_X8_in rfl rfl rfl (by decide +kernel) ⟨Nat.le_of_ble_eq_true rfl, Nat.le_of_ble_eq_true rfl⟩) rfl rfl (Nat.le_of_ble_eq_true rfl) ⟨Nat.zero_le _, Nat.zero_le _⟩ (fun o2 h => ?_)
    refine kj_if_eq F dX8_isBox_15 (tgt := 41) (by decide) h (fun hc h => ?_) (fun hc h => ?_)
    · refine kj_iconst F dX8_isBox_41 (v := 0) (by decide) ?_
      exact kj_zret F dX8_isBox_42 (by decide) (kj_pr h)
    · refine kj_iload_n F dX8_isBox_18 2 rfl rfl ?_
      refine kj_iconst F dX8_isBox_19 (v := 1) (by decide) ?_
      refine kj_iconst F dX8_isBox_20 (v := 4) (by decide) ?_
      refine kj_cSip (As := [.int x2, .int (1 : Int32), .int (4 : Int32)]) (rest := []) F dX8_isBox_21 h (fun o h1 => cm_in (w := w) h1) (va_cwS 3 F.2.2.2.2.1 gX8_isBox_X8_in rfl rfl rfl (by decide +kernel) ⟨Nat.le_of_ble_eq_true rfl, Nat.le_of_ble_eq_true rfl⟩) rfl rfl (Nat.le_of_ble_eq_true rfl) ⟨Nat.zero_le _, Nat.zero_le _⟩ (fun o3 h => ?_)
      refine kj_if_eq F dX8_isBox_24 (tgt := 41) (by decide) h (fun hc h => ?_) (fun hc h => ?_)
      · refine kj_iconst F dX8_isBox_41 (v := 0) (by decide) ?_
        exact kj_zret F dX8_isBox_42 (by decide) (kj_pr h)
      · refine kj_iload_n F dX8_isBox_27 0 rfl rfl ?_
        refine kj_iload_n F dX8_isBox_28 1 rfl rfl ?_
        refine kj_imul F dX8_isBox_29 ?_
        refine kj_iload_n F dX8_isBox_30 2 rfl rfl ?_
        refine kj_imul F dX8_isBox_31 ?_
        refine kj_bipush F dX8_isBox_32 (v := 48) (by decide) ?_
        refine kj_icmp_gt F dX8_isBox_34 (tgt := 41) (by decide) h (fun hc h => ?_) (fun hc h => ?_)
        · refine kj_iconst F dX8_isBox_41 (v := 0) (by decide) ?_
          exact kj_zret F dX8_isBox_42 (by decide) (kj_pr h)
        · refine kj_iconst F dX8_isBox_37 (v := 1) (by decide) ?_
          refine kj_goto F dX8_isBox_38 (tgt := 42) (by decide) ?_
          exact kj_zret F dX8_isBox_42 (by decide) (kj_pr h)
theorem cm_isBox {l : Launch} {D : va_G} {tys : List (ClassId × FieldType)} {S : Type} {w : S → va_W} {z : S} {x0 : Int32} {x1 : Int32} {x2 : Int32} {o : Int32} (h : fm_isBox x0 x1 x2 = some o) : kj_Mi l yX8_isBox wsX8_isBox rm_X8_isBox D tys w z [.int x0, .int x1, .int x2] (o, z) :=
  fun sz => kj_start (by decide) rfl (Nat.le_of_ble_eq_true rfl) rfl fun p e s m args below meth c hsz F => jm_isBox F h
/-! X8_isPlace -/
abbrev rm_X8_isPlace : Room := { frames := 1, cells := 0, slots := 0, locals := 22 }
def fm_isPlace (x0 : Int32) : Option Int32 :=
  (fm_in x0 (0 : Int32) (3 : Int32)).bind fun o1 =>
  if o1 = 0 ∨ o1 = 1 then some o1 else none
set_option maxRecDepth 20000 in
theorem jm_isPlace {p : Program} {l : Launch} {e : Env} {s : State} {m : MethodId} {args : Array Value} {below : List Frame} {meth : Method} {c : Code} {A : Nat → Prop} {D : va_G} {tys : List (ClassId × FieldType)} {S : Type} {w : S → va_W} {z : S} (F : kj_Fx p s m args meth c cX8_isPlace 1 wsX8_isPlace RX8 (some .boolean) D tys A) {x0 : Int32} {o : Int32} (h : fm_isPlace x0 = some o) : kj_J p l e rm_X8_isPlace s m args below meth c 0 0 (MQ below (kj_Qi D tys A w (o, z)) args s 0 0 A) 1 D A (w z) 0 [(0, .int x0)] [] := by
  unfold fm_isPlace at h
  refine kj_iload_n F dX8_isPlace_0 0 rfl rfl ?_
  refine kj_iconst F dX8_isPlace_1 (v := 0) (by decide) ?_
  refine kj_iconst F dX8_isPlace_2 (v := 3) (by decide) ?_
  refine kj_cSip (As := [.int x0, .int (0 : Int32), .int (3 : Int32)]) (rest := []) F dX8_isPlace_3 h (fun o h1 => cm_in (w := w) h1) (va_cwS 3 F.2.2.2.2.1 gX8_isPlace_X8_in rfl rfl rfl (by decide +kernel) ⟨Nat.le_of_ble_eq_true rfl, Nat.le_of_ble_eq_true rfl⟩) rfl rfl (Nat.le_of_ble_eq_true rfl) ⟨Nat.zero_le _, Nat.zero_le _⟩ (fun o1 h => ?_)
  exact kj_zretB F dX8_isPlace_6 (kj_prB h)
theorem cm_isPlace {l : Launch} {D : va_G} {tys : List (ClassId × FieldType)} {S : Type} {w : S → va_W} {z : S} {x0 : Int32} {o : Int32} (h : fm_isPlace x0 = some o) : kj_Mi l yX8_isPlace wsX8_isPlace rm_X8_isPlace D tys w z [.int x0] (o, z) :=
  fun sz => kj_start (by decide) rfl (Nat.le_of_ble_eq_true rfl) rfl fun p e s m args below meth c hsz F => jm_isPlace F h
/-! X8_isHeap -/
abbrev rm_X8_isHeap : Room := { frames := 2, cells := 0, slots := 0, locals := 42 }
theorem in_X8_isHeap : ∀ w ∈ u_ws RX8 TX8 29, w ∈ wsX8_isHeap := by decide +kernel
def fm_isHeap (x1 : Int32) (z : km_S) : Option (Int32 × km_S) :=
  (fm_isPlace x1).bind fun o1 =>
  if o1 = 0 then
  some ((0 : Int32), z)
  else
  (km_rd z 0 ((20 : Int32) * x1)).bind fun v2 =>
  if v2 = (1 : Int32) then
  some ((1 : Int32), z)
  else
  some ((0 : Int32), z)
set_option maxRecDepth 20000 in
theorem jm_isHeap {p : Program} {l : Launch} {e : Env} {s : State} {m : MethodId} {args : Array Value} {below : List Frame} {meth : Method} {c : Code} {A : Nat → Prop} {D : va_G} {cA : Nat → ClassId} {h0 : Nat} {q : Nat → Nat} (F : kj_Fx p s m args meth c cX8_isHeap 2 wsX8_isHeap RX8 (some .boolean) D (km_T cA) A) {x1 : Int32} {z : km_S} {o : (Int32 × km_S)} (h : fm_isHeap x1 z = some o) : kj_J p l e rm_X8_isHeap s m args below meth c 0 0 (MQ below (kj_Qi D (km_T cA) A (km_w cA h0 q) o) args s 0 0 A) 2 D A ((km_w cA h0 q) z) 0 [(0, .ref h0), (1, .int x1)] [] := by
  unfold fm_isHeap at h
  refine kj_iload_n F dX8_isHeap_0 1 rfl rfl ?_
  refine kj_cSip (As := [.int x1]) (rest := []) F dX8_isHeap_1 h (fun o h1 => cm_isPlace (w := (km_w cA h0 q)) h1) (va_cwS 1 F.2.2.2.2.1 gX8_isHeap_X8_isPlace rfl rfl rfl (by decide +kernel) ⟨Nat.le_of_ble_eq_true rfl, Nat.le_of_ble_eq_true rfl⟩) rfl rfl (Nat.le_of_ble_eq_true rfl) ⟨Nat.zero_le _, Nat.zero_le _⟩ (fun o1 h => ?_)
  refine kj_if_eq F dX8_isHeap_4 (tgt := 24) (by decide) h (fun hc h => ?_) (fun hc h => ?_)
  · refine kj_iconst F dX8_isHeap_24 (v := 0) (by decide) ?_
    exact kj_zret F dX8_isHeap_25 (by decide) h
  · refine kj_aload_n F dX8_isHeap_7 0 rfl rfl ?_
    refine km_get F dX8_isHeap_8 in_X8_isHeap 0 (by decide) (by decide +kernel) rfl rfl ?_
    refine kj_bipush F dX8_isHeap_11 (v := 20) (by decide) ?_
    refine kj_iload_n F dX8_isHeap_13 1 rfl rfl ?_
    refine kj_imul F dX8_isHeap_14 ?_
    refine km_iald F dX8_isHeap_15 0 (by decide) h (fun v2 h => ?_)
    refine kj_iconst F dX8_isHeap_16 (v := 1) (by decide) ?_
    refine kj_icmp_ne F dX8_isHeap_17 (tgt := 24) (by decide) h (fun hc h => ?_) (fun hc h => ?_)
    · refine kj_iconst F dX8_isHeap_20 (v := 1) (by decide) ?_
      refine kj_goto F dX8_isHeap_21 (tgt := 25) (by decide) ?_
      exact kj_zret F dX8_isHeap_25 (by decide) h
    · refine kj_iconst F dX8_isHeap_24 (v := 0) (by decide) ?_
      exact kj_zret F dX8_isHeap_25 (by decide) h
theorem cm_isHeap {l : Launch} {D : va_G} {cA : Nat → ClassId} {h0 : Nat} {q : Nat → Nat} {x1 : Int32} {z : km_S} {o : (Int32 × km_S)} (h : fm_isHeap x1 z = some o) : kj_Mi l yX8_isHeap wsX8_isHeap rm_X8_isHeap D (km_T cA) (km_w cA h0 q) z [.ref h0, .int x1] o :=
  fun sz => kj_start (by decide) rfl (Nat.le_of_ble_eq_true rfl) rfl fun p e s m args below meth c hsz F => jm_isHeap F h
/-! X8_at -/
abbrev rm_X8_at : Room := { frames := 0, cells := 0, slots := 0, locals := 0 }
def fm_at (x0 : Int32) (x1 : Int32) : Option Int32 :=
  some (((4 : Int32) + ((4 : Int32) * x0)) + x1)
set_option maxRecDepth 20000 in
theorem jm_at {p : Program} {l : Launch} {e : Env} {s : State} {m : MethodId} {args : Array Value} {below : List Frame} {meth : Method} {c : Code} {A : Nat → Prop} {D : va_G} {tys : List (ClassId × FieldType)} {S : Type} {w : S → va_W} {z : S} (F : kj_Fx p s m args meth c cX8_at 2 wsX8_at RX8 (some .int) D tys A) {x0 : Int32} {x1 : Int32} {o : Int32} (h : fm_at x0 x1 = some o) : kj_J p l e rm_X8_at s m args below meth c 0 0 (MQ below (kj_Qi D tys A w (o, z)) args s 0 0 A) 2 D A (w z) 0 [(0, .int x0), (1, .int x1)] [] := by
  unfold fm_at at h
  refine kj_iconst F dX8_at_0 (v := 4) (by decide) ?_
  refine kj_iconst F dX8_at_1 (v := 4) (by decide) ?_
  refine kj_iload_n F dX8_at_2 0 rfl rfl ?_
  refine kj_imul F dX8_at_3 ?_
  refine kj_iadd F dX8_at_4 ?_
  refine kj_iload_n F dX8_at_5 1 rfl rfl ?_
  refine kj_iadd F dX8_at_6 ?_
  exact kj_iret F dX8_at_7 (kj_pr h)
theorem cm_at {l : Launch} {D : va_G} {tys : List (ClassId × FieldType)} {S : Type} {w : S → va_W} {z : S} {x0 : Int32} {x1 : Int32} {o : Int32} (h : fm_at x0 x1 = some o) : kj_Mi l yX8_at wsX8_at rm_X8_at D tys w z [.int x0, .int x1] (o, z) :=
  fun sz => kj_start (by decide) rfl (Nat.le_of_ble_eq_true rfl) rfl fun p e s m args below meth c hsz F => jm_at F h
/-! X8_volume -/
abbrev rm_X8_volume : Room := { frames := 0, cells := 0, slots := 0, locals := 0 }
def fm_volume_4 (k0 : Nat) (x1 : Int32) (x2 : Int32) (x3 : Int32) (z : km_S) : Option ((Int32 × Int32 × Int32 × km_S) ⊕ (Int32 × km_S)) :=
  if (16 : Int32) ≤ x3 then
  some (.inr (x2, z))
  else
  (km_rd z k0 ((x1 + (4 : Int32)) + x3)).bind fun v1 =>
  some (.inl (x1, (x2 + v1), (x3 + 1), z))
def lm_volume_4 (k0 : Nat) (n : Nat) (x1 : Int32) (x2 : Int32) (x3 : Int32) (z : km_S) : Option (Int32 × km_S) :=
  kj_it (fun (s : (Int32 × Int32 × Int32 × km_S)) => fm_volume_4 k0 (s.1) (s.2.1) (s.2.2.1) (s.2.2.2)) n (x1, x2, x3, z)
def fm_volume (k0 : Nat) (x1 : Int32) (z : km_S) : Option (Int32 × km_S) :=
  (lm_volume_4 k0 5000 x1 (0 : Int32) (0 : Int32) z).bind fun r1 =>
  some ((r1.1), (r1.2))
set_option maxRecDepth 20000 in
theorem jm_volume_4 {p : Program} {l : Launch} {e : Env} {s : State} {m : MethodId} {args : Array Value} {below : List Frame} {meth : Method} {c : Code} {A : Nat → Prop} {D : va_G} {cA : Nat → ClassId} {h0 : Nat} {q : Nat → Nat} {Q : State → Prop} (F : kj_Fx p s m args meth c cX8_volume 4 wsX8_volume RX8 (some .int) D (km_T cA) A) {k0 : Nat} (hk0 : k0 < 18) {x1 : Int32} {x2 : Int32} {x3 : Int32} {z : km_S} {o : ((Int32 × Int32 × Int32 × km_S) ⊕ (Int32 × km_S))} (h : fm_volume_4 k0 x1 x2 x3 z = some o) (kb : ∀ (a0' : Int32) (a1' : Int32) (a2' : Int32) (a3' : km_S), o = .inl (a0', a1', a2', a3') → kj_J p l e rm_X8_volume s m args below meth c 0 0 Q 4 D A ((km_w cA h0 q) a3') 4 [(0, .ref (q k0)), (1, .int a0'), (2, .int a1'), (3, .int a2')] []) (ke0 : ∀ (a0' : Int32) (a1' : km_S), o = .inr (a0', a1') → kj_J p l e rm_X8_volume s m args below meth c 0 0 Q 4 D A ((km_w cA h0 q) a1') 26 [(2, .int a0')] []) : kj_J p l e rm_X8_volume s m args below meth c 0 0 Q 4 D A ((km_w cA h0 q) z) 4 [(0, .ref (q k0)), (1, .int x1), (2, .int x2), (3, .int x3)] [] := by
  unfold fm_volume_4 at h
  refine kj_iload_n F dX8_volume_4 3 rfl rfl ?_
  refine kj_bipush F dX8_volume_5 (v := 16) (by decide) ?_
  refine kj_icmp_ge F dX8_volume_7 (tgt := 26) (by decide) h (fun hc h => ?_) (fun hc h => ?_)
  · refine kj_J.sub [2] rfl ?_
    exact ke0 x2 z (Option.some.inj h).symm
  · refine kj_iload_n F dX8_volume_10 2 rfl rfl ?_
    refine kj_aload_n F dX8_volume_11 0 rfl rfl ?_
    refine kj_iload_n F dX8_volume_12 1 rfl rfl ?_
    refine kj_iconst F dX8_volume_13 (v := 4) (by decide) ?_
    refine kj_iadd F dX8_volume_14 ?_
    refine kj_iload_n F dX8_volume_15 3 rfl rfl ?_
    refine kj_iadd F dX8_volume_16 ?_
    refine km_iald F dX8_volume_17 k0 hk0 h (fun v1 h => ?_)
    refine kj_iadd F dX8_volume_18 ?_
    refine kj_istore_n F dX8_volume_19 (lv' := [(2, .int (x2 + v1)), (0, .ref (q k0)), (1, .int x1), (3, .int x3)]) rfl (by decide) rfl ?_
    refine kj_iinc F dX8_volume_20 3 rfl (v := 1) (by decide) (by decide) (lv' := [(3, .int (x3 + 1)), (2, .int (x2 + v1)), (0, .ref (q k0)), (1, .int x1)]) rfl ?_
    refine kj_goto F dX8_volume_23 (tgt := 4) (by decide) ?_
    refine kj_J.sub [2, 3, 1, 0] rfl ?_
    exact kb x1 (x2 + v1) (x3 + 1) z (Option.some.inj h).symm
theorem jlm_volume_4 {p : Program} {l : Launch} {e : Env} {s : State} {m : MethodId} {args : Array Value} {below : List Frame} {meth : Method} {c : Code} {A : Nat → Prop} {D : va_G} {cA : Nat → ClassId} {h0 : Nat} {q : Nat → Nat} {Q : State → Prop} (F : kj_Fx p s m args meth c cX8_volume 4 wsX8_volume RX8 (some .int) D (km_T cA) A) {k0 : Nat} (hk0 : k0 < 18) {n : Nat} {x1 : Int32} {x2 : Int32} {x3 : Int32} {z : km_S} {r : (Int32 × km_S)} (h : lm_volume_4 k0 n x1 x2 x3 z = some r) (ke : kj_J p l e rm_X8_volume s m args below meth c 0 0 Q 4 D A ((km_w cA h0 q) (r.2)) 26 [(2, .int (r.1))] []) : kj_J p l e rm_X8_volume s m args below meth c 0 0 Q 4 D A ((km_w cA h0 q) z) 4 [(0, .ref (q k0)), (1, .int x1), (2, .int x2), (3, .int x3)] [] :=
  kj_it_J (Wh := fun (u : (Int32 × Int32 × Int32 × km_S)) => kj_J p l e rm_X8_volume s m args below meth c 0 0 Q 4 D A ((km_w cA h0 q) (u.2.2.2)) 4 [(0, .ref (q k0)), (1, .int (u.1)), (2, .int (u.2.1)), (3, .int (u.2.2.1))] []) (We := fun r => kj_J p l e rm_X8_volume s m args below meth c 0 0 Q 4 D A ((km_w cA h0 q) (r.2)) 26 [(2, .int (r.1))] []) (fun u o h kb ke => jm_volume_4 F hk0 h (fun a0' a1' a2' a3' e => kb (a0', a1', a2', a3') e) (fun a0' a1' e => ke (a0', a1') e)) n (x1, x2, x3, z) r h ke
set_option maxRecDepth 20000 in
theorem jm_volume {p : Program} {l : Launch} {e : Env} {s : State} {m : MethodId} {args : Array Value} {below : List Frame} {meth : Method} {c : Code} {A : Nat → Prop} {D : va_G} {cA : Nat → ClassId} {h0 : Nat} {q : Nat → Nat} (F : kj_Fx p s m args meth c cX8_volume 4 wsX8_volume RX8 (some .int) D (km_T cA) A) {k0 : Nat} (hk0 : k0 < 18) {x1 : Int32} {z : km_S} {o : (Int32 × km_S)} (h : fm_volume k0 x1 z = some o) : kj_J p l e rm_X8_volume s m args below meth c 0 0 (MQ below (kj_Qi D (km_T cA) A (km_w cA h0 q) o) args s 0 0 A) 4 D A ((km_w cA h0 q) z) 0 [(0, .ref (q k0)), (1, .int x1)] [] := by
  unfold fm_volume at h
  refine kj_iconst F dX8_volume_0 (v := 0) (by decide) ?_
  refine kj_istore_n F dX8_volume_1 (lv' := [(2, .int (0 : Int32)), (0, .ref (q k0)), (1, .int x1)]) rfl (by decide) rfl ?_
  refine kj_iconst F dX8_volume_2 (v := 0) (by decide) ?_
  refine kj_istore_n F dX8_volume_3 (lv' := [(3, .int (0 : Int32)), (2, .int (0 : Int32)), (0, .ref (q k0)), (1, .int x1)]) rfl (by decide) rfl ?_
  refine kj_J.sub [2, 3, 1, 0] rfl ?_
  refine kj_bn h (fun r1 h1 h => ?_)
  refine jlm_volume_4 F hk0 h1 ?_
  refine kj_iload_n F dX8_volume_26 0 rfl rfl ?_
  exact kj_iret F dX8_volume_27 h
theorem cm_volume {l : Launch} {D : va_G} {cA : Nat → ClassId} {h0 : Nat} {q : Nat → Nat} {k0 : Nat} (hk0 : k0 < 18) {x1 : Int32} {z : km_S} {o : (Int32 × km_S)} (h : fm_volume k0 x1 z = some o) : kj_Mi l yX8_volume wsX8_volume rm_X8_volume D (km_T cA) (km_w cA h0 q) z [.ref (q k0), .int x1] o :=
  fun sz => kj_start (by decide) rfl (Nat.le_of_ble_eq_true rfl) rfl fun p e s m args below meth c hsz F => jm_volume F hk0 h
/-! X8_begins -/
abbrev rm_X8_begins : Room := { frames := 0, cells := 0, slots := 0, locals := 0 }
def fm_begins_3 (k0 : Nat) (x1 : Int32) (x2 : Int32) (x3 : Int32) (x4 : Int32) (z : km_S) : Option ((Int32 × Int32 × Int32 × Int32 × km_S) ⊕ (Int32 × Int32 × Int32 × km_S)) :=
  if (20 : Int32) ≤ x4 then
  some (.inr (x1, x2, x3, z))
  else
  (km_wr z k0 x4 (0 : Int32)).bind fun z1 =>
  some (.inl (x1, x2, x3, (x4 + 1), z1))
def lm_begins_3 (k0 : Nat) (n : Nat) (x1 : Int32) (x2 : Int32) (x3 : Int32) (x4 : Int32) (z : km_S) : Option (Int32 × Int32 × Int32 × km_S) :=
  kj_it (fun (s : (Int32 × Int32 × Int32 × Int32 × km_S)) => fm_begins_3 k0 (s.1) (s.2.1) (s.2.2.1) (s.2.2.2.1) (s.2.2.2.2)) n (x1, x2, x3, x4, z)
def fm_begins (k0 : Nat) (x1 : Int32) (x2 : Int32) (x3 : Int32) (z : km_S) : Option km_S :=
  (lm_begins_3 k0 5000 x1 x2 x3 (0 : Int32) z).bind fun r1 =>
  (km_wr (r1.2.2.2) k0 (0 : Int32) (1 : Int32)).bind fun z2 =>
  (km_wr z2 k0 (1 : Int32) (r1.1)).bind fun z3 =>
  (km_wr z3 k0 (2 : Int32) (r1.2.1)).bind fun z4 =>
  (km_wr z4 k0 (3 : Int32) (r1.2.2.1)).bind fun z5 =>
  some z5
set_option maxRecDepth 20000 in
theorem jm_begins_3 {p : Program} {l : Launch} {e : Env} {s : State} {m : MethodId} {args : Array Value} {below : List Frame} {meth : Method} {c : Code} {A : Nat → Prop} {D : va_G} {cA : Nat → ClassId} {h0 : Nat} {q : Nat → Nat} {Q : State → Prop} (F : kj_Fx p s m args meth c cX8_begins 5 wsX8_begins RX8 none D (km_T cA) A) {k0 : Nat} (hk0 : k0 < 18) {x1 : Int32} {x2 : Int32} {x3 : Int32} {x4 : Int32} {z : km_S} {o : ((Int32 × Int32 × Int32 × Int32 × km_S) ⊕ (Int32 × Int32 × Int32 × km_S))} (h : fm_begins_3 k0 x1 x2 x3 x4 z = some o) (kb : ∀ (a0' : Int32) (a1' : Int32) (a2' : Int32) (a3' : Int32) (a4' : km_S), o = .inl (a0', a1', a2', a3', a4') → kj_J p l e rm_X8_begins s m args below meth c 0 0 Q 5 D A ((km_w cA h0 q) a4') 3 [(0, .ref (q k0)), (1, .int a0'), (2, .int a1'), (3, .int a2'), (4, .int a3')] []) (ke0 : ∀ (a0' : Int32) (a1' : Int32) (a2' : Int32) (a3' : km_S), o = .inr (a0', a1', a2', a3') → kj_J p l e rm_X8_begins s m args below meth c 0 0 Q 5 D A ((km_w cA h0 q) a3') 21 [(0, .ref (q k0)), (1, .int a0'), (2, .int a1'), (3, .int a2')] []) : kj_J p l e rm_X8_begins s m args below meth c 0 0 Q 5 D A ((km_w cA h0 q) z) 3 [(0, .ref (q k0)), (1, .int x1), (2, .int x2), (3, .int x3), (4, .int x4)] [] := by
  unfold fm_begins_3 at h
  refine kj_iload F dX8_begins_3 4 rfl ?_
  refine kj_bipush F dX8_begins_5 (v := 20) (by decide) ?_
  refine kj_icmp_ge F dX8_begins_7 (tgt := 21) (by decide) h (fun hc h => ?_) (fun hc h => ?_)
  · refine kj_J.sub [0, 1, 2, 3] rfl ?_
    exact ke0 x1 x2 x3 z (Option.some.inj h).symm
  · refine kj_aload_n F dX8_begins_10 0 rfl rfl ?_
    refine kj_iload F dX8_begins_11 4 rfl ?_
    refine kj_iconst F dX8_begins_13 (v := 0) (by decide) ?_
    refine km_iast F dX8_begins_14 k0 hk0 h (fun z1 h => ?_)
    refine kj_iinc F dX8_begins_15 4 rfl (v := 1) (by decide) (by decide) (lv' := [(4, .int (x4 + 1)), (0, .ref (q k0)), (1, .int x1), (2, .int x2), (3, .int x3)]) rfl ?_
    refine kj_goto F dX8_begins_18 (tgt := 3) (by decide) ?_
    refine kj_J.sub [1, 2, 3, 4, 0] rfl ?_
    exact kb x1 x2 x3 (x4 + 1) z1 (Option.some.inj h).symm
theorem jlm_begins_3 {p : Program} {l : Launch} {e : Env} {s : State} {m : MethodId} {args : Array Value} {below : List Frame} {meth : Method} {c : Code} {A : Nat → Prop} {D : va_G} {cA : Nat → ClassId} {h0 : Nat} {q : Nat → Nat} {Q : State → Prop} (F : kj_Fx p s m args meth c cX8_begins 5 wsX8_begins RX8 none D (km_T cA) A) {k0 : Nat} (hk0 : k0 < 18) {n : Nat} {x1 : Int32} {x2 : Int32} {x3 : Int32} {x4 : Int32} {z : km_S} {r : (Int32 × Int32 × Int32 × km_S)} (h : lm_begins_3 k0 n x1 x2 x3 x4 z = some r) (ke : kj_J p l e rm_X8_begins s m args below meth c 0 0 Q 5 D A ((km_w cA h0 q) (r.2.2.2)) 21 [(0, .ref (q k0)), (1, .int (r.1)), (2, .int (r.2.1)), (3, .int (r.2.2.1))] []) : kj_J p l e rm_X8_begins s m args below meth c 0 0 Q 5 D A ((km_w cA h0 q) z) 3 [(0, .ref (q k0)), (1, .int x1), (2, .int x2), (3, .int x3), (4, .int x4)] [] :=
  kj_it_J (Wh := fun (u : (Int32 × Int32 × Int32 × Int32 × km_S)) => kj_J p l e rm_X8_begins s m args below meth c 0 0 Q 5 D A ((km_w cA h0 q) (u.2.2.2.2)) 3 [(0, .ref (q k0)), (1, .int (u.1)), (2, .int (u.2.1)), (3, .int (u.2.2.1)), (4, .int (u.2.2.2.1))] []) (We := fun r => kj_J p l e rm_X8_begins s m args below meth c 0 0 Q 5 D A ((km_w cA h0 q) (r.2.2.2)) 21 [(0, .ref (q k0)), (1, .int (r.1)), (2, .int (r.2.1)), (3, .int (r.2.2.1))] []) (fun u o h kb ke => jm_begins_3 F hk0 h (fun a0' a1' a2' a3' a4' e => kb (a0', a1', a2', a3', a4') e) (fun a0' a1' a2' a3' e => ke (a0', a1', a2', a3') e)) n (x1, x2, x3, x4, z) r h ke
set_option maxRecDepth 20000 in
theorem jm_begins {p : Program} {l : Launch} {e : Env} {s : State} {m : MethodId} {args : Array Value} {below : List Frame} {meth : Method} {c : Code} {A : Nat → Prop} {D : va_G} {cA : Nat → ClassId} {h0 : Nat} {q : Nat → Nat} (F : kj_Fx p s m args meth c cX8_begins 5 wsX8_begins RX8 none D (km_T cA) A) {k0 : Nat} (hk0 : k0 < 18) {x1 : Int32} {x2 : Int32} {x3 : Int32} {z : km_S} {o : km_S} (h : fm_begins k0 x1 x2 x3 z = some o) : kj_J p l e rm_X8_begins s m args below meth c 0 0 (MQ below (kj_Qv D (km_T cA) A (km_w cA h0 q) o) args s 0 0 A) 5 D A ((km_w cA h0 q) z) 0 [(0, .ref (q k0)), (1, .int x1), (2, .int x2), (3, .int x3)] [] := by
  unfold fm_begins at h
  refine kj_iconst F dX8_begins_0 (v := 0) (by decide) ?_
  refine kj_istore F dX8_begins_1 (lv' := [(4, .int (0 : Int32)), (0, .ref (q k0)), (1, .int x1), (2, .int x2), (3, .int x3)]) (by decide) rfl ?_
  refine kj_J.sub [1, 2, 3, 4, 0] rfl ?_
  refine kj_bn h (fun r1 h1 h => ?_)
  refine jlm_begins_3 F hk0 h1 ?_
  refine kj_aload_n F dX8_begins_21 0 rfl rfl ?_
  refine kj_iconst F dX8_begins_22 (v := 0) (by decide) ?_
  refine kj_iconst F dX8_begins_23 (v := 1) (by decide) ?_
  refine km_iast F dX8_begins_24 k0 hk0 h (fun z2 h => ?_)
  refine kj_aload_n F dX8_begins_25 0 rfl rfl ?_
  refine kj_iconst F dX8_begins_26 (v := 1) (by decide) ?_
  refine kj_iload_n F dX8_begins_27 1 rfl rfl ?_
  refine km_iast F dX8_begins_28 k0 hk0 h (fun z3 h => ?_)
  refine kj_aload_n F dX8_begins_29 0 rfl rfl ?_
  refine kj_iconst F dX8_begins_30 (v := 2) (by decide) ?_
  refine kj_iload_n F dX8_begins_31 2 rfl rfl ?_
  refine km_iast F dX8_begins_32 k0 hk0 h (fun z4 h => ?_)
  refine kj_aload_n F dX8_begins_33 0 rfl rfl ?_
  refine kj_iconst F dX8_begins_34 (v := 3) (by decide) ?_
  refine kj_iload_n F dX8_begins_35 3 rfl rfl ?_
  refine km_iast F dX8_begins_36 k0 hk0 h (fun z5 h => ?_)
  exact kj_vret F dX8_begins_37 h
theorem cm_begins {l : Launch} {D : va_G} {cA : Nat → ClassId} {h0 : Nat} {q : Nat → Nat} {k0 : Nat} (hk0 : k0 < 18) {x1 : Int32} {x2 : Int32} {x3 : Int32} {z : km_S} {o : km_S} (h : fm_begins k0 x1 x2 x3 z = some o) : kj_Mv l yX8_begins wsX8_begins rm_X8_begins D (km_T cA) (km_w cA h0 q) z [.ref (q k0), .int x1, .int x2, .int x3] o :=
  fun sz => kj_start (by decide) rfl (Nat.le_of_ble_eq_true rfl) rfl fun p e s m args below meth c hsz F => jm_begins F hk0 h
/-! X8_isSame -/
abbrev rm_X8_isSame : Room := { frames := 0, cells := 0, slots := 0, locals := 0 }
def fm_isSame_38 (k0 : Nat) (k1 : Nat) (x1 : Int32) (x3 : Int32) (x4 : Int32) (x6 : Int32) (t0 : Int32) (z : km_S) : Option ((Int32 × Int32 × Int32 × Int32 × Int32 × km_S) ⊕ (Int32 × km_S)) :=
  some (.inl (x1, x3, x4, t0, (x6 + 1), z))
def fm_isSame_37 (k0 : Nat) (k1 : Nat) (x1 : Int32) (x3 : Int32) (x4 : Int32) (x6 : Int32) (z : km_S) : Option ((Int32 × Int32 × Int32 × Int32 × Int32 × km_S) ⊕ (Int32 × km_S)) :=
  fm_isSame_38 k0 k1 x1 x3 x4 x6 (0 : Int32) z
def fm_isSame_6 (k0 : Nat) (k1 : Nat) (x1 : Int32) (x3 : Int32) (x4 : Int32) (x5 : Int32) (x6 : Int32) (z : km_S) : Option ((Int32 × Int32 × Int32 × Int32 × Int32 × km_S) ⊕ (Int32 × km_S)) :=
  if x4 ≤ x6 then
  some (.inr (x5, z))
  else
  if x5 = 0 then
  fm_isSame_37 k0 k1 x1 x3 x4 x6 z
  else
  (km_rd z k0 (x1 + x6)).bind fun v1 =>
  (km_rd z k1 (x3 + x6)).bind fun v2 =>
  if v1 = v2 then
  fm_isSame_38 k0 k1 x1 x3 x4 x6 (1 : Int32) z
  else
  fm_isSame_37 k0 k1 x1 x3 x4 x6 z
def lm_isSame_6 (k0 : Nat) (k1 : Nat) (n : Nat) (x1 : Int32) (x3 : Int32) (x4 : Int32) (x5 : Int32) (x6 : Int32) (z : km_S) : Option (Int32 × km_S) :=
  kj_it (fun (s : (Int32 × Int32 × Int32 × Int32 × Int32 × km_S)) => fm_isSame_6 k0 k1 (s.1) (s.2.1) (s.2.2.1) (s.2.2.2.1) (s.2.2.2.2.1) (s.2.2.2.2.2)) n (x1, x3, x4, x5, x6, z)
def fm_isSame (k0 : Nat) (k1 : Nat) (x1 : Int32) (x3 : Int32) (x4 : Int32) (z : km_S) : Option (Int32 × km_S) :=
  (lm_isSame_6 k0 k1 5000 x1 x3 x4 (1 : Int32) (0 : Int32) z).bind fun r1 =>
  if (r1.1) = 0 ∨ (r1.1) = 1 then some ((r1.1), (r1.2)) else none
set_option maxRecDepth 20000 in
theorem jm_isSame_38 {p : Program} {l : Launch} {e : Env} {s : State} {m : MethodId} {args : Array Value} {below : List Frame} {meth : Method} {c : Code} {A : Nat → Prop} {D : va_G} {cA : Nat → ClassId} {h0 : Nat} {q : Nat → Nat} {Q : State → Prop} (F : kj_Fx p s m args meth c cX8_isSame 7 wsX8_isSame RX8 (some .boolean) D (km_T cA) A) {k0 : Nat} (hk0 : k0 < 18) {k1 : Nat} (hk1 : k1 < 18) {x1 : Int32} {x3 : Int32} {x4 : Int32} {x6 : Int32} {t0 : Int32} {z : km_S} {o : ((Int32 × Int32 × Int32 × Int32 × Int32 × km_S) ⊕ (Int32 × km_S))} (h : fm_isSame_38 k0 k1 x1 x3 x4 x6 t0 z = some o) (kb : ∀ (a0' : Int32) (a1' : Int32) (a2' : Int32) (a3' : Int32) (a4' : Int32) (a5' : km_S), o = .inl (a0', a1', a2', a3', a4', a5') → kj_J p l e rm_X8_isSame s m args below meth c 0 0 Q 7 D A ((km_w cA h0 q) a5') 6 [(0, .ref (q k0)), (1, .int a0'), (2, .ref (q k1)), (3, .int a1'), (4, .int a2'), (5, .int a3'), (6, .int a4')] []) (ke0 : ∀ (a0' : Int32) (a1' : km_S), o = .inr (a0', a1') → kj_J p l e rm_X8_isSame s m args below meth c 0 0 Q 7 D A ((km_w cA h0 q) a1') 46 [(5, .int a0')] []) : kj_J p l e rm_X8_isSame s m args below meth c 0 0 Q 7 D A ((km_w cA h0 q) z) 38 [(0, .ref (q k0)), (1, .int x1), (2, .ref (q k1)), (3, .int x3), (4, .int x4), (6, .int x6)] [.int t0] := by
  unfold fm_isSame_38 at h
  refine kj_istore F dX8_isSame_38 (lv' := [(5, .int t0), (0, .ref (q k0)), (1, .int x1), (2, .ref (q k1)), (3, .int x3), (4, .int x4), (6, .int x6)]) (by decide) rfl ?_
  refine kj_iinc F dX8_isSame_40 6 rfl (v := 1) (by decide) (by decide) (lv' := [(6, .int (x6 + 1)), (5, .int t0), (0, .ref (q k0)), (1, .int x1), (2, .ref (q k1)), (3, .int x3), (4, .int x4)]) rfl ?_
  refine kj_goto F dX8_isSame_43 (tgt := 6) (by decide) ?_
  refine kj_J.sub [2, 3, 4, 5, 6, 1, 0] rfl ?_
  exact kb x1 x3 x4 t0 (x6 + 1) z (Option.some.inj h).symm
set_option maxRecDepth 20000 in
theorem jm_isSame_37 {p : Program} {l : Launch} {e : Env} {s : State} {m : MethodId} {args : Array Value} {below : List Frame} {meth : Method} {c : Code} {A : Nat → Prop} {D : va_G} {cA : Nat → ClassId} {h0 : Nat} {q : Nat → Nat} {Q : State → Prop} (F : kj_Fx p s m args meth c cX8_isSame 7 wsX8_isSame RX8 (some .boolean) D (km_T cA) A) {k0 : Nat} (hk0 : k0 < 18) {k1 : Nat} (hk1 : k1 < 18) {x1 : Int32} {x3 : Int32} {x4 : Int32} {x6 : Int32} {z : km_S} {o : ((Int32 × Int32 × Int32 × Int32 × Int32 × km_S) ⊕ (Int32 × km_S))} (h : fm_isSame_37 k0 k1 x1 x3 x4 x6 z = some o) (kb : ∀ (a0' : Int32) (a1' : Int32) (a2' : Int32) (a3' : Int32) (a4' : Int32) (a5' : km_S), o = .inl (a0', a1', a2', a3', a4', a5') → kj_J p l e rm_X8_isSame s m args below meth c 0 0 Q 7 D A ((km_w cA h0 q) a5') 6 [(0, .ref (q k0)), (1, .int a0'), (2, .ref (q k1)), (3, .int a1'), (4, .int a2'), (5, .int a3'), (6, .int a4')] []) (ke0 : ∀ (a0' : Int32) (a1' : km_S), o = .inr (a0', a1') → kj_J p l e rm_X8_isSame s m args below meth c 0 0 Q 7 D A ((km_w cA h0 q) a1') 46 [(5, .int a0')] []) : kj_J p l e rm_X8_isSame s m args below meth c 0 0 Q 7 D A ((km_w cA h0 q) z) 37 [(0, .ref (q k0)), (1, .int x1), (2, .ref (q k1)), (3, .int x3), (4, .int x4), (6, .int x6)] [] := by
  unfold fm_isSame_37 at h
  refine kj_iconst F dX8_isSame_37 (v := 0) (by decide) ?_
  exact jm_isSame_38 F hk0 hk1 h kb ke0
set_option maxRecDepth 20000 in
theorem jm_isSame_6 {p : Program} {l : Launch} {e : Env} {s : State} {m : MethodId} {args : Array Value} {below : List Frame} {meth : Method} {c : Code} {A : Nat → Prop} {D : va_G} {cA : Nat → ClassId} {h0 : Nat} {q : Nat → Nat} {Q : State → Prop} (F : kj_Fx p s m args meth c cX8_isSame 7 wsX8_isSame RX8 (some .boolean) D (km_T cA) A) {k0 : Nat} (hk0 : k0 < 18) {k1 : Nat} (hk1 : k1 < 18) {x1 : Int32} {x3 : Int32} {x4 : Int32} {x5 : Int32} {x6 : Int32} {z : km_S} {o : ((Int32 × Int32 × Int32 × Int32 × Int32 × km_S) ⊕ (Int32 × km_S))} (h : fm_isSame_6 k0 k1 x1 x3 x4 x5 x6 z = some o) (kb : ∀ (a0' : Int32) (a1' : Int32) (a2' : Int32) (a3' : Int32) (a4' : Int32) (a5' : km_S), o = .inl (a0', a1', a2', a3', a4', a5') → kj_J p l e rm_X8_isSame s m args below meth c 0 0 Q 7 D A ((km_w cA h0 q) a5') 6 [(0, .ref (q k0)), (1, .int a0'), (2, .ref (q k1)), (3, .int a1'), (4, .int a2'), (5, .int a3'), (6, .int a4')] []) (ke0 : ∀ (a0' : Int32) (a1' : km_S), o = .inr (a0', a1') → kj_J p l e rm_X8_isSame s m args below meth c 0 0 Q 7 D A ((km_w cA h0 q) a1') 46 [(5, .int a0')] []) : kj_J p l e rm_X8_isSame s m args below meth c 0 0 Q 7 D A ((km_w cA h0 q) z) 6 [(0, .ref (q k0)), (1, .int x1), (2, .ref (q k1)), (3, .int x3), (4, .int x4), (5, .int x5), (6, .int x6)] [] := by
  unfold fm_isSame_6 at h
  refine kj_iload F dX8_isSame_6 6 rfl ?_
  refine kj_iload F dX8_isSame_8 4 rfl ?_
  refine kj_icmp_ge F dX8_isSame_10 (tgt := 46) (by decide) h (fun hc h => ?_) (fun hc h => ?_)
  · refine kj_J.sub [5] rfl ?_
    exact ke0 x5 z (Option.some.inj h).symm
  · refine kj_iload F dX8_isSame_13 5 rfl ?_
    refine kj_if_eq F dX8_isSame_15 (tgt := 37) (by decide) h (fun hc h => ?_) (fun hc h => ?_)
    · refine kj_J.sub [0, 1, 2, 3, 4, 6] rfl ?_
      exact jm_isSame_37 F hk0 hk1 h kb ke0
    · refine kj_aload_n F dX8_isSame_18 0 rfl rfl ?_
      refine kj_iload_n F dX8_isSame_19 1 rfl rfl ?_
      refine kj_iload F dX8_isSame_20 6 rfl ?_
      refine kj_iadd F dX8_isSame_22 ?_
      refine km_iald F dX8_isSame_23 k0 hk0 h (fun v1 h => ?_)
      refine kj_aload_n F dX8_isSame_24 2 rfl rfl ?_
      refine kj_iload_n F dX8_isSame_25 3 rfl rfl ?_
      refine kj_iload F dX8_isSame_26 6 rfl ?_
      refine kj_iadd F dX8_isSame_28 ?_
      refine km_iald F dX8_isSame_29 k1 hk1 h (fun v2 h => ?_)
      refine kj_icmp_ne F dX8_isSame_30 (tgt := 37) (by decide) h (fun hc h => ?_) (fun hc h => ?_)
      · refine kj_iconst F dX8_isSame_33 (v := 1) (by decide) ?_
        refine kj_goto F dX8_isSame_34 (tgt := 38) (by decide) ?_
        refine kj_J.sub [0, 1, 2, 3, 4, 6] rfl ?_
        exact jm_isSame_38 F hk0 hk1 h kb ke0
      · refine kj_J.sub [0, 1, 2, 3, 4, 6] rfl ?_
        exact jm_isSame_37 F hk0 hk1 h kb ke0
theorem jlm_isSame_6 {p : Program} {l : Launch} {e : Env} {s : State} {m : MethodId} {args : Array Value} {below : List Frame} {meth : Method} {c : Code} {A : Nat → Prop} {D : va_G} {cA : Nat → ClassId} {h0 : Nat} {q : Nat → Nat} {Q : State → Prop} (F : kj_Fx p s m args meth c cX8_isSame 7 wsX8_isSame RX8 (some .boolean) D (km_T cA) A) {k0 : Nat} (hk0 : k0 < 18) {k1 : Nat} (hk1 : k1 < 18) {n : Nat} {x1 : Int32} {x3 : Int32} {x4 : Int32} {x5 : Int32} {x6 : Int32} {z : km_S} {r : (Int32 × km_S)} (h : lm_isSame_6 k0 k1 n x1 x3 x4 x5 x6 z = some r) (ke : kj_J p l e rm_X8_isSame s m args below meth c 0 0 Q 7 D A ((km_w cA h0 q) (r.2)) 46 [(5, .int (r.1))] []) : kj_J p l e rm_X8_isSame s m args below meth c 0 0 Q 7 D A ((km_w cA h0 q) z) 6 [(0, .ref (q k0)), (1, .int x1), (2, .ref (q k1)), (3, .int x3), (4, .int x4), (5, .int x5), (6, .int x6)] [] :=
  kj_it_J (Wh := fun (u : (Int32 × Int32 × Int32 × Int32 × Int32 × km_S)) => kj_J p l e rm_X8_isSame s m args below meth c 0 0 Q 7 D A ((km_w cA h0 q) (u.2.2.2.2.2)) 6 [(0, .ref (q k0)), (1, .int (u.1)), (2, .ref (q k1)), (3, .int (u.2.1)), (4, .int (u.2.2.1)), (5, .int (u.2.2.2.1)), (6, .int (u.2.2.2.2.1))] []) (We := fun r => kj_J p l e rm_X8_isSame s m args below meth c 0 0 Q 7 D A ((km_w cA h0 q) (r.2)) 46 [(5, .int (r.1))] []) (fun u o h kb ke => jm_isSame_6 F hk0 hk1 h (fun a0' a1' a2' a3' a4' a5' e => kb (a0', a1', a2', a3', a4', a5') e) (fun a0' a1' e => ke (a0', a1') e)) n (x1, x3, x4, x5, x6, z) r h ke
set_option maxRecDepth 20000 in
theorem jm_isSame {p : Program} {l : Launch} {e : Env} {s : State} {m : MethodId} {args : Array Value} {below : List Frame} {meth : Method} {c : Code} {A : Nat → Prop} {D : va_G} {cA : Nat → ClassId} {h0 : Nat} {q : Nat → Nat} (F : kj_Fx p s m args meth c cX8_isSame 7 wsX8_isSame RX8 (some .boolean) D (km_T cA) A) {k0 : Nat} (hk0 : k0 < 18) {k1 : Nat} (hk1 : k1 < 18) {x1 : Int32} {x3 : Int32} {x4 : Int32} {z : km_S} {o : (Int32 × km_S)} (h : fm_isSame k0 k1 x1 x3 x4 z = some o) : kj_J p l e rm_X8_isSame s m args below meth c 0 0 (MQ below (kj_Qi D (km_T cA) A (km_w cA h0 q) o) args s 0 0 A) 7 D A ((km_w cA h0 q) z) 0 [(0, .ref (q k0)), (1, .int x1), (2, .ref (q k1)), (3, .int x3), (4, .int x4)] [] := by
  unfold fm_isSame at h
  refine kj_iconst F dX8_isSame_0 (v := 1) (by decide) ?_
  refine kj_istore F dX8_isSame_1 (lv' := [(5, .int (1 : Int32)), (0, .ref (q k0)), (1, .int x1), (2, .ref (q k1)), (3, .int x3), (4, .int x4)]) (by decide) rfl ?_
  refine kj_iconst F dX8_isSame_3 (v := 0) (by decide) ?_
  refine kj_istore F dX8_isSame_4 (lv' := [(6, .int (0 : Int32)), (5, .int (1 : Int32)), (0, .ref (q k0)), (1, .int x1), (2, .ref (q k1)), (3, .int x3), (4, .int x4)]) (by decide) rfl ?_
  refine kj_J.sub [2, 3, 4, 5, 6, 1, 0] rfl ?_
  refine kj_bn h (fun r1 h1 h => ?_)
  refine jlm_isSame_6 F hk0 hk1 h1 ?_
  refine kj_iload F dX8_isSame_46 0 rfl ?_
  exact kj_zretB F dX8_isSame_48 h
theorem cm_isSame {l : Launch} {D : va_G} {cA : Nat → ClassId} {h0 : Nat} {q : Nat → Nat} {k0 : Nat} (hk0 : k0 < 18) {k1 : Nat} (hk1 : k1 < 18) {x1 : Int32} {x3 : Int32} {x4 : Int32} {z : km_S} {o : (Int32 × km_S)} (h : fm_isSame k0 k1 x1 x3 x4 z = some o) : kj_Mi l yX8_isSame wsX8_isSame rm_X8_isSame D (km_T cA) (km_w cA h0 q) z [.ref (q k0), .int x1, .ref (q k1), .int x3, .int x4] o :=
  fun sz => kj_start (by decide) rfl (Nat.le_of_ble_eq_true rfl) rfl fun p e s m args below meth c hsz F => jm_isSame F hk0 hk1 h
/-! X8_notes -/
abbrev rm_X8_notes : Room := { frames := 1, cells := 0, slots := 0, locals := 25 }
theorem in_X8_notes : ∀ w ∈ u_ws RX8 TX8 29, w ∈ wsX8_notes := by decide +kernel
def fm_notes_36 (z : km_S) : Option km_S :=
  (fm_bring 0 1 (0 : Int32) ((80 : Int32) * (z.1 0)) (80 : Int32) z).bind fun o1 =>
  (km_pI o1 0 ((o1.1 0) + (1 : Int32))).bind fun z2 =>
  some z2
def fm_notes (z : km_S) : Option km_S :=
  if (z.1 0) = (12 : Int32) then
  (fm_bring 1 1 (80 : Int32) (0 : Int32) (880 : Int32) z).bind fun o1 =>
  (km_pI o1 0 ((o1.1 0) - (1 : Int32))).bind fun z2 =>
  fm_notes_36 z2
  else
  fm_notes_36 z
set_option maxRecDepth 20000 in
theorem jm_notes_36 {p : Program} {l : Launch} {e : Env} {s : State} {m : MethodId} {args : Array Value} {below : List Frame} {meth : Method} {c : Code} {A : Nat → Prop} {D : va_G} {cA : Nat → ClassId} {h0 : Nat} {q : Nat → Nat} (F : kj_Fx p s m args meth c cX8_notes 1 wsX8_notes RX8 none D (km_T cA) A) {z : km_S} {o : km_S} (h : fm_notes_36 z = some o) : kj_J p l e rm_X8_notes s m args below meth c 0 0 (MQ below (kj_Qv D (km_T cA) A (km_w cA h0 q) o) args s 0 0 A) 1 D A ((km_w cA h0 q) z) 36 [(0, .ref h0)] [] := by
  unfold fm_notes_36 at h
  refine kj_aload_n F dX8_notes_36 0 rfl rfl ?_
  refine km_get F dX8_notes_37 in_X8_notes 0 (by decide) (by decide +kernel) rfl rfl ?_
  refine kj_iconst F dX8_notes_40 (v := 0) (by decide) ?_
  refine kj_aload_n F dX8_notes_41 0 rfl rfl ?_
  refine km_get F dX8_notes_42 in_X8_notes 1 (by decide) (by decide +kernel) rfl rfl ?_
  refine kj_bipush F dX8_notes_45 (v := 80) (by decide) ?_
  refine kj_aload_n F dX8_notes_47 0 rfl rfl ?_
  refine km_get F dX8_notes_48 in_X8_notes 2 (by decide) (by decide +kernel) rfl rfl ?_
  refine kj_imul F dX8_notes_51 ?_
  refine kj_bipush F dX8_notes_52 (v := 80) (by decide) ?_
  refine kj_cSv (As := [.ref (q 0), .int (0 : Int32), .ref (q 1), .int ((80 : Int32) * (z.1 0)), .int (80 : Int32)]) (rest := []) F dX8_notes_54 h (fun o h1 => cm_bring (by decide) (by decide) h1) (va_cwS 5 F.2.2.2.2.1 gX8_notes_X8_bring rfl rfl rfl (by decide +kernel) ⟨Nat.le_of_ble_eq_true rfl, Nat.le_of_ble_eq_true rfl⟩) rfl rfl (Nat.le_of_ble_eq_true rfl) ⟨Nat.zero_le _, Nat.zero_le _⟩ (fun o1 h => ?_)
  refine kj_aload_n F dX8_notes_57 0 rfl rfl ?_
  refine kj_dup F dX8_notes_58 rfl ?_
  refine km_get F dX8_notes_59 in_X8_notes 2 (by decide) (by decide +kernel) rfl rfl ?_
  refine kj_iconst F dX8_notes_62 (v := 1) (by decide) ?_
  refine kj_iadd F dX8_notes_63 ?_
  refine km_pt F dX8_notes_64 in_X8_notes 2 0 (by decide) (by decide +kernel) rfl rfl (by decide +kernel) (km_put0 cA h0 q _ _) h (fun z2 h => ?_)
  exact kj_vret F dX8_notes_67 h
set_option maxRecDepth 20000 in
theorem jm_notes {p : Program} {l : Launch} {e : Env} {s : State} {m : MethodId} {args : Array Value} {below : List Frame} {meth : Method} {c : Code} {A : Nat → Prop} {D : va_G} {cA : Nat → ClassId} {h0 : Nat} {q : Nat → Nat} (F : kj_Fx p s m args meth c cX8_notes 1 wsX8_notes RX8 none D (km_T cA) A) {z : km_S} {o : km_S} (h : fm_notes z = some o) : kj_J p l e rm_X8_notes s m args below meth c 0 0 (MQ below (kj_Qv D (km_T cA) A (km_w cA h0 q) o) args s 0 0 A) 1 D A ((km_w cA h0 q) z) 0 [(0, .ref h0)] [] := by
  unfold fm_notes at h
  refine kj_aload_n F dX8_notes_0 0 rfl rfl ?_
  refine km_get F dX8_notes_1 in_X8_notes 2 (by decide) (by decide +kernel) rfl rfl ?_
  refine kj_bipush F dX8_notes_4 (v := 12) (by decide) ?_
  refine kj_icmp_ne F dX8_notes_6 (tgt := 36) (by decide) h (fun hc h => ?_) (fun hc h => ?_)
  · refine kj_aload_n F dX8_notes_9 0 rfl rfl ?_
    refine km_get F dX8_notes_10 in_X8_notes 1 (by decide) (by decide +kernel) rfl rfl ?_
    refine kj_bipush F dX8_notes_13 (v := 80) (by decide) ?_
    refine kj_aload_n F dX8_notes_15 0 rfl rfl ?_
    refine km_get F dX8_notes_16 in_X8_notes 1 (by decide) (by decide +kernel) rfl rfl ?_
    refine kj_iconst F dX8_notes_19 (v := 0) (by decide) ?_
    refine kj_sipush F dX8_notes_20 (v := 880) (by decide) ?_
    refine kj_cSv (As := [.ref (q 1), .int (80 : Int32), .ref (q 1), .int (0 : Int32), .int (880 : Int32)]) (rest := []) F dX8_notes_23 h (fun o h1 => cm_bring (by decide) (by decide) h1) (va_cwS 5 F.2.2.2.2.1 gX8_notes_X8_bring rfl rfl rfl (by decide +kernel) ⟨Nat.le_of_ble_eq_true rfl, Nat.le_of_ble_eq_true rfl⟩) rfl rfl (Nat.le_of_ble_eq_true rfl) ⟨Nat.zero_le _, Nat.zero_le _⟩ (fun o1 h => ?_)
    refine kj_aload_n F dX8_notes_26 0 rfl rfl ?_
    refine kj_dup F dX8_notes_27 rfl ?_
    refine km_get F dX8_notes_28 in_X8_notes 2 (by decide) (by decide +kernel) rfl rfl ?_
    refine kj_iconst F dX8_notes_31 (v := 1) (by decide) ?_
    refine kj_isub F dX8_notes_32 ?_
    refine km_pt F dX8_notes_33 in_X8_notes 2 0 (by decide) (by decide +kernel) rfl rfl (by decide +kernel) (km_put0 cA h0 q _ _) h (fun z2 h => ?_)
    exact jm_notes_36 F h
  · exact jm_notes_36 F h
theorem cm_notes {l : Launch} {D : va_G} {cA : Nat → ClassId} {h0 : Nat} {q : Nat → Nat} {z : km_S} {o : km_S} (h : fm_notes z = some o) : kj_Mv l yX8_notes wsX8_notes rm_X8_notes D (km_T cA) (km_w cA h0 q) z [.ref h0] o :=
  fun sz => kj_start (by decide) rfl (Nat.le_of_ble_eq_true rfl) rfl fun p e s m args below meth c hsz F => jm_notes F h
/-! X8_comes -/
abbrev rm_X8_comes : Room := { frames := 2, cells := 0, slots := 0, locals := 45 }
theorem in_X8_comes : ∀ w ∈ u_ws RX8 TX8 29, w ∈ wsX8_comes := by decide +kernel
def fm_comes (x1 : Int32) (z : km_S) : Option (Int32 × km_S) :=
  (fm_notes z).bind fun o1 =>
  (fm_bring 4 0 (0 : Int32) ((20 : Int32) * x1) (20 : Int32) o1).bind fun o2 =>
  (fm_volume 4 (0 : Int32) o2).bind fun o3 =>
  some ((o3.1), (o3.2))
set_option maxRecDepth 20000 in
theorem jm_comes {p : Program} {l : Launch} {e : Env} {s : State} {m : MethodId} {args : Array Value} {below : List Frame} {meth : Method} {c : Code} {A : Nat → Prop} {D : va_G} {cA : Nat → ClassId} {h0 : Nat} {q : Nat → Nat} (F : kj_Fx p s m args meth c cX8_comes 2 wsX8_comes RX8 (some .int) D (km_T cA) A) {x1 : Int32} {z : km_S} {o : (Int32 × km_S)} (h : fm_comes x1 z = some o) : kj_J p l e rm_X8_comes s m args below meth c 0 0 (MQ below (kj_Qi D (km_T cA) A (km_w cA h0 q) o) args s 0 0 A) 2 D A ((km_w cA h0 q) z) 0 [(0, .ref h0), (1, .int x1)] [] := by
  unfold fm_comes at h
  refine kj_aload_n F dX8_comes_0 0 rfl rfl ?_
  refine kj_cVv (As := []) (rest := []) F dX8_comes_1 h (fun o h1 => cm_notes h1) (cwV 0 F.2.2.2.2.1 gX8_comes_X8_notes rfl rfl rfl (by decide +kernel) ⟨Nat.le_of_ble_eq_true rfl, Nat.le_of_ble_eq_true rfl⟩) 0 rfl rfl rfl rfl rfl (Nat.le_of_ble_eq_true rfl) ⟨Nat.zero_le _, Nat.zero_le _⟩ (fun o1 h => ?_)
  refine kj_aload_n F dX8_comes_4 0 rfl rfl ?_
  refine km_get F dX8_comes_5 in_X8_comes 8 (by decide) (by decide +kernel) rfl rfl ?_
  refine kj_iconst F dX8_comes_8 (v := 0) (by decide) ?_
  refine kj_aload_n F dX8_comes_9 0 rfl rfl ?_
  refine km_get F dX8_comes_10 in_X8_comes 0 (by decide) (by decide +kernel) rfl rfl ?_
  refine kj_bipush F dX8_comes_13 (v := 20) (by decide) ?_
  refine kj_iload_n F dX8_comes_15 1 rfl rfl ?_
  refine kj_imul F dX8_comes_16 ?_
  refine kj_bipush F dX8_comes_17 (v := 20) (by decide) ?_
  refine kj_cSv (As := [.ref (q 4), .int (0 : Int32), .ref (q 0), .int ((20 : Int32) * x1), .int (20 : Int32)]) (rest := []) F dX8_comes_19 h (fun o h1 => cm_bring (by decide) (by decide) h1) (va_cwS 5 F.2.2.2.2.1 gX8_comes_X8_bring rfl rfl rfl (by decide +kernel) ⟨Nat.le_of_ble_eq_true rfl, Nat.le_of_ble_eq_true rfl⟩) rfl rfl (Nat.le_of_ble_eq_true rfl) ⟨Nat.zero_le _, Nat.zero_le _⟩ (fun o2 h => ?_)
  refine kj_aload_n F dX8_comes_22 0 rfl rfl ?_
  refine km_get F dX8_comes_23 in_X8_comes 8 (by decide) (by decide +kernel) rfl rfl ?_
  refine kj_iconst F dX8_comes_26 (v := 0) (by decide) ?_
  refine kj_cSi (As := [.ref (q 4), .int (0 : Int32)]) (rest := []) F dX8_comes_27 h (fun o h1 => cm_volume (by decide) h1) (va_cwS 2 F.2.2.2.2.1 gX8_comes_X8_volume rfl rfl rfl (by decide +kernel) ⟨Nat.le_of_ble_eq_true rfl, Nat.le_of_ble_eq_true rfl⟩) rfl rfl (Nat.le_of_ble_eq_true rfl) ⟨Nat.zero_le _, Nat.zero_le _⟩ (fun o3 h => ?_)
  exact kj_iret F dX8_comes_30 h
theorem cm_comes {l : Launch} {D : va_G} {cA : Nat → ClassId} {h0 : Nat} {q : Nat → Nat} {x1 : Int32} {z : km_S} {o : (Int32 × km_S)} (h : fm_comes x1 z = some o) : kj_Mi l yX8_comes wsX8_comes rm_X8_comes D (km_T cA) (km_w cA h0 q) z [.ref h0, .int x1] o :=
  fun sz => kj_start (by decide) rfl (Nat.le_of_ble_eq_true rfl) rfl fun p e s m args below meth c hsz F => jm_comes F h
/-! X8_undo -/
abbrev rm_X8_undo : Room := { frames := 1, cells := 0, slots := 0, locals := 25 }
theorem in_X8_undo : ∀ w ∈ u_ws RX8 TX8 29, w ∈ wsX8_undo := by decide +kernel
def fm_undo (z : km_S) : Option (Int32 × km_S) :=
  if (z.1 0) = 0 then
  some (((-1000002) : Int32), z)
  else
  (km_pI z 0 ((z.1 0) - (1 : Int32))).bind fun z1 =>
  (fm_bring 1 0 ((80 : Int32) * (z1.1 0)) (0 : Int32) (80 : Int32) z1).bind fun o2 =>
  some ((o2.1 0), o2)
set_option maxRecDepth 20000 in
theorem jm_undo {p : Program} {l : Launch} {e : Env} {s : State} {m : MethodId} {args : Array Value} {below : List Frame} {meth : Method} {c : Code} {A : Nat → Prop} {D : va_G} {cA : Nat → ClassId} {h0 : Nat} {q : Nat → Nat} (F : kj_Fx p s m args meth c cX8_undo 1 wsX8_undo RX8 (some .int) D (km_T cA) A) {z : km_S} {o : (Int32 × km_S)} (h : fm_undo z = some o) : kj_J p l e rm_X8_undo s m args below meth c 0 0 (MQ below (kj_Qi D (km_T cA) A (km_w cA h0 q) o) args s 0 0 A) 1 D A ((km_w cA h0 q) z) 0 [(0, .ref h0)] [] := by
  unfold fm_undo at h
  refine kj_aload_n F dX8_undo_0 0 rfl rfl ?_
  refine km_get F dX8_undo_1 in_X8_undo 2 (by decide) (by decide +kernel) rfl rfl ?_
  refine kj_if_ne F dX8_undo_4 (tgt := 10) (by decide) h (fun hc h => ?_) (fun hc h => ?_)
  · refine kj_ldc F dX8_undo_7 (v := (-1000002)) (by decide +kernel) ?_
    exact kj_iret F dX8_undo_9 h
  · refine kj_aload_n F dX8_undo_10 0 rfl rfl ?_
    refine kj_dup F dX8_undo_11 rfl ?_
    refine km_get F dX8_undo_12 in_X8_undo 2 (by decide) (by decide +kernel) rfl rfl ?_
    refine kj_iconst F dX8_undo_15 (v := 1) (by decide) ?_
    refine kj_isub F dX8_undo_16 ?_
    refine km_pt F dX8_undo_17 in_X8_undo 2 0 (by decide) (by decide +kernel) rfl rfl (by decide +kernel) (km_put0 cA h0 q _ _) h (fun z1 h => ?_)
    refine kj_aload_n F dX8_undo_20 0 rfl rfl ?_
    refine km_get F dX8_undo_21 in_X8_undo 1 (by decide) (by decide +kernel) rfl rfl ?_
    refine kj_bipush F dX8_undo_24 (v := 80) (by decide) ?_
    refine kj_aload_n F dX8_undo_26 0 rfl rfl ?_
    refine km_get F dX8_undo_27 in_X8_undo 2 (by decide) (by decide +kernel) rfl rfl ?_
    refine kj_imul F dX8_undo_30 ?_
    refine kj_aload_n F dX8_undo_31 0 rfl rfl ?_
    refine km_get F dX8_undo_32 in_X8_undo 0 (by decide) (by decide +kernel) rfl rfl ?_
    refine kj_iconst F dX8_undo_35 (v := 0) (by decide) ?_
    refine kj_bipush F dX8_undo_36 (v := 80) (by decide) ?_
    refine kj_cSv (As := [.ref (q 1), .int ((80 : Int32) * (z1.1 0)), .ref (q 0), .int (0 : Int32), .int (80 : Int32)]) (rest := []) F dX8_undo_38 h (fun o h1 => cm_bring (by decide) (by decide) h1) (va_cwS 5 F.2.2.2.2.1 gX8_undo_X8_bring rfl rfl rfl (by decide +kernel) ⟨Nat.le_of_ble_eq_true rfl, Nat.le_of_ble_eq_true rfl⟩) rfl rfl (Nat.le_of_ble_eq_true rfl) ⟨Nat.zero_le _, Nat.zero_le _⟩ (fun o2 h => ?_)
    refine kj_aload_n F dX8_undo_41 0 rfl rfl ?_
    refine km_get F dX8_undo_42 in_X8_undo 2 (by decide) (by decide +kernel) rfl rfl ?_
    exact kj_iret F dX8_undo_45 h
theorem cm_undo {l : Launch} {D : va_G} {cA : Nat → ClassId} {h0 : Nat} {q : Nat → Nat} {z : km_S} {o : (Int32 × km_S)} (h : fm_undo z = some o) : kj_Mi l yX8_undo wsX8_undo rm_X8_undo D (km_T cA) (km_w cA h0 q) z [.ref h0] o :=
  fun sz => kj_start (by decide) rfl (Nat.le_of_ble_eq_true rfl) rfl fun p e s m args below meth c hsz F => jm_undo F h
/-! X8_feed -/
abbrev rm_X8_feed : Room := { frames := 1, cells := 0, slots := 0, locals := 22 }
theorem in_X8_feed : ∀ w ∈ u_ws RX8 TX8 29, w ∈ wsX8_feed := by decide +kernel
def fm_feed (x1 : Int32) (z : km_S) : Option (Int32 × km_S) :=
  (fm_in x1 (0 : Int32) (255 : Int32)).bind fun o1 =>
  if o1 = 0 then
  some (((-1000001) : Int32), z)
  else
  if (z.1 1) = (60 : Int32) then
  some (((-1000003) : Int32), z)
  else
  (km_wr z 3 (z.1 1) x1).bind fun z2 =>
  (km_pI z2 1 ((z2.1 1) + (1 : Int32))).bind fun z3 =>
  some ((z3.1 1), z3)
set_option maxRecDepth 20000 in
theorem jm_feed {p : Program} {l : Launch} {e : Env} {s : State} {m : MethodId} {args : Array Value} {below : List Frame} {meth : Method} {c : Code} {A : Nat → Prop} {D : va_G} {cA : Nat → ClassId} {h0 : Nat} {q : Nat → Nat} (F : kj_Fx p s m args meth c cX8_feed 2 wsX8_feed RX8 (some .int) D (km_T cA) A) {x1 : Int32} {z : km_S} {o : (Int32 × km_S)} (h : fm_feed x1 z = some o) : kj_J p l e rm_X8_feed s m args below meth c 0 0 (MQ below (kj_Qi D (km_T cA) A (km_w cA h0 q) o) args s 0 0 A) 2 D A ((km_w cA h0 q) z) 0 [(0, .ref h0), (1, .int x1)] [] := by
  unfold fm_feed at h
  refine kj_iload_n F dX8_feed_0 1 rfl rfl ?_
  refine kj_iconst F dX8_feed_1 (v := 0) (by decide) ?_
  refine kj_sipush F dX8_feed_2 (v := 255) (by decide) ?_
  refine kj_cSip (As := [.int x1, .int (0 : Int32), .int (255 : Int32)]) (rest := []) F dX8_feed_5 h (fun o h1 => cm_in (w := (km_w cA h0 q)) h1) (va_cwS 3 F.2.2.2.2.1 gX8_feed_X8_in rfl rfl rfl (by decide +kernel) ⟨Nat.le_of_ble_eq_true rfl, Nat.le_of_ble_eq_true rfl⟩) rfl rfl (Nat.le_of_ble_eq_true rfl) ⟨Nat.zero_le _, Nat.zero_le _⟩ (fun o1 h => ?_)
  refine kj_if_ne F dX8_feed_8 (tgt := 14) (by decide) h (fun hc h => ?_) (fun hc h => ?_)
  · refine kj_ldc F dX8_feed_11 (v := (-1000001)) (by decide +kernel) ?_
    exact kj_iret F dX8_feed_13 h
  · refine kj_aload_n F dX8_feed_14 0 rfl rfl ?_
    refine km_get F dX8_feed_15 in_X8_feed 6 (by decide) (by decide +kernel) rfl rfl ?_
    refine kj_bipush F dX8_feed_18 (v := 60) (by decide) ?_
    refine kj_icmp_ne F dX8_feed_20 (tgt := 26) (by decide) h (fun hc h => ?_) (fun hc h => ?_)
    · refine kj_ldc F dX8_feed_23 (v := (-1000003)) (by decide +kernel) ?_
      exact kj_iret F dX8_feed_25 h
    · refine kj_aload_n F dX8_feed_26 0 rfl rfl ?_
      refine km_get F dX8_feed_27 in_X8_feed 5 (by decide) (by decide +kernel) rfl rfl ?_
      refine kj_aload_n F dX8_feed_30 0 rfl rfl ?_
      refine km_get F dX8_feed_31 in_X8_feed 6 (by decide) (by decide +kernel) rfl rfl ?_
      refine kj_iload_n F dX8_feed_34 1 rfl rfl ?_
      refine km_iast F dX8_feed_35 3 (by decide) h (fun z2 h => ?_)
      refine kj_aload_n F dX8_feed_36 0 rfl rfl ?_
      refine kj_dup F dX8_feed_37 rfl ?_
      refine km_get F dX8_feed_38 in_X8_feed 6 (by decide) (by decide +kernel) rfl rfl ?_
      refine kj_iconst F dX8_feed_41 (v := 1) (by decide) ?_
      refine kj_iadd F dX8_feed_42 ?_
      refine km_pt F dX8_feed_43 in_X8_feed 6 1 (by decide) (by decide +kernel) rfl rfl (by decide +kernel) (km_put1 cA h0 q _ _) h (fun z3 h => ?_)
      refine kj_aload_n F dX8_feed_46 0 rfl rfl ?_
      refine km_get F dX8_feed_47 in_X8_feed 6 (by decide) (by decide +kernel) rfl rfl ?_
      exact kj_iret F dX8_feed_50 h
theorem cm_feed {l : Launch} {D : va_G} {cA : Nat → ClassId} {h0 : Nat} {q : Nat → Nat} {x1 : Int32} {z : km_S} {o : (Int32 × km_S)} (h : fm_feed x1 z = some o) : kj_Mi l yX8_feed wsX8_feed rm_X8_feed D (km_T cA) (km_w cA h0 q) z [.ref h0, .int x1] o :=
  fun sz => kj_start (by decide) rfl (Nat.le_of_ble_eq_true rfl) rfl fun p e s m args below meth c hsz F => jm_feed F h
/-! X8_here -/
abbrev rm_X8_here : Room := { frames := 0, cells := 0, slots := 0, locals := 0 }
theorem in_X8_here : ∀ w ∈ u_ws RX8 TX8 29, w ∈ wsX8_here := by decide +kernel
def fm_here (z : km_S) : Option (Int32 × km_S) :=
  if (z.1 1) ≤ (z.1 3) then
  some ((-1 : Int32), z)
  else
  (km_rd z 3 (z.1 3)).bind fun v1 =>
  some (v1, z)
set_option maxRecDepth 20000 in
theorem jm_here {p : Program} {l : Launch} {e : Env} {s : State} {m : MethodId} {args : Array Value} {below : List Frame} {meth : Method} {c : Code} {A : Nat → Prop} {D : va_G} {cA : Nat → ClassId} {h0 : Nat} {q : Nat → Nat} (F : kj_Fx p s m args meth c cX8_here 1 wsX8_here RX8 (some .int) D (km_T cA) A) {z : km_S} {o : (Int32 × km_S)} (h : fm_here z = some o) : kj_J p l e rm_X8_here s m args below meth c 0 0 (MQ below (kj_Qi D (km_T cA) A (km_w cA h0 q) o) args s 0 0 A) 1 D A ((km_w cA h0 q) z) 0 [(0, .ref h0)] [] := by
  unfold fm_here at h
  refine kj_aload_n F dX8_here_0 0 rfl rfl ?_
  refine km_get F dX8_here_1 in_X8_here 10 (by decide) (by decide +kernel) rfl rfl ?_
  refine kj_aload_n F dX8_here_4 0 rfl rfl ?_
  refine km_get F dX8_here_5 in_X8_here 6 (by decide) (by decide +kernel) rfl rfl ?_
  refine kj_icmp_ge F dX8_here_8 (tgt := 23) (by decide) h (fun hc h => ?_) (fun hc h => ?_)
  · refine kj_iconst F dX8_here_23 (v := (-1)) (by decide) ?_
    exact kj_iret F dX8_here_24 h
  · refine kj_aload_n F dX8_here_11 0 rfl rfl ?_
    refine km_get F dX8_here_12 in_X8_here 5 (by decide) (by decide +kernel) rfl rfl ?_
    refine kj_aload_n F dX8_here_15 0 rfl rfl ?_
    refine km_get F dX8_here_16 in_X8_here 10 (by decide) (by decide +kernel) rfl rfl ?_
    refine km_iald F dX8_here_19 3 (by decide) h (fun v1 h => ?_)
    refine kj_goto F dX8_here_20 (tgt := 24) (by decide) ?_
    exact kj_iret F dX8_here_24 h
theorem cm_here {l : Launch} {D : va_G} {cA : Nat → ClassId} {h0 : Nat} {q : Nat → Nat} {z : km_S} {o : (Int32 × km_S)} (h : fm_here z = some o) : kj_Mi l yX8_here wsX8_here rm_X8_here D (km_T cA) (km_w cA h0 q) z [.ref h0] o :=
  fun sz => kj_start (by decide) rfl (Nat.le_of_ble_eq_true rfl) rfl fun p e s m args below meth c hsz F => jm_here F h
/-! X8_fails -/
abbrev rm_X8_fails : Room := { frames := 0, cells := 0, slots := 0, locals := 0 }
theorem in_X8_fails : ∀ w ∈ u_ws RX8 TX8 29, w ∈ wsX8_fails := by decide +kernel
def fm_fails_16 (t0 : Int32) (z : km_S) : Option km_S :=
  (km_pI z 4 t0).bind fun z1 =>
  some z1
def fm_fails (x1 : Int32) (z : km_S) : Option km_S :=
  if (z.1 4) = 0 then
  fm_fails_16 x1 z
  else
  fm_fails_16 (z.1 4) z
set_option maxRecDepth 20000 in
theorem jm_fails_16 {p : Program} {l : Launch} {e : Env} {s : State} {m : MethodId} {args : Array Value} {below : List Frame} {meth : Method} {c : Code} {A : Nat → Prop} {D : va_G} {cA : Nat → ClassId} {h0 : Nat} {q : Nat → Nat} (F : kj_Fx p s m args meth c cX8_fails 2 wsX8_fails RX8 none D (km_T cA) A) {t0 : Int32} {z : km_S} {o : km_S} (h : fm_fails_16 t0 z = some o) : kj_J p l e rm_X8_fails s m args below meth c 0 0 (MQ below (kj_Qv D (km_T cA) A (km_w cA h0 q) o) args s 0 0 A) 2 D A ((km_w cA h0 q) z) 16 [] [.int t0, .ref h0] := by
  unfold fm_fails_16 at h
  refine km_pt F dX8_fails_16 in_X8_fails 11 4 (by decide) (by decide +kernel) rfl rfl (by decide +kernel) (km_put4 cA h0 q _ _) h (fun z1 h => ?_)
  exact kj_vret F dX8_fails_19 h
set_option maxRecDepth 20000 in
theorem jm_fails {p : Program} {l : Launch} {e : Env} {s : State} {m : MethodId} {args : Array Value} {below : List Frame} {meth : Method} {c : Code} {A : Nat → Prop} {D : va_G} {cA : Nat → ClassId} {h0 : Nat} {q : Nat → Nat} (F : kj_Fx p s m args meth c cX8_fails 2 wsX8_fails RX8 none D (km_T cA) A) {x1 : Int32} {z : km_S} {o : km_S} (h : fm_fails x1 z = some o) : kj_J p l e rm_X8_fails s m args below meth c 0 0 (MQ below (kj_Qv D (km_T cA) A (km_w cA h0 q) o) args s 0 0 A) 2 D A ((km_w cA h0 q) z) 0 [(0, .ref h0), (1, .int x1)] [] := by
  unfold fm_fails at h
  refine kj_aload_n F dX8_fails_0 0 rfl rfl ?_
  refine kj_aload_n F dX8_fails_1 0 rfl rfl ?_
  refine km_get F dX8_fails_2 in_X8_fails 11 (by decide) (by decide +kernel) rfl rfl ?_
  refine kj_if_ne F dX8_fails_5 (tgt := 12) (by decide) h (fun hc h => ?_) (fun hc h => ?_)
  · refine kj_iload_n F dX8_fails_8 1 rfl rfl ?_
    refine kj_goto F dX8_fails_9 (tgt := 16) (by decide) ?_
    refine kj_J.sub [] rfl ?_
    exact jm_fails_16 F h
  · refine kj_aload_n F dX8_fails_12 0 rfl rfl ?_
    refine km_get F dX8_fails_13 in_X8_fails 11 (by decide) (by decide +kernel) rfl rfl ?_
    refine kj_J.sub [] rfl ?_
    exact jm_fails_16 F h
theorem cm_fails {l : Launch} {D : va_G} {cA : Nat → ClassId} {h0 : Nat} {q : Nat → Nat} {x1 : Int32} {z : km_S} {o : km_S} (h : fm_fails x1 z = some o) : kj_Mv l yX8_fails wsX8_fails rm_X8_fails D (km_T cA) (km_w cA h0 q) z [.ref h0, .int x1] o :=
  fun sz => kj_start (by decide) rfl (Nat.le_of_ble_eq_true rfl) rfl fun p e s m args below meth c hsz F => jm_fails F h
/-! X8_goes -/
abbrev rm_X8_goes : Room := { frames := 0, cells := 0, slots := 0, locals := 0 }
theorem in_X8_goes : ∀ w ∈ u_ws RX8 TX8 29, w ∈ wsX8_goes := by decide +kernel
def fm_goes_17 (t0 : Int32) (t1 : Int32) (z : km_S) : Option km_S :=
  (km_pI z 3 (t1 + t0)).bind fun z1 =>
  some z1
def fm_goes (z : km_S) : Option km_S :=
  if (z.1 4) = 0 then
  fm_goes_17 (1 : Int32) (z.1 3) z
  else
  fm_goes_17 (0 : Int32) (z.1 3) z
set_option maxRecDepth 20000 in
theorem jm_goes_17 {p : Program} {l : Launch} {e : Env} {s : State} {m : MethodId} {args : Array Value} {below : List Frame} {meth : Method} {c : Code} {A : Nat → Prop} {D : va_G} {cA : Nat → ClassId} {h0 : Nat} {q : Nat → Nat} (F : kj_Fx p s m args meth c cX8_goes 1 wsX8_goes RX8 none D (km_T cA) A) {t0 : Int32} {t1 : Int32} {z : km_S} {o : km_S} (h : fm_goes_17 t0 t1 z = some o) : kj_J p l e rm_X8_goes s m args below meth c 0 0 (MQ below (kj_Qv D (km_T cA) A (km_w cA h0 q) o) args s 0 0 A) 1 D A ((km_w cA h0 q) z) 17 [] [.int t0, .int t1, .ref h0] := by
  unfold fm_goes_17 at h
  refine kj_iadd F dX8_goes_17 ?_
  refine km_pt F dX8_goes_18 in_X8_goes 10 3 (by decide) (by decide +kernel) rfl rfl (by decide +kernel) (km_put3 cA h0 q _ _) h (fun z1 h => ?_)
  exact kj_vret F dX8_goes_21 h
set_option maxRecDepth 20000 in
theorem jm_goes {p : Program} {l : Launch} {e : Env} {s : State} {m : MethodId} {args : Array Value} {below : List Frame} {meth : Method} {c : Code} {A : Nat → Prop} {D : va_G} {cA : Nat → ClassId} {h0 : Nat} {q : Nat → Nat} (F : kj_Fx p s m args meth c cX8_goes 1 wsX8_goes RX8 none D (km_T cA) A) {z : km_S} {o : km_S} (h : fm_goes z = some o) : kj_J p l e rm_X8_goes s m args below meth c 0 0 (MQ below (kj_Qv D (km_T cA) A (km_w cA h0 q) o) args s 0 0 A) 1 D A ((km_w cA h0 q) z) 0 [(0, .ref h0)] [] := by
  unfold fm_goes at h
  refine kj_aload_n F dX8_goes_0 0 rfl rfl ?_
  refine kj_dup F dX8_goes_1 rfl ?_
  refine km_get F dX8_goes_2 in_X8_goes 10 (by decide) (by decide +kernel) rfl rfl ?_
  refine kj_aload_n F dX8_goes_5 0 rfl rfl ?_
  refine km_get F dX8_goes_6 in_X8_goes 11 (by decide) (by decide +kernel) rfl rfl ?_
  refine kj_if_ne F dX8_goes_9 (tgt := 16) (by decide) h (fun hc h => ?_) (fun hc h => ?_)
  · refine kj_iconst F dX8_goes_12 (v := 1) (by decide) ?_
    refine kj_goto F dX8_goes_13 (tgt := 17) (by decide) ?_
    refine kj_J.sub [] rfl ?_
    exact jm_goes_17 F h
  · refine kj_iconst F dX8_goes_16 (v := 0) (by decide) ?_
    refine kj_J.sub [] rfl ?_
    exact jm_goes_17 F h
theorem cm_goes {l : Launch} {D : va_G} {cA : Nat → ClassId} {h0 : Nat} {q : Nat → Nat} {z : km_S} {o : km_S} (h : fm_goes z = some o) : kj_Mv l yX8_goes wsX8_goes rm_X8_goes D (km_T cA) (km_w cA h0 q) z [.ref h0] o :=
  fun sz => kj_start (by decide) rfl (Nat.le_of_ble_eq_true rfl) rfl fun p e s m args below meth c hsz F => jm_goes F h
/-! X8_takes -/
abbrev rm_X8_takes : Room := { frames := 1, cells := 0, slots := 0, locals := 21 }
def fm_takes_13 (z : km_S) : Option km_S :=
  (fm_goes z).bind fun o1 =>
  some o1
def fm_takes (x1 : Int32) (z : km_S) : Option km_S :=
  (fm_here z).bind fun o1 =>
  if (o1.1) = x1 then
  fm_takes_13 (o1.2)
  else
  (fm_fails (1 : Int32) (o1.2)).bind fun o2 =>
  fm_takes_13 o2
set_option maxRecDepth 20000 in
theorem jm_takes_13 {p : Program} {l : Launch} {e : Env} {s : State} {m : MethodId} {args : Array Value} {below : List Frame} {meth : Method} {c : Code} {A : Nat → Prop} {D : va_G} {cA : Nat → ClassId} {h0 : Nat} {q : Nat → Nat} (F : kj_Fx p s m args meth c cX8_takes 2 wsX8_takes RX8 none D (km_T cA) A) {z : km_S} {o : km_S} (h : fm_takes_13 z = some o) : kj_J p l e rm_X8_takes s m args below meth c 0 0 (MQ below (kj_Qv D (km_T cA) A (km_w cA h0 q) o) args s 0 0 A) 2 D A ((km_w cA h0 q) z) 13 [(0, .ref h0)] [] := by
  unfold fm_takes_13 at h
  refine kj_aload_n F dX8_takes_13 0 rfl rfl ?_
  refine kj_cVv (As := []) (rest := []) F dX8_takes_14 h (fun o h1 => cm_goes h1) (cwV 0 F.2.2.2.2.1 gX8_takes_X8_goes rfl rfl rfl (by decide +kernel) ⟨Nat.le_of_ble_eq_true rfl, Nat.le_of_ble_eq_true rfl⟩) 0 rfl rfl rfl rfl rfl (Nat.le_of_ble_eq_true rfl) ⟨Nat.zero_le _, Nat.zero_le _⟩ (fun o1 h => ?_)
  exact kj_vret F dX8_takes_17 h
set_option maxRecDepth 20000 in
theorem jm_takes {p : Program} {l : Launch} {e : Env} {s : State} {m : MethodId} {args : Array Value} {below : List Frame} {meth : Method} {c : Code} {A : Nat → Prop} {D : va_G} {cA : Nat → ClassId} {h0 : Nat} {q : Nat → Nat} (F : kj_Fx p s m args meth c cX8_takes 2 wsX8_takes RX8 none D (km_T cA) A) {x1 : Int32} {z : km_S} {o : km_S} (h : fm_takes x1 z = some o) : kj_J p l e rm_X8_takes s m args below meth c 0 0 (MQ below (kj_Qv D (km_T cA) A (km_w cA h0 q) o) args s 0 0 A) 2 D A ((km_w cA h0 q) z) 0 [(0, .ref h0), (1, .int x1)] [] := by
  unfold fm_takes at h
  refine kj_aload_n F dX8_takes_0 0 rfl rfl ?_
  refine kj_cVi (As := []) (rest := []) F dX8_takes_1 h (fun o h1 => cm_here h1) (cwV 0 F.2.2.2.2.1 gX8_takes_X8_here rfl rfl rfl (by decide +kernel) ⟨Nat.le_of_ble_eq_true rfl, Nat.le_of_ble_eq_true rfl⟩) 0 rfl rfl rfl rfl rfl (Nat.le_of_ble_eq_true rfl) ⟨Nat.zero_le _, Nat.zero_le _⟩ (fun o1 h => ?_)
  refine kj_iload_n F dX8_takes_4 1 rfl rfl ?_
  refine kj_icmp_eq F dX8_takes_5 (tgt := 13) (by decide) h (fun hc h => ?_) (fun hc h => ?_)
  · refine kj_J.sub [0] rfl ?_
    exact jm_takes_13 F h
  · refine kj_aload_n F dX8_takes_8 0 rfl rfl ?_
    refine kj_iconst F dX8_takes_9 (v := 1) (by decide) ?_
    refine kj_cVv (As := [.int (1 : Int32)]) (rest := []) F dX8_takes_10 h (fun o h1 => cm_fails h1) (cwV 1 F.2.2.2.2.1 gX8_takes_X8_fails rfl rfl rfl (by decide +kernel) ⟨Nat.le_of_ble_eq_true rfl, Nat.le_of_ble_eq_true rfl⟩) 0 rfl rfl rfl rfl rfl (Nat.le_of_ble_eq_true rfl) ⟨Nat.zero_le _, Nat.zero_le _⟩ (fun o2 h => ?_)
    refine kj_J.sub [0] rfl ?_
    exact jm_takes_13 F h
theorem cm_takes {l : Launch} {D : va_G} {cA : Nat → ClassId} {h0 : Nat} {q : Nat → Nat} {x1 : Int32} {z : km_S} {o : km_S} (h : fm_takes x1 z = some o) : kj_Mv l yX8_takes wsX8_takes rm_X8_takes D (km_T cA) (km_w cA h0 q) z [.ref h0, .int x1] o :=
  fun sz => kj_start (by decide) rfl (Nat.le_of_ble_eq_true rfl) rfl fun p e s m args below meth c hsz F => jm_takes F h
/-! X8_digit -/
abbrev rm_X8_digit : Room := { frames := 1, cells := 0, slots := 0, locals := 22 }
theorem in_X8_digit : ∀ w ∈ u_ws RX8 TX8 29, w ∈ wsX8_digit := by decide +kernel
def fm_digit_37 (x3 : Int32) (z : km_S) : Option (Int32 × km_S) :=
  if (z.1 4) = 0 then
  some (x3, z)
  else
  some ((-1 : Int32), z)
def fm_digit_23 (x1 : Int32) (x2 : Int32) (x3 : Int32) (z : km_S) : Option (Int32 × km_S) :=
  (fm_in x3 x1 x2).bind fun o1 =>
  if o1 = 0 then
  (fm_fails (2 : Int32) z).bind fun o2 =>
  fm_digit_37 x3 o2
  else
  fm_digit_37 x3 z
def fm_digit (x1 : Int32) (x2 : Int32) (z : km_S) : Option (Int32 × km_S) :=
  (fm_here z).bind fun o1 =>
  (fm_in ((o1.1) - (48 : Int32)) (0 : Int32) (9 : Int32)).bind fun o2 =>
  if o2 = 0 then
  (fm_fails (1 : Int32) (o1.2)).bind fun o3 =>
  fm_digit_23 x1 x2 ((o1.1) - (48 : Int32)) o3
  else
  fm_digit_23 x1 x2 ((o1.1) - (48 : Int32)) (o1.2)
set_option maxRecDepth 20000 in
theorem jm_digit_37 {p : Program} {l : Launch} {e : Env} {s : State} {m : MethodId} {args : Array Value} {below : List Frame} {meth : Method} {c : Code} {A : Nat → Prop} {D : va_G} {cA : Nat → ClassId} {h0 : Nat} {q : Nat → Nat} (F : kj_Fx p s m args meth c cX8_digit 4 wsX8_digit RX8 (some .int) D (km_T cA) A) {x3 : Int32} {z : km_S} {o : (Int32 × km_S)} (h : fm_digit_37 x3 z = some o) : kj_J p l e rm_X8_digit s m args below meth c 0 0 (MQ below (kj_Qi D (km_T cA) A (km_w cA h0 q) o) args s 0 0 A) 4 D A ((km_w cA h0 q) z) 37 [(0, .ref h0), (3, .int x3)] [] := by
  unfold fm_digit_37 at h
  refine kj_aload_n F dX8_digit_37 0 rfl rfl ?_
  refine km_get F dX8_digit_38 in_X8_digit 11 (by decide) (by decide +kernel) rfl rfl ?_
  refine kj_if_ne F dX8_digit_41 (tgt := 48) (by decide) h (fun hc h => ?_) (fun hc h => ?_)
  · refine kj_iload_n F dX8_digit_44 1 rfl rfl ?_
    refine kj_goto F dX8_digit_45 (tgt := 49) (by decide) ?_
    exact kj_iret F dX8_digit_49 h
  · refine kj_iconst F dX8_digit_48 (v := (-1)) (by decide) ?_
    exact kj_iret F dX8_digit_49 h
set_option maxRecDepth 20000 in
theorem jm_digit_23 {p : Program} {l : Launch} {e : Env} {s : State} {m : MethodId} {args : Array Value} {below : List Frame} {meth : Method} {c : Code} {A : Nat → Prop} {D : va_G} {cA : Nat → ClassId} {h0 : Nat} {q : Nat → Nat} (F : kj_Fx p s m args meth c cX8_digit 4 wsX8_digit RX8 (some .int) D (km_T cA) A) {x1 : Int32} {x2 : Int32} {x3 : Int32} {z : km_S} {o : (Int32 × km_S)} (h : fm_digit_23 x1 x2 x3 z = some o) : kj_J p l e rm_X8_digit s m args below meth c 0 0 (MQ below (kj_Qi D (km_T cA) A (km_w cA h0 q) o) args s 0 0 A) 4 D A ((km_w cA h0 q) z) 23 [(0, .ref h0), (1, .int x1), (2, .int x2), (3, .int x3)] [] := by
  unfold fm_digit_23 at h
  refine kj_iload_n F dX8_digit_23 3 rfl rfl ?_
  refine kj_iload_n F dX8_digit_24 1 rfl rfl ?_
  refine kj_iload_n F dX8_digit_25 2 rfl rfl ?_
  refine kj_cSip (As := [.int x3, .int x1, .int x2]) (rest := []) F dX8_digit_26 h (fun o h1 => cm_in (w := (km_w cA h0 q)) h1) (va_cwS 3 F.2.2.2.2.1 gX8_digit_X8_in rfl rfl rfl (by decide +kernel) ⟨Nat.le_of_ble_eq_true rfl, Nat.le_of_ble_eq_true rfl⟩) rfl rfl (Nat.le_of_ble_eq_true rfl) ⟨Nat.zero_le _, Nat.zero_le _⟩ (fun o1 h => ?_)
  refine kj_if_ne F dX8_digit_29 (tgt := 37) (by decide) h (fun hc h => ?_) (fun hc h => ?_)
  · refine kj_aload_n F dX8_digit_32 0 rfl rfl ?_
    refine kj_iconst F dX8_digit_33 (v := 2) (by decide) ?_
    refine kj_cVv (As := [.int (2 : Int32)]) (rest := []) F dX8_digit_34 h (fun o h1 => cm_fails h1) (cwV 1 F.2.2.2.2.1 gX8_digit_X8_fails rfl rfl rfl (by decide +kernel) ⟨Nat.le_of_ble_eq_true rfl, Nat.le_of_ble_eq_true rfl⟩) 0 rfl rfl rfl rfl rfl (Nat.le_of_ble_eq_true rfl) ⟨Nat.zero_le _, Nat.zero_le _⟩ (fun o2 h => ?_)
    refine kj_J.sub [0, 3] rfl ?_
    exact jm_digit_37 F h
  · refine kj_J.sub [0, 3] rfl ?_
    exact jm_digit_37 F h
set_option maxRecDepth 20000 in
theorem jm_digit {p : Program} {l : Launch} {e : Env} {s : State} {m : MethodId} {args : Array Value} {below : List Frame} {meth : Method} {c : Code} {A : Nat → Prop} {D : va_G} {cA : Nat → ClassId} {h0 : Nat} {q : Nat → Nat} (F : kj_Fx p s m args meth c cX8_digit 4 wsX8_digit RX8 (some .int) D (km_T cA) A) {x1 : Int32} {x2 : Int32} {z : km_S} {o : (Int32 × km_S)} (h : fm_digit x1 x2 z = some o) : kj_J p l e rm_X8_digit s m args below meth c 0 0 (MQ below (kj_Qi D (km_T cA) A (km_w cA h0 q) o) args s 0 0 A) 4 D A ((km_w cA h0 q) z) 0 [(0, .ref h0), (1, .int x1), (2, .int x2)] [] := by
  unfold fm_digit at h
  refine kj_aload_n F dX8_digit_0 0 rfl rfl ?_
  refine kj_cVi (As := []) (rest := []) F dX8_digit_1 h (fun o h1 => cm_here h1) (cwV 0 F.2.2.2.2.1 gX8_digit_X8_here rfl rfl rfl (by decide +kernel) ⟨Nat.le_of_ble_eq_true rfl, Nat.le_of_ble_eq_true rfl⟩) 0 rfl rfl rfl rfl rfl (Nat.le_of_ble_eq_true rfl) ⟨Nat.zero_le _, Nat.zero_le _⟩ (fun o1 h => ?_)
  refine kj_bipush F dX8_digit_4 (v := 48) (by decide) ?_
  refine kj_isub F dX8_digit_6 ?_
  refine kj_istore_n F dX8_digit_7 (lv' := [(3, .int ((o1.1) - (48 : Int32))), (0, .ref h0), (1, .int x1), (2, .int x2)]) rfl (by decide) rfl ?_
  refine kj_iload_n F dX8_digit_8 0 rfl rfl ?_
  refine kj_iconst F dX8_digit_9 (v := 0) (by decide) ?_
  refine kj_bipush F dX8_digit_10 (v := 9) (by decide) ?_
  refine kj_cSip (As := [.int ((o1.1) - (48 : Int32)), .int (0 : Int32), .int (9 : Int32)]) (rest := []) F dX8_digit_12 h (fun o h1 => cm_in (w := (km_w cA h0 q)) h1) (va_cwS 3 F.2.2.2.2.1 gX8_digit_X8_in rfl rfl rfl (by decide +kernel) ⟨Nat.le_of_ble_eq_true rfl, Nat.le_of_ble_eq_true rfl⟩) rfl rfl (Nat.le_of_ble_eq_true rfl) ⟨Nat.zero_le _, Nat.zero_le _⟩ (fun o2 h => ?_)
  refine kj_if_ne F dX8_digit_15 (tgt := 23) (by decide) h (fun hc h => ?_) (fun hc h => ?_)
  · refine kj_aload_n F dX8_digit_18 1 rfl rfl ?_
    refine kj_iconst F dX8_digit_19 (v := 1) (by decide) ?_
    refine kj_cVv (As := [.int (1 : Int32)]) (rest := []) F dX8_digit_20 h (fun o h1 => cm_fails h1) (cwV 1 F.2.2.2.2.1 gX8_digit_X8_fails rfl rfl rfl (by decide +kernel) ⟨Nat.le_of_ble_eq_true rfl, Nat.le_of_ble_eq_true rfl⟩) 0 rfl rfl rfl rfl rfl (Nat.le_of_ble_eq_true rfl) ⟨Nat.zero_le _, Nat.zero_le _⟩ (fun o3 h => ?_)
    refine kj_J.sub [1, 2, 3, 0] rfl ?_
    exact jm_digit_23 F h
  · refine kj_J.sub [1, 2, 3, 0] rfl ?_
    exact jm_digit_23 F h
theorem cm_digit {l : Launch} {D : va_G} {cA : Nat → ClassId} {h0 : Nat} {q : Nat → Nat} {x1 : Int32} {x2 : Int32} {z : km_S} {o : (Int32 × km_S)} (h : fm_digit x1 x2 z = some o) : kj_Mi l yX8_digit wsX8_digit rm_X8_digit D (km_T cA) (km_w cA h0 q) z [.ref h0, .int x1, .int x2] o :=
  fun sz => kj_start (by decide) rfl (Nat.le_of_ble_eq_true rfl) rfl fun p e s m args below meth c hsz F => jm_digit F h
/-! X8_readsBox -/
abbrev rm_X8_readsBox : Room := { frames := 2, cells := 0, slots := 0, locals := 45 }
theorem in_X8_readsBox : ∀ w ∈ u_ws RX8 TX8 29, w ∈ wsX8_readsBox := by decide +kernel
def fm_readsBox_71 (x1 : Int32) (z : km_S) : Option ((Int32 × km_S) ⊕ km_S) :=
  (fm_goes z).bind fun o1 =>
  some (.inl ((x1 + 1), o1))
def fm_readsBox_12 (x1 : Int32) (z : km_S) : Option ((Int32 × km_S) ⊕ km_S) :=
  if (3 : Int32) < x1 then
  some (.inr z)
  else
  (fm_digit (1 : Int32) (4 : Int32) z).bind fun o1 =>
  (km_wr (o1.2) 4 x1 (o1.1)).bind fun z2 =>
  if x1 = (3 : Int32) then
  if (z2.1 4) = 0 then
  (km_rd z2 4 (1 : Int32)).bind fun v3 =>
  (km_rd z2 4 (2 : Int32)).bind fun v4 =>
  (km_rd z2 4 (3 : Int32)).bind fun v5 =>
  if ((v3 * v4) * v5) ≤ (48 : Int32) then
  fm_readsBox_71 x1 z2
  else
  (fm_fails (2 : Int32) z2).bind fun o6 =>
  fm_readsBox_71 x1 o6
  else
  fm_readsBox_71 x1 z2
  else
  fm_readsBox_71 x1 z2
def lm_readsBox_12 (n : Nat) (x1 : Int32) (z : km_S) : Option km_S :=
  kj_it (fun (s : (Int32 × km_S)) => fm_readsBox_12 (s.1) (s.2)) n (x1, z)
def fm_readsBox (z : km_S) : Option km_S :=
  (fm_begins 4 (0 : Int32) (0 : Int32) (0 : Int32) z).bind fun o1 =>
  (lm_readsBox_12 5000 (1 : Int32) o1).bind fun r2 =>
  some (r2)
set_option maxRecDepth 20000 in
theorem jm_readsBox_71 {p : Program} {l : Launch} {e : Env} {s : State} {m : MethodId} {args : Array Value} {below : List Frame} {meth : Method} {c : Code} {A : Nat → Prop} {D : va_G} {cA : Nat → ClassId} {h0 : Nat} {q : Nat → Nat} {Q : State → Prop} (F : kj_Fx p s m args meth c cX8_readsBox 2 wsX8_readsBox RX8 none D (km_T cA) A) {x1 : Int32} {z : km_S} {o : ((Int32 × km_S) ⊕ km_S)} (h : fm_readsBox_71 x1 z = some o) (kb : ∀ (a0' : Int32) (a1' : km_S), o = .inl (a0', a1') → kj_J p l e rm_X8_readsBox s m args below meth c 0 0 Q 2 D A ((km_w cA h0 q) a1') 12 [(0, .ref h0), (1, .int a0')] []) (ke0 : ∀ (a0' : km_S), o = .inr a0' → kj_J p l e rm_X8_readsBox s m args below meth c 0 0 Q 2 D A ((km_w cA h0 q) a0') 81 [] []) : kj_J p l e rm_X8_readsBox s m args below meth c 0 0 Q 2 D A ((km_w cA h0 q) z) 71 [(0, .ref h0), (1, .int x1)] [] := by
  unfold fm_readsBox_71 at h
  refine kj_aload_n F dX8_readsBox_71 0 rfl rfl ?_
  refine kj_cVv (As := []) (rest := []) F dX8_readsBox_72 h (fun o h1 => cm_goes h1) (cwV 0 F.2.2.2.2.1 gX8_readsBox_X8_goes rfl rfl rfl (by decide +kernel) ⟨Nat.le_of_ble_eq_true rfl, Nat.le_of_ble_eq_true rfl⟩) 0 rfl rfl rfl rfl rfl (Nat.le_of_ble_eq_true rfl) ⟨Nat.zero_le _, Nat.zero_le _⟩ (fun o1 h => ?_)
  refine kj_iinc F dX8_readsBox_75 1 rfl (v := 1) (by decide) (by decide) (lv' := [(1, .int (x1 + 1)), (0, .ref h0)]) rfl ?_
  refine kj_goto F dX8_readsBox_78 (tgt := 12) (by decide) ?_
  refine kj_J.sub [1, 0] rfl ?_
  exact kb (x1 + 1) o1 (Option.some.inj h).symm
set_option maxRecDepth 20000 in
theorem jm_readsBox_12 {p : Program} {l : Launch} {e : Env} {s : State} {m : MethodId} {args : Array Value} {below : List Frame} {meth : Method} {c : Code} {A : Nat → Prop} {D : va_G} {cA : Nat → ClassId} {h0 : Nat} {q : Nat → Nat} {Q : State → Prop} (F : kj_Fx p s m args meth c cX8_readsBox 2 wsX8_readsBox RX8 none D (km_T cA) A) {x1 : Int32} {z : km_S} {o : ((Int32 × km_S) ⊕ km_S)} (h : fm_readsBox_12 x1 z = some o) (kb : ∀ (a0' : Int32) (a1' : km_S), o = .inl (a0', a1') → kj_J p l e rm_X8_readsBox s m args below meth c 0 0 Q 2 D A ((km_w cA h0 q) a1') 12 [(0, .ref h0), (1, .int a0')] []) (ke0 : ∀ (a0' : km_S), o = .inr a0' → kj_J p l e rm_X8_readsBox s m args below meth c 0 0 Q 2 D A ((km_w cA h0 q) a0') 81 [] []) : kj_J p l e rm_X8_readsBox s m args below meth c 0 0 Q 2 D A ((km_w cA h0 q) z) 12 [(0, .ref h0), (1, .int x1)] [] := by
  unfold fm_readsBox_12 at h
  refine kj_iload_n F dX8_readsBox_12 1 rfl rfl ?_
  refine kj_iconst F dX8_readsBox_13 (v := 3) (by decide) ?_
  refine kj_icmp_gt F dX8_readsBox_14 (tgt := 81) (by decide) h (fun hc h => ?_) (fun hc h => ?_)
  · refine kj_J.sub [] rfl ?_
    exact ke0 z (Option.some.inj h).symm
  · refine kj_aload_n F dX8_readsBox_17 0 rfl rfl ?_
    refine km_get F dX8_readsBox_18 in_X8_readsBox 8 (by decide) (by decide +kernel) rfl rfl ?_
    refine kj_iload_n F dX8_readsBox_21 1 rfl rfl ?_
    refine kj_aload_n F dX8_readsBox_22 0 rfl rfl ?_
    refine kj_iconst F dX8_readsBox_23 (v := 1) (by decide) ?_
    refine kj_iconst F dX8_readsBox_24 (v := 4) (by decide) ?_
    refine kj_cVi (As := [.int (1 : Int32), .int (4 : Int32)]) (rest := [.int x1, .ref (q 4)]) F dX8_readsBox_25 h (fun o h1 => cm_digit h1) (cwV 2 F.2.2.2.2.1 gX8_readsBox_X8_digit rfl rfl rfl (by decide +kernel) ⟨Nat.le_of_ble_eq_true rfl, Nat.le_of_ble_eq_true rfl⟩) 0 rfl rfl rfl rfl rfl (Nat.le_of_ble_eq_true rfl) ⟨Nat.zero_le _, Nat.zero_le _⟩ (fun o1 h => ?_)
    refine km_iast F dX8_readsBox_28 4 (by decide) h (fun z2 h => ?_)
    refine kj_iload_n F dX8_readsBox_29 1 rfl rfl ?_
    refine kj_iconst F dX8_readsBox_30 (v := 3) (by decide) ?_
    refine kj_icmp_ne F dX8_readsBox_31 (tgt := 71) (by decide) h (fun hc h => ?_) (fun hc h => ?_)
    · refine kj_aload_n F dX8_readsBox_34 0 rfl rfl ?_
      refine km_get F dX8_readsBox_35 in_X8_readsBox 11 (by decide) (by decide +kernel) rfl rfl ?_
      refine kj_if_ne F dX8_readsBox_38 (tgt := 71) (by decide) h (fun hc h => ?_) (fun hc h => ?_)
      · refine kj_aload_n F dX8_readsBox_41 0 rfl rfl ?_
        refine km_get F dX8_readsBox_42 in_X8_readsBox 8 (by decide) (by decide +kernel) rfl rfl ?_
        refine kj_iconst F dX8_readsBox_45 (v := 1) (by decide) ?_
        refine km_iald F dX8_readsBox_46 4 (by decide) h (fun v3 h => ?_)
        refine kj_aload_n F dX8_readsBox_47 0 rfl rfl ?_
        refine km_get F dX8_readsBox_48 in_X8_readsBox 8 (by decide) (by decide +kernel) rfl rfl ?_
        refine kj_iconst F dX8_readsBox_51 (v := 2) (by decide) ?_
        refine km_iald F dX8_readsBox_52 4 (by decide) h (fun v4 h => ?_)
        refine kj_imul F dX8_readsBox_53 ?_
        refine kj_aload_n F dX8_readsBox_54 0 rfl rfl ?_
        refine km_get F dX8_readsBox_55 in_X8_readsBox 8 (by decide) (by decide +kernel) rfl rfl ?_
        refine kj_iconst F dX8_readsBox_58 (v := 3) (by decide) ?_
        refine km_iald F dX8_readsBox_59 4 (by decide) h (fun v5 h => ?_)
        refine kj_imul F dX8_readsBox_60 ?_
        refine kj_bipush F dX8_readsBox_61 (v := 48) (by decide) ?_
        refine kj_icmp_le F dX8_readsBox_63 (tgt := 71) (by decide) h (fun hc h => ?_) (fun hc h => ?_)
        · exact jm_readsBox_71 F h kb ke0
        · refine kj_aload_n F dX8_readsBox_66 0 rfl rfl ?_
          refine kj_iconst F dX8_readsBox_67 (v := 2) (by decide) ?_
          refine kj_cVv (As := [.int (2 : Int32)]) (rest := []) F dX8_readsBox_68 h (fun o h1 => cm_fails h1) (cwV 1 F.2.2.2.2.1 gX8_readsBox_X8_fails rfl rfl rfl (by decide +kernel) ⟨Nat.le_of_ble_eq_true rfl, Nat.le_of_ble_eq_true rfl⟩) 0 rfl rfl rfl rfl rfl (Nat.le_of_ble_eq_true rfl) ⟨Nat.zero_le _, Nat.zero_le _⟩ (fun o6 h => ?_)
          exact jm_readsBox_71 F h kb ke0
      · exact jm_readsBox_71 F h kb ke0
    · exact jm_readsBox_71 F h kb ke0
theorem jlm_readsBox_12 {p : Program} {l : Launch} {e : Env} {s : State} {m : MethodId} {args : Array Value} {below : List Frame} {meth : Method} {c : Code} {A : Nat → Prop} {D : va_G} {cA : Nat → ClassId} {h0 : Nat} {q : Nat → Nat} {Q : State → Prop} (F : kj_Fx p s m args meth c cX8_readsBox 2 wsX8_readsBox RX8 none D (km_T cA) A) {n : Nat} {x1 : Int32} {z : km_S} {r : km_S} (h : lm_readsBox_12 n x1 z = some r) (ke : kj_J p l e rm_X8_readsBox s m args below meth c 0 0 Q 2 D A ((km_w cA h0 q) (r)) 81 [] []) : kj_J p l e rm_X8_readsBox s m args below meth c 0 0 Q 2 D A ((km_w cA h0 q) z) 12 [(0, .ref h0), (1, .int x1)] [] :=
  kj_it_J (Wh := fun (u : (Int32 × km_S)) => kj_J p l e rm_X8_readsBox s m args below meth c 0 0 Q 2 D A ((km_w cA h0 q) (u.2)) 12 [(0, .ref h0), (1, .int (u.1))] []) (We := fun r => kj_J p l e rm_X8_readsBox s m args below meth c 0 0 Q 2 D A ((km_w cA h0 q) (r)) 81 [] []) (fun u o h kb ke => jm_readsBox_12 F h (fun a0' a1' e => kb (a0', a1') e) (fun a0' e => ke a0' e)) n (x1, z) r h ke
set_option maxRecDepth 20000 in
theorem jm_readsBox {p : Program} {l : Launch} {e : Env} {s : State} {m : MethodId} {args : Array Value} {below : List Frame} {meth : Method} {c : Code} {A : Nat → Prop} {D : va_G} {cA : Nat → ClassId} {h0 : Nat} {q : Nat → Nat} (F : kj_Fx p s m args meth c cX8_readsBox 2 wsX8_readsBox RX8 none D (km_T cA) A) {z : km_S} {o : km_S} (h : fm_readsBox z = some o) : kj_J p l e rm_X8_readsBox s m args below meth c 0 0 (MQ below (kj_Qv D (km_T cA) A (km_w cA h0 q) o) args s 0 0 A) 2 D A ((km_w cA h0 q) z) 0 [(0, .ref h0)] [] := by
  unfold fm_readsBox at h
  refine kj_aload_n F dX8_readsBox_0 0 rfl rfl ?_
  refine km_get F dX8_readsBox_1 in_X8_readsBox 8 (by decide) (by decide +kernel) rfl rfl ?_
  refine kj_iconst F dX8_readsBox_4 (v := 0) (by decide) ?_
  refine kj_iconst F dX8_readsBox_5 (v := 0) (by decide) ?_
  refine kj_iconst F dX8_readsBox_6 (v := 0) (by decide) ?_
  refine kj_cSv (As := [.ref (q 4), .int (0 : Int32), .int (0 : Int32), .int (0 : Int32)]) (rest := []) F dX8_readsBox_7 h (fun o h1 => cm_begins (by decide) h1) (va_cwS 4 F.2.2.2.2.1 gX8_readsBox_X8_begins rfl rfl rfl (by decide +kernel) ⟨Nat.le_of_ble_eq_true rfl, Nat.le_of_ble_eq_true rfl⟩) rfl rfl (Nat.le_of_ble_eq_true rfl) ⟨Nat.zero_le _, Nat.zero_le _⟩ (fun o1 h => ?_)
  refine kj_iconst F dX8_readsBox_10 (v := 1) (by decide) ?_
  refine kj_istore_n F dX8_readsBox_11 (lv' := [(1, .int (1 : Int32)), (0, .ref h0)]) rfl (by decide) rfl ?_
  refine kj_J.sub [1, 0] rfl ?_
  refine kj_bn h (fun r2 h1 h => ?_)
  refine jlm_readsBox_12 F h1 ?_
  exact kj_vret F dX8_readsBox_81 h
theorem cm_readsBox {l : Launch} {D : va_G} {cA : Nat → ClassId} {h0 : Nat} {q : Nat → Nat} {z : km_S} {o : km_S} (h : fm_readsBox z = some o) : kj_Mv l yX8_readsBox wsX8_readsBox rm_X8_readsBox D (km_T cA) (km_w cA h0 q) z [.ref h0] o :=
  fun sz => kj_start (by decide) rfl (Nat.le_of_ble_eq_true rfl) rfl fun p e s m args below meth c hsz F => jm_readsBox F h
/-! X8_isToldAt -/
abbrev rm_X8_isToldAt : Room := { frames := 1, cells := 0, slots := 0, locals := 22 }
theorem in_X8_isToldAt : ∀ w ∈ u_ws RX8 TX8 29, w ∈ wsX8_isToldAt := by decide +kernel
def fm_isToldAt (x1 : Int32) (x2 : Int32) (z : km_S) : Option (Int32 × km_S) :=
  (fm_in x1 (0 : Int32) (3 : Int32)).bind fun o1 =>
  if o1 = 0 then
  some ((0 : Int32), z)
  else
  (fm_in x2 (0 : Int32) (3 : Int32)).bind fun o2 =>
  if o2 = 0 then
  some ((0 : Int32), z)
  else
  (km_rd z 19 (((4 : Int32) * x1) + x2)).bind fun v3 =>
  if v3 = 0 then
  some ((0 : Int32), z)
  else
  some ((1 : Int32), z)
set_option maxRecDepth 20000 in
theorem jm_isToldAt {p : Program} {l : Launch} {e : Env} {s : State} {m : MethodId} {args : Array Value} {below : List Frame} {meth : Method} {c : Code} {A : Nat → Prop} {D : va_G} {cA : Nat → ClassId} {h0 : Nat} {q : Nat → Nat} (F : kj_Fx p s m args meth c cX8_isToldAt 3 wsX8_isToldAt RX8 (some .boolean) D (km_T cA) A) {x1 : Int32} {x2 : Int32} {z : km_S} {o : (Int32 × km_S)} (h : fm_isToldAt x1 x2 z = some o) : kj_J p l e rm_X8_isToldAt s m args below meth c 0 0 (MQ below (kj_Qi D (km_T cA) A (km_w cA h0 q) o) args s 0 0 A) 3 D A ((km_w cA h0 q) z) 0 [(0, .ref h0), (1, .int x1), (2, .int x2)] [] := by
  unfold fm_isToldAt at h
  refine kj_iload_n F dX8_isToldAt_0 1 rfl rfl ?_
  refine kj_iconst F dX8_isToldAt_1 (v := 0) (by decide) ?_
  refine kj_iconst F dX8_isToldAt_2 (v := 3) (by decide) ?_
  refine kj_cSip (As := [.int x1, .int (0 : Int32), .int (3 : Int32)]) (rest := []) F dX8_isToldAt_3 h (fun o h1 => cm_in (w := (km_w cA h0 q)) h1) (va_cwS 3 F.2.2.2.2.1 gX8_isToldAt_X8_in rfl rfl rfl (by decide +kernel) ⟨Nat.le_of_ble_eq_true rfl, Nat.le_of_ble_eq_true rfl⟩) rfl rfl (Nat.le_of_ble_eq_true rfl) ⟨Nat.zero_le _, Nat.zero_le _⟩ (fun o1 h => ?_)
  refine kj_if_eq F dX8_isToldAt_6 (tgt := 35) (by decide) h (fun hc h => ?_) (fun hc h => ?_)
  · refine kj_iconst F dX8_isToldAt_35 (v := 0) (by decide) ?_
    exact kj_zret F dX8_isToldAt_36 (by decide) h
  · refine kj_iload_n F dX8_isToldAt_9 2 rfl rfl ?_
    refine kj_iconst F dX8_isToldAt_10 (v := 0) (by decide) ?_
    refine kj_iconst F dX8_isToldAt_11 (v := 3) (by decide) ?_
    refine kj_cSip (As := [.int x2, .int (0 : Int32), .int (3 : Int32)]) (rest := []) F dX8_isToldAt_12 h (fun o h1 => cm_in (w := (km_w cA h0 q)) h1) (va_cwS 3 F.2.2.2.2.1 gX8_isToldAt_X8_in rfl rfl rfl (by decide +kernel) ⟨Nat.le_of_ble_eq_true rfl, Nat.le_of_ble_eq_true rfl⟩) rfl rfl (Nat.le_of_ble_eq_true rfl) ⟨Nat.zero_le _, Nat.zero_le _⟩ (fun o2 h => ?_)
    refine kj_if_eq F dX8_isToldAt_15 (tgt := 35) (by decide) h (fun hc h => ?_) (fun hc h => ?_)
    · refine kj_iconst F dX8_isToldAt_35 (v := 0) (by decide) ?_
      exact kj_zret F dX8_isToldAt_36 (by decide) h
    · refine kj_aload_n F dX8_isToldAt_18 0 rfl rfl ?_
      refine km_get F dX8_isToldAt_19 in_X8_isToldAt 12 (by decide) (by decide +kernel) rfl rfl ?_
      refine kj_iconst F dX8_isToldAt_22 (v := 4) (by decide) ?_
      refine kj_iload_n F dX8_isToldAt_23 1 rfl rfl ?_
      refine kj_imul F dX8_isToldAt_24 ?_
      refine kj_iload_n F dX8_isToldAt_25 2 rfl rfl ?_
      refine kj_iadd F dX8_isToldAt_26 ?_
      refine km_zald F dX8_isToldAt_27 19 (by decide) rfl h (fun v3 h => ?_)
      refine kj_if_eq F dX8_isToldAt_28 (tgt := 35) (by decide) h (fun hc h => ?_) (fun hc h => ?_)
      · refine kj_iconst F dX8_isToldAt_35 (v := 0) (by decide) ?_
        exact kj_zret F dX8_isToldAt_36 (by decide) h
      · refine kj_iconst F dX8_isToldAt_31 (v := 1) (by decide) ?_
        refine kj_goto F dX8_isToldAt_32 (tgt := 36) (by decide) ?_
        exact kj_zret F dX8_isToldAt_36 (by decide) h
theorem cm_isToldAt {l : Launch} {D : va_G} {cA : Nat → ClassId} {h0 : Nat} {q : Nat → Nat} {x1 : Int32} {x2 : Int32} {z : km_S} {o : (Int32 × km_S)} (h : fm_isToldAt x1 x2 z = some o) : kj_Mi l yX8_isToldAt wsX8_isToldAt rm_X8_isToldAt D (km_T cA) (km_w cA h0 q) z [.ref h0, .int x1, .int x2] o :=
  fun sz => kj_start (by decide) rfl (Nat.le_of_ble_eq_true rfl) rfl fun p e s m args below meth c hsz F => jm_isToldAt F h
/-! X8_readsHeight -/
abbrev rm_X8_readsHeight : Room := { frames := 2, cells := 0, slots := 0, locals := 45 }
theorem in_X8_readsHeight : ∀ w ∈ u_ws RX8 TX8 29, w ∈ wsX8_readsHeight := by decide +kernel
def fm_readsHeight_185 (z : km_S) : Option km_S :=
  (fm_goes z).bind fun o1 =>
  some o1
def fm_readsHeight_156 (x1 : Int32) (x2 : Int32) (x3 : Int32) (z : km_S) : Option km_S :=
  if (z.1 4) = 0 then
  (fm_at x1 x2).bind fun o1 =>
  (km_wr z 4 o1 x3).bind fun z2 =>
  (km_wz z2 19 (((4 : Int32) * x1) + x2) (1 : Int32)).bind fun z3 =>
  fm_readsHeight_185 z3
  else
  fm_readsHeight_185 z
def fm_readsHeight_151 (x1 : Int32) (x2 : Int32) (x3 : Int32) (z : km_S) : Option km_S :=
  (fm_fails (2 : Int32) z).bind fun o1 =>
  fm_readsHeight_156 x1 x2 x3 o1
def fm_readsHeight_139 (x1 : Int32) (x2 : Int32) (x3 : Int32) (x4 : Int32) (t0 : Int32) (z : km_S) : Option km_S :=
  if x4 = 0 then
  if t0 = 0 then
  fm_readsHeight_156 x1 x2 x3 z
  else
  fm_readsHeight_151 x1 x2 x3 z
  else
  fm_readsHeight_151 x1 x2 x3 z
def fm_readsHeight_138 (x1 : Int32) (x2 : Int32) (x3 : Int32) (x4 : Int32) (z : km_S) : Option km_S :=
  fm_readsHeight_139 x1 x2 x3 x4 (0 : Int32) z
def fm_readsHeight_134 (x1 : Int32) (x2 : Int32) (x3 : Int32) (x4 : Int32) (z : km_S) : Option km_S :=
  fm_readsHeight_139 x1 x2 x3 x4 (1 : Int32) z
def fm_readsHeight_107 (x1 : Int32) (x2 : Int32) (x3 : Int32) (x4 : Int32) (z : km_S) : Option km_S :=
  (fm_isToldAt x1 (x2 + (1 : Int32)) z).bind fun o1 =>
  if (o1.1) = 0 then
  fm_readsHeight_138 x1 x2 x3 x4 (o1.2)
  else
  (fm_at x1 (x2 + (1 : Int32))).bind fun o2 =>
  (km_rd (o1.2) 4 o2).bind fun v3 =>
  if v3 ≤ x3 then
  fm_readsHeight_138 x1 x2 x3 x4 (o1.2)
  else
  fm_readsHeight_134 x1 x2 x3 x4 (o1.2)
def fm_readsHeight_78 (x1 : Int32) (x2 : Int32) (x3 : Int32) (t0 : Int32) (z : km_S) : Option km_S :=
  (fm_isToldAt (x1 + (1 : Int32)) x2 z).bind fun o1 =>
  if (o1.1) = 0 then
  fm_readsHeight_107 x1 x2 x3 t0 (o1.2)
  else
  (fm_at (x1 + (1 : Int32)) x2).bind fun o2 =>
  (km_rd (o1.2) 4 o2).bind fun v3 =>
  if x3 < v3 then
  fm_readsHeight_134 x1 x2 x3 t0 (o1.2)
  else
  fm_readsHeight_107 x1 x2 x3 t0 (o1.2)
def fm_readsHeight_77 (x1 : Int32) (x2 : Int32) (x3 : Int32) (z : km_S) : Option km_S :=
  fm_readsHeight_78 x1 x2 x3 (0 : Int32) z
def fm_readsHeight_73 (x1 : Int32) (x2 : Int32) (x3 : Int32) (z : km_S) : Option km_S :=
  fm_readsHeight_78 x1 x2 x3 (1 : Int32) z
def fm_readsHeight_46 (x1 : Int32) (x2 : Int32) (x3 : Int32) (z : km_S) : Option km_S :=
  (fm_isToldAt x1 (x2 - (1 : Int32)) z).bind fun o1 =>
  if (o1.1) = 0 then
  fm_readsHeight_77 x1 x2 x3 (o1.2)
  else
  (fm_at x1 (x2 - (1 : Int32))).bind fun o2 =>
  (km_rd (o1.2) 4 o2).bind fun v3 =>
  if x3 ≤ v3 then
  fm_readsHeight_77 x1 x2 x3 (o1.2)
  else
  fm_readsHeight_73 x1 x2 x3 (o1.2)
def fm_readsHeight (x1 : Int32) (x2 : Int32) (z : km_S) : Option km_S :=
  (km_rd z 4 (3 : Int32)).bind fun v1 =>
  (fm_digit (0 : Int32) v1 z).bind fun o2 =>
  if ((o2.2).1 4) = 0 then
  (fm_isToldAt (x1 - (1 : Int32)) x2 (o2.2)).bind fun o3 =>
  if (o3.1) = 0 then
  fm_readsHeight_46 x1 x2 (o2.1) (o3.2)
  else
  (fm_at (x1 - (1 : Int32)) x2).bind fun o4 =>
  (km_rd (o3.2) 4 o4).bind fun v5 =>
  if v5 < (o2.1) then
  fm_readsHeight_73 x1 x2 (o2.1) (o3.2)
  else
  fm_readsHeight_46 x1 x2 (o2.1) (o3.2)
  else
  fm_readsHeight_156 x1 x2 (o2.1) (o2.2)
set_option maxRecDepth 20000 in
theorem jm_readsHeight_185 {p : Program} {l : Launch} {e : Env} {s : State} {m : MethodId} {args : Array Value} {below : List Frame} {meth : Method} {c : Code} {A : Nat → Prop} {D : va_G} {cA : Nat → ClassId} {h0 : Nat} {q : Nat → Nat} (F : kj_Fx p s m args meth c cX8_readsHeight 6 wsX8_readsHeight RX8 none D (km_T cA) A) {z : km_S} {o : km_S} (h : fm_readsHeight_185 z = some o) : kj_J p l e rm_X8_readsHeight s m args below meth c 0 0 (MQ below (kj_Qv D (km_T cA) A (km_w cA h0 q) o) args s 0 0 A) 6 D A ((km_w cA h0 q) z) 185 [(0, .ref h0)] [] := by
  unfold fm_readsHeight_185 at h
  refine kj_aload_n F dX8_readsHeight_185 0 rfl rfl ?_
  refine kj_cVv (As := []) (rest := []) F dX8_readsHeight_186 h (fun o h1 => cm_goes h1) (cwV 0 F.2.2.2.2.1 gX8_readsHeight_X8_goes rfl rfl rfl (by decide +kernel) ⟨Nat.le_of_ble_eq_true rfl, Nat.le_of_ble_eq_true rfl⟩) 0 rfl rfl rfl rfl rfl (Nat.le_of_ble_eq_true rfl) ⟨Nat.zero_le _, Nat.zero_le _⟩ (fun o1 h => ?_)
  exact kj_vret F dX8_readsHeight_189 h
set_option maxRecDepth 20000 in
theorem jm_readsHeight_156 {p : Program} {l : Launch} {e : Env} {s : State} {m : MethodId} {args : Array Value} {below : List Frame} {meth : Method} {c : Code} {A : Nat → Prop} {D : va_G} {cA : Nat → ClassId} {h0 : Nat} {q : Nat → Nat} (F : kj_Fx p s m args meth c cX8_readsHeight 6 wsX8_readsHeight RX8 none D (km_T cA) A) {x1 : Int32} {x2 : Int32} {x3 : Int32} {z : km_S} {o : km_S} (h : fm_readsHeight_156 x1 x2 x3 z = some o) : kj_J p l e rm_X8_readsHeight s m args below meth c 0 0 (MQ below (kj_Qv D (km_T cA) A (km_w cA h0 q) o) args s 0 0 A) 6 D A ((km_w cA h0 q) z) 156 [(0, .ref h0), (1, .int x1), (2, .int x2), (3, .int x3)] [] := by
  unfold fm_readsHeight_156 at h
  refine kj_aload_n F dX8_readsHeight_156 0 rfl rfl ?_
  refine km_get F dX8_readsHeight_157 in_X8_readsHeight 11 (by decide) (by decide +kernel) rfl rfl ?_
  refine kj_if_ne F dX8_readsHeight_160 (tgt := 185) (by decide) h (fun hc h => ?_) (fun hc h => ?_)
  · refine kj_aload_n F dX8_readsHeight_163 0 rfl rfl ?_
    refine km_get F dX8_readsHeight_164 in_X8_readsHeight 8 (by decide) (by decide +kernel) rfl rfl ?_
    refine kj_iload_n F dX8_readsHeight_167 1 rfl rfl ?_
    refine kj_iload_n F dX8_readsHeight_168 2 rfl rfl ?_
    refine kj_cSip (As := [.int x1, .int x2]) (rest := [.ref (q 4)]) F dX8_readsHeight_169 h (fun o h1 => cm_at (w := (km_w cA h0 q)) h1) (va_cwS 2 F.2.2.2.2.1 gX8_readsHeight_X8_at rfl rfl rfl (by decide +kernel) ⟨Nat.le_of_ble_eq_true rfl, Nat.le_of_ble_eq_true rfl⟩) rfl rfl (Nat.le_of_ble_eq_true rfl) ⟨Nat.zero_le _, Nat.zero_le _⟩ (fun o1 h => ?_)
    refine kj_iload_n F dX8_readsHeight_172 3 rfl rfl ?_
    refine km_iast F dX8_readsHeight_173 4 (by decide) h (fun z2 h => ?_)
    refine kj_aload_n F dX8_readsHeight_174 0 rfl rfl ?_
    refine km_get F dX8_readsHeight_175 in_X8_readsHeight 12 (by decide) (by decide +kernel) rfl rfl ?_
    refine kj_iconst F dX8_readsHeight_178 (v := 4) (by decide) ?_
    refine kj_iload_n F dX8_readsHeight_179 1 rfl rfl ?_
    refine kj_imul F dX8_readsHeight_180 ?_
    refine kj_iload_n F dX8_readsHeight_181 2 rfl rfl ?_
    refine kj_iadd F dX8_readsHeight_182 ?_
    refine kj_iconst F dX8_readsHeight_183 (v := 1) (by decide) ?_
    refine km_zast F dX8_readsHeight_184 19 (by decide) rfl h (fun z3 h => ?_)
    refine kj_J.sub [0] rfl ?_
    exact jm_readsHeight_185 F h
  · refine kj_J.sub [0] rfl ?_
    exact jm_readsHeight_185 F h
set_option maxRecDepth 20000 in
theorem jm_readsHeight_151 {p : Program} {l : Launch} {e : Env} {s : State} {m : MethodId} {args : Array Value} {below : List Frame} {meth : Method} {c : Code} {A : Nat → Prop} {D : va_G} {cA : Nat → ClassId} {h0 : Nat} {q : Nat → Nat} (F : kj_Fx p s m args meth c cX8_readsHeight 6 wsX8_readsHeight RX8 none D (km_T cA) A) {x1 : Int32} {x2 : Int32} {x3 : Int32} {z : km_S} {o : km_S} (h : fm_readsHeight_151 x1 x2 x3 z = some o) : kj_J p l e rm_X8_readsHeight s m args below meth c 0 0 (MQ below (kj_Qv D (km_T cA) A (km_w cA h0 q) o) args s 0 0 A) 6 D A ((km_w cA h0 q) z) 151 [(0, .ref h0), (1, .int x1), (2, .int x2), (3, .int x3)] [] := by
  unfold fm_readsHeight_151 at h
  refine kj_aload_n F dX8_readsHeight_151 0 rfl rfl ?_
  refine kj_iconst F dX8_readsHeight_152 (v := 2) (by decide) ?_
  refine kj_cVv (As := [.int (2 : Int32)]) (rest := []) F dX8_readsHeight_153 h (fun o h1 => cm_fails h1) (cwV 1 F.2.2.2.2.1 gX8_readsHeight_X8_fails rfl rfl rfl (by decide +kernel) ⟨Nat.le_of_ble_eq_true rfl, Nat.le_of_ble_eq_true rfl⟩) 0 rfl rfl rfl rfl rfl (Nat.le_of_ble_eq_true rfl) ⟨Nat.zero_le _, Nat.zero_le _⟩ (fun o1 h => ?_)
  exact jm_readsHeight_156 F h
set_option maxRecDepth 20000 in
theorem jm_readsHeight_139 {p : Program} {l : Launch} {e : Env} {s : State} {m : MethodId} {args : Array Value} {below : List Frame} {meth : Method} {c : Code} {A : Nat → Prop} {D : va_G} {cA : Nat → ClassId} {h0 : Nat} {q : Nat → Nat} (F : kj_Fx p s m args meth c cX8_readsHeight 6 wsX8_readsHeight RX8 none D (km_T cA) A) {x1 : Int32} {x2 : Int32} {x3 : Int32} {x4 : Int32} {t0 : Int32} {z : km_S} {o : km_S} (h : fm_readsHeight_139 x1 x2 x3 x4 t0 z = some o) : kj_J p l e rm_X8_readsHeight s m args below meth c 0 0 (MQ below (kj_Qv D (km_T cA) A (km_w cA h0 q) o) args s 0 0 A) 6 D A ((km_w cA h0 q) z) 139 [(0, .ref h0), (1, .int x1), (2, .int x2), (3, .int x3), (4, .int x4)] [.int t0] := by
  unfold fm_readsHeight_139 at h
  refine kj_istore F dX8_readsHeight_139 (lv' := [(5, .int t0), (0, .ref h0), (1, .int x1), (2, .int x2), (3, .int x3), (4, .int x4)]) (by decide) rfl ?_
  refine kj_iload F dX8_readsHeight_141 5 rfl ?_
  refine kj_if_ne F dX8_readsHeight_143 (tgt := 151) (by decide) h (fun hc h => ?_) (fun hc h => ?_)
  · refine kj_iload F dX8_readsHeight_146 0 rfl ?_
    refine kj_if_eq F dX8_readsHeight_148 (tgt := 156) (by decide) h (fun hc h => ?_) (fun hc h => ?_)
    · refine kj_J.sub [1, 2, 3, 4] rfl ?_
      exact jm_readsHeight_156 F h
    · refine kj_J.sub [1, 2, 3, 4] rfl ?_
      exact jm_readsHeight_151 F h
  · refine kj_J.sub [1, 2, 3, 4] rfl ?_
    exact jm_readsHeight_151 F h
set_option maxRecDepth 20000 in
theorem jm_readsHeight_138 {p : Program} {l : Launch} {e : Env} {s : State} {m : MethodId} {args : Array Value} {below : List Frame} {meth : Method} {c : Code} {A : Nat → Prop} {D : va_G} {cA : Nat → ClassId} {h0 : Nat} {q : Nat → Nat} (F : kj_Fx p s m args meth c cX8_readsHeight 6 wsX8_readsHeight RX8 none D (km_T cA) A) {x1 : Int32} {x2 : Int32} {x3 : Int32} {x4 : Int32} {z : km_S} {o : km_S} (h : fm_readsHeight_138 x1 x2 x3 x4 z = some o) : kj_J p l e rm_X8_readsHeight s m args below meth c 0 0 (MQ below (kj_Qv D (km_T cA) A (km_w cA h0 q) o) args s 0 0 A) 6 D A ((km_w cA h0 q) z) 138 [(0, .ref h0), (1, .int x1), (2, .int x2), (3, .int x3), (4, .int x4)] [] := by
  unfold fm_readsHeight_138 at h
  refine kj_iconst F dX8_readsHeight_138 (v := 0) (by decide) ?_
  exact jm_readsHeight_139 F h
set_option maxRecDepth 20000 in
theorem jm_readsHeight_134 {p : Program} {l : Launch} {e : Env} {s : State} {m : MethodId} {args : Array Value} {below : List Frame} {meth : Method} {c : Code} {A : Nat → Prop} {D : va_G} {cA : Nat → ClassId} {h0 : Nat} {q : Nat → Nat} (F : kj_Fx p s m args meth c cX8_readsHeight 6 wsX8_readsHeight RX8 none D (km_T cA) A) {x1 : Int32} {x2 : Int32} {x3 : Int32} {x4 : Int32} {z : km_S} {o : km_S} (h : fm_readsHeight_134 x1 x2 x3 x4 z = some o) : kj_J p l e rm_X8_readsHeight s m args below meth c 0 0 (MQ below (kj_Qv D (km_T cA) A (km_w cA h0 q) o) args s 0 0 A) 6 D A ((km_w cA h0 q) z) 134 [(0, .ref h0), (1, .int x1), (2, .int x2), (3, .int x3), (4, .int x4)] [] := by
  unfold fm_readsHeight_134 at h
  refine kj_iconst F dX8_readsHeight_134 (v := 1) (by decide) ?_
  refine kj_goto F dX8_readsHeight_135 (tgt := 139) (by decide) ?_
  exact jm_readsHeight_139 F h
set_option maxRecDepth 20000 in
theorem jm_readsHeight_107 {p : Program} {l : Launch} {e : Env} {s : State} {m : MethodId} {args : Array Value} {below : List Frame} {meth : Method} {c : Code} {A : Nat → Prop} {D : va_G} {cA : Nat → ClassId} {h0 : Nat} {q : Nat → Nat} (F : kj_Fx p s m args meth c cX8_readsHeight 6 wsX8_readsHeight RX8 none D (km_T cA) A) {x1 : Int32} {x2 : Int32} {x3 : Int32} {x4 : Int32} {z : km_S} {o : km_S} (h : fm_readsHeight_107 x1 x2 x3 x4 z = some o) : kj_J p l e rm_X8_readsHeight s m args below meth c 0 0 (MQ below (kj_Qv D (km_T cA) A (km_w cA h0 q) o) args s 0 0 A) 6 D A ((km_w cA h0 q) z) 107 [(0, .ref h0), (1, .int x1), (2, .int x2), (3, .int x3), (4, .int x4)] [] := by
  unfold fm_readsHeight_107 at h
  refine kj_aload_n F dX8_readsHeight_107 0 rfl rfl ?_
  refine kj_iload_n F dX8_readsHeight_108 1 rfl rfl ?_
  refine kj_iload_n F dX8_readsHeight_109 2 rfl rfl ?_
  refine kj_iconst F dX8_readsHeight_110 (v := 1) (by decide) ?_
  refine kj_iadd F dX8_readsHeight_111 ?_
  refine kj_cVi (As := [.int x1, .int (x2 + (1 : Int32))]) (rest := []) F dX8_readsHeight_112 h (fun o h1 => cm_isToldAt h1) (cwV 2 F.2.2.2.2.1 gX8_readsHeight_X8_isToldAt rfl rfl rfl (by decide +kernel) ⟨Nat.le_of_ble_eq_true rfl, Nat.le_of_ble_eq_true rfl⟩) 0 rfl rfl rfl rfl rfl (Nat.le_of_ble_eq_true rfl) ⟨Nat.zero_le _, Nat.zero_le _⟩ (fun o1 h => ?_)
  refine kj_if_eq F dX8_readsHeight_115 (tgt := 138) (by decide) h (fun hc h => ?_) (fun hc h => ?_)
  · exact jm_readsHeight_138 F h
  · refine kj_iload_n F dX8_readsHeight_118 3 rfl rfl ?_
    refine kj_aload_n F dX8_readsHeight_119 0 rfl rfl ?_
    refine km_get F dX8_readsHeight_120 in_X8_readsHeight 8 (by decide) (by decide +kernel) rfl rfl ?_
    refine kj_iload_n F dX8_readsHeight_123 1 rfl rfl ?_
    refine kj_iload_n F dX8_readsHeight_124 2 rfl rfl ?_
    refine kj_iconst F dX8_readsHeight_125 (v := 1) (by decide) ?_
    refine kj_iadd F dX8_readsHeight_126 ?_
    refine kj_cSip (As := [.int x1, .int (x2 + (1 : Int32))]) (rest := [.ref (q 4), .int x3]) F dX8_readsHeight_127 h (fun o h1 => cm_at (w := (km_w cA h0 q)) h1) (va_cwS 2 F.2.2.2.2.1 gX8_readsHeight_X8_at rfl rfl rfl (by decide +kernel) ⟨Nat.le_of_ble_eq_true rfl, Nat.le_of_ble_eq_true rfl⟩) rfl rfl (Nat.le_of_ble_eq_true rfl) ⟨Nat.zero_le _, Nat.zero_le _⟩ (fun o2 h => ?_)
    refine km_iald F dX8_readsHeight_130 4 (by decide) h (fun v3 h => ?_)
    refine kj_icmp_ge F dX8_readsHeight_131 (tgt := 138) (by decide) h (fun hc h => ?_) (fun hc h => ?_)
    · exact jm_readsHeight_138 F h
    · exact jm_readsHeight_134 F h
set_option maxRecDepth 20000 in
theorem jm_readsHeight_78 {p : Program} {l : Launch} {e : Env} {s : State} {m : MethodId} {args : Array Value} {below : List Frame} {meth : Method} {c : Code} {A : Nat → Prop} {D : va_G} {cA : Nat → ClassId} {h0 : Nat} {q : Nat → Nat} (F : kj_Fx p s m args meth c cX8_readsHeight 6 wsX8_readsHeight RX8 none D (km_T cA) A) {x1 : Int32} {x2 : Int32} {x3 : Int32} {t0 : Int32} {z : km_S} {o : km_S} (h : fm_readsHeight_78 x1 x2 x3 t0 z = some o) : kj_J p l e rm_X8_readsHeight s m args below meth c 0 0 (MQ below (kj_Qv D (km_T cA) A (km_w cA h0 q) o) args s 0 0 A) 6 D A ((km_w cA h0 q) z) 78 [(0, .ref h0), (1, .int x1), (2, .int x2), (3, .int x3)] [.int t0] := by
  unfold fm_readsHeight_78 at h
  refine kj_istore F dX8_readsHeight_78 (lv' := [(4, .int t0), (0, .ref h0), (1, .int x1), (2, .int x2), (3, .int x3)]) (by decide) rfl ?_
  refine kj_aload_n F dX8_readsHeight_80 1 rfl rfl ?_
  refine kj_iload_n F dX8_readsHeight_81 2 rfl rfl ?_
  refine kj_iconst F dX8_readsHeight_82 (v := 1) (by decide) ?_
  refine kj_iadd F dX8_readsHeight_83 ?_
  refine kj_iload_n F dX8_readsHeight_84 3 rfl rfl ?_
  refine kj_cVi (As := [.int (x1 + (1 : Int32)), .int x2]) (rest := []) F dX8_readsHeight_85 h (fun o h1 => cm_isToldAt h1) (cwV 2 F.2.2.2.2.1 gX8_readsHeight_X8_isToldAt rfl rfl rfl (by decide +kernel) ⟨Nat.le_of_ble_eq_true rfl, Nat.le_of_ble_eq_true rfl⟩) 0 rfl rfl rfl rfl rfl (Nat.le_of_ble_eq_true rfl) ⟨Nat.zero_le _, Nat.zero_le _⟩ (fun o1 h => ?_)
  refine kj_if_eq F dX8_readsHeight_88 (tgt := 107) (by decide) h (fun hc h => ?_) (fun hc h => ?_)
  · refine kj_J.sub [1, 2, 3, 4, 0] rfl ?_
    exact jm_readsHeight_107 F h
  · refine kj_iload_n F dX8_readsHeight_91 4 rfl rfl ?_
    refine kj_aload_n F dX8_readsHeight_92 1 rfl rfl ?_
    refine km_get F dX8_readsHeight_93 in_X8_readsHeight 8 (by decide) (by decide +kernel) rfl rfl ?_
    refine kj_iload_n F dX8_readsHeight_96 2 rfl rfl ?_
    refine kj_iconst F dX8_readsHeight_97 (v := 1) (by decide) ?_
    refine kj_iadd F dX8_readsHeight_98 ?_
    refine kj_iload_n F dX8_readsHeight_99 3 rfl rfl ?_
    refine kj_cSip (As := [.int (x1 + (1 : Int32)), .int x2]) (rest := [.ref (q 4), .int x3]) F dX8_readsHeight_100 h (fun o h1 => cm_at (w := (km_w cA h0 q)) h1) (va_cwS 2 F.2.2.2.2.1 gX8_readsHeight_X8_at rfl rfl rfl (by decide +kernel) ⟨Nat.le_of_ble_eq_true rfl, Nat.le_of_ble_eq_true rfl⟩) rfl rfl (Nat.le_of_ble_eq_true rfl) ⟨Nat.zero_le _, Nat.zero_le _⟩ (fun o2 h => ?_)
    refine km_iald F dX8_readsHeight_103 4 (by decide) h (fun v3 h => ?_)
    refine kj_icmp_lt F dX8_readsHeight_104 (tgt := 134) (by decide) h (fun hc h => ?_) (fun hc h => ?_)
    · refine kj_J.sub [1, 2, 3, 4, 0] rfl ?_
      exact jm_readsHeight_134 F h
    · refine kj_J.sub [1, 2, 3, 4, 0] rfl ?_
      exact jm_readsHeight_107 F h
set_option maxRecDepth 20000 in
theorem jm_readsHeight_77 {p : Program} {l : Launch} {e : Env} {s : State} {m : MethodId} {args : Array Value} {below : List Frame} {meth : Method} {c : Code} {A : Nat → Prop} {D : va_G} {cA : Nat → ClassId} {h0 : Nat} {q : Nat → Nat} (F : kj_Fx p s m args meth c cX8_readsHeight 6 wsX8_readsHeight RX8 none D (km_T cA) A) {x1 : Int32} {x2 : Int32} {x3 : Int32} {z : km_S} {o : km_S} (h : fm_readsHeight_77 x1 x2 x3 z = some o) : kj_J p l e rm_X8_readsHeight s m args below meth c 0 0 (MQ below (kj_Qv D (km_T cA) A (km_w cA h0 q) o) args s 0 0 A) 6 D A ((km_w cA h0 q) z) 77 [(0, .ref h0), (1, .int x1), (2, .int x2), (3, .int x3)] [] := by
  unfold fm_readsHeight_77 at h
  refine kj_iconst F dX8_readsHeight_77 (v := 0) (by decide) ?_
  exact jm_readsHeight_78 F h
set_option maxRecDepth 20000 in
theorem jm_readsHeight_73 {p : Program} {l : Launch} {e : Env} {s : State} {m : MethodId} {args : Array Value} {below : List Frame} {meth : Method} {c : Code} {A : Nat → Prop} {D : va_G} {cA : Nat → ClassId} {h0 : Nat} {q : Nat → Nat} (F : kj_Fx p s m args meth c cX8_readsHeight 6 wsX8_readsHeight RX8 none D (km_T cA) A) {x1 : Int32} {x2 : Int32} {x3 : Int32} {z : km_S} {o : km_S} (h : fm_readsHeight_73 x1 x2 x3 z = some o) : kj_J p l e rm_X8_readsHeight s m args below meth c 0 0 (MQ below (kj_Qv D (km_T cA) A (km_w cA h0 q) o) args s 0 0 A) 6 D A ((km_w cA h0 q) z) 73 [(0, .ref h0), (1, .int x1), (2, .int x2), (3, .int x3)] [] := by
  unfold fm_readsHeight_73 at h
  refine kj_iconst F dX8_readsHeight_73 (v := 1) (by decide) ?_
  refine kj_goto F dX8_readsHeight_74 (tgt := 78) (by decide) ?_
  exact jm_readsHeight_78 F h
set_option maxRecDepth 20000 in
theorem jm_readsHeight_46 {p : Program} {l : Launch} {e : Env} {s : State} {m : MethodId} {args : Array Value} {below : List Frame} {meth : Method} {c : Code} {A : Nat → Prop} {D : va_G} {cA : Nat → ClassId} {h0 : Nat} {q : Nat → Nat} (F : kj_Fx p s m args meth c cX8_readsHeight 6 wsX8_readsHeight RX8 none D (km_T cA) A) {x1 : Int32} {x2 : Int32} {x3 : Int32} {z : km_S} {o : km_S} (h : fm_readsHeight_46 x1 x2 x3 z = some o) : kj_J p l e rm_X8_readsHeight s m args below meth c 0 0 (MQ below (kj_Qv D (km_T cA) A (km_w cA h0 q) o) args s 0 0 A) 6 D A ((km_w cA h0 q) z) 46 [(0, .ref h0), (1, .int x1), (2, .int x2), (3, .int x3)] [] := by
  unfold fm_readsHeight_46 at h
  refine kj_aload_n F dX8_readsHeight_46 0 rfl rfl ?_
  refine kj_iload_n F dX8_readsHeight_47 1 rfl rfl ?_
  refine kj_iload_n F dX8_readsHeight_48 2 rfl rfl ?_
  refine kj_iconst F dX8_readsHeight_49 (v := 1) (by decide) ?_
  refine kj_isub F dX8_readsHeight_50 ?_
  refine kj_cVi (As := [.int x1, .int (x2 - (1 : Int32))]) (rest := []) F dX8_readsHeight_51 h (fun o h1 => cm_isToldAt h1) (cwV 2 F.2.2.2.2.1 gX8_readsHeight_X8_isToldAt rfl rfl rfl (by decide +kernel) ⟨Nat.le_of_ble_eq_true rfl, Nat.le_of_ble_eq_true rfl⟩) 0 rfl rfl rfl rfl rfl (Nat.le_of_ble_eq_true rfl) ⟨Nat.zero_le _, Nat.zero_le _⟩ (fun o1 h => ?_)
  refine kj_if_eq F dX8_readsHeight_54 (tgt := 77) (by decide) h (fun hc h => ?_) (fun hc h => ?_)
  · exact jm_readsHeight_77 F h
  · refine kj_iload_n F dX8_readsHeight_57 3 rfl rfl ?_
    refine kj_aload_n F dX8_readsHeight_58 0 rfl rfl ?_
    refine km_get F dX8_readsHeight_59 in_X8_readsHeight 8 (by decide) (by decide +kernel) rfl rfl ?_
    refine kj_iload_n F dX8_readsHeight_62 1 rfl rfl ?_
    refine kj_iload_n F dX8_readsHeight_63 2 rfl rfl ?_
    refine kj_iconst F dX8_readsHeight_64 (v := 1) (by decide) ?_
    refine kj_isub F dX8_readsHeight_65 ?_
    refine kj_cSip (As := [.int x1, .int (x2 - (1 : Int32))]) (rest := [.ref (q 4), .int x3]) F dX8_readsHeight_66 h (fun o h1 => cm_at (w := (km_w cA h0 q)) h1) (va_cwS 2 F.2.2.2.2.1 gX8_readsHeight_X8_at rfl rfl rfl (by decide +kernel) ⟨Nat.le_of_ble_eq_true rfl, Nat.le_of_ble_eq_true rfl⟩) rfl rfl (Nat.le_of_ble_eq_true rfl) ⟨Nat.zero_le _, Nat.zero_le _⟩ (fun o2 h => ?_)
    refine km_iald F dX8_readsHeight_69 4 (by decide) h (fun v3 h => ?_)
    refine kj_icmp_le F dX8_readsHeight_70 (tgt := 77) (by decide) h (fun hc h => ?_) (fun hc h => ?_)
    · exact jm_readsHeight_77 F h
    · exact jm_readsHeight_73 F h
set_option maxRecDepth 20000 in
theorem jm_readsHeight {p : Program} {l : Launch} {e : Env} {s : State} {m : MethodId} {args : Array Value} {below : List Frame} {meth : Method} {c : Code} {A : Nat → Prop} {D : va_G} {cA : Nat → ClassId} {h0 : Nat} {q : Nat → Nat} (F : kj_Fx p s m args meth c cX8_readsHeight 6 wsX8_readsHeight RX8 none D (km_T cA) A) {x1 : Int32} {x2 : Int32} {z : km_S} {o : km_S} (h : fm_readsHeight x1 x2 z = some o) : kj_J p l e rm_X8_readsHeight s m args below meth c 0 0 (MQ below (kj_Qv D (km_T cA) A (km_w cA h0 q) o) args s 0 0 A) 6 D A ((km_w cA h0 q) z) 0 [(0, .ref h0), (1, .int x1), (2, .int x2)] [] := by
  unfold fm_readsHeight at h
  refine kj_aload_n F dX8_readsHeight_0 0 rfl rfl ?_
  refine kj_iconst F dX8_readsHeight_1 (v := 0) (by decide) ?_
  refine kj_aload_n F dX8_readsHeight_2 0 rfl rfl ?_
  refine km_get F dX8_readsHeight_3 in_X8_readsHeight 8 (by decide) (by decide +kernel) rfl rfl ?_
  refine kj_iconst F dX8_readsHeight_6 (v := 3) (by decide) ?_
  refine km_iald F dX8_readsHeight_7 4 (by decide) h (fun v1 h => ?_)
  refine kj_cVi (As := [.int (0 : Int32), .int v1]) (rest := []) F dX8_readsHeight_8 h (fun o h1 => cm_digit h1) (cwV 2 F.2.2.2.2.1 gX8_readsHeight_X8_digit rfl rfl rfl (by decide +kernel) ⟨Nat.le_of_ble_eq_true rfl, Nat.le_of_ble_eq_true rfl⟩) 0 rfl rfl rfl rfl rfl (Nat.le_of_ble_eq_true rfl) ⟨Nat.zero_le _, Nat.zero_le _⟩ (fun o2 h => ?_)
  refine kj_istore_n F dX8_readsHeight_11 (lv' := [(3, .int (o2.1)), (0, .ref h0), (1, .int x1), (2, .int x2)]) rfl (by decide) rfl ?_
  refine kj_aload_n F dX8_readsHeight_12 1 rfl rfl ?_
  refine km_get F dX8_readsHeight_13 in_X8_readsHeight 11 (by decide) (by decide +kernel) rfl rfl ?_
  refine kj_if_ne F dX8_readsHeight_16 (tgt := 156) (by decide) h (fun hc h => ?_) (fun hc h => ?_)
  · refine kj_aload_n F dX8_readsHeight_19 1 rfl rfl ?_
    refine kj_iload_n F dX8_readsHeight_20 2 rfl rfl ?_
    refine kj_iconst F dX8_readsHeight_21 (v := 1) (by decide) ?_
    refine kj_isub F dX8_readsHeight_22 ?_
    refine kj_iload_n F dX8_readsHeight_23 3 rfl rfl ?_
    refine kj_cVi (As := [.int (x1 - (1 : Int32)), .int x2]) (rest := []) F dX8_readsHeight_24 h (fun o h1 => cm_isToldAt h1) (cwV 2 F.2.2.2.2.1 gX8_readsHeight_X8_isToldAt rfl rfl rfl (by decide +kernel) ⟨Nat.le_of_ble_eq_true rfl, Nat.le_of_ble_eq_true rfl⟩) 0 rfl rfl rfl rfl rfl (Nat.le_of_ble_eq_true rfl) ⟨Nat.zero_le _, Nat.zero_le _⟩ (fun o3 h => ?_)
    refine kj_if_eq F dX8_readsHeight_27 (tgt := 46) (by decide) h (fun hc h => ?_) (fun hc h => ?_)
    · refine kj_J.sub [1, 2, 3, 0] rfl ?_
      exact jm_readsHeight_46 F h
    · refine kj_iload_n F dX8_readsHeight_30 0 rfl rfl ?_
      refine kj_aload_n F dX8_readsHeight_31 1 rfl rfl ?_
      refine km_get F dX8_readsHeight_32 in_X8_readsHeight 8 (by decide) (by decide +kernel) rfl rfl ?_
      refine kj_iload_n F dX8_readsHeight_35 2 rfl rfl ?_
      refine kj_iconst F dX8_readsHeight_36 (v := 1) (by decide) ?_
      refine kj_isub F dX8_readsHeight_37 ?_
      refine kj_iload_n F dX8_readsHeight_38 3 rfl rfl ?_
      refine kj_cSip (As := [.int (x1 - (1 : Int32)), .int x2]) (rest := [.ref (q 4), .int (o2.1)]) F dX8_readsHeight_39 h (fun o h1 => cm_at (w := (km_w cA h0 q)) h1) (va_cwS 2 F.2.2.2.2.1 gX8_readsHeight_X8_at rfl rfl rfl (by decide +kernel) ⟨Nat.le_of_ble_eq_true rfl, Nat.le_of_ble_eq_true rfl⟩) rfl rfl (Nat.le_of_ble_eq_true rfl) ⟨Nat.zero_le _, Nat.zero_le _⟩ (fun o4 h => ?_)
      refine km_iald F dX8_readsHeight_42 4 (by decide) h (fun v5 h => ?_)
      refine kj_icmp_gt F dX8_readsHeight_43 (tgt := 73) (by decide) h (fun hc h => ?_) (fun hc h => ?_)
      · refine kj_J.sub [1, 2, 3, 0] rfl ?_
        exact jm_readsHeight_73 F h
      · refine kj_J.sub [1, 2, 3, 0] rfl ?_
        exact jm_readsHeight_46 F h
  · refine kj_J.sub [1, 2, 3, 0] rfl ?_
    exact jm_readsHeight_156 F h
theorem cm_readsHeight {l : Launch} {D : va_G} {cA : Nat → ClassId} {h0 : Nat} {q : Nat → Nat} {x1 : Int32} {x2 : Int32} {z : km_S} {o : km_S} (h : fm_readsHeight x1 x2 z = some o) : kj_Mv l yX8_readsHeight wsX8_readsHeight rm_X8_readsHeight D (km_T cA) (km_w cA h0 q) z [.ref h0, .int x1, .int x2] o :=
  fun sz => kj_start (by decide) rfl (Nat.le_of_ble_eq_true rfl) rfl fun p e s m args below meth c hsz F => jm_readsHeight F h
/-! X8_readsRows -/
abbrev rm_X8_readsRows : Room := { frames := 3, cells := 0, slots := 0, locals := 70 }
theorem in_X8_readsRows : ∀ w ∈ u_ws RX8 TX8 29, w ∈ wsX8_readsRows := by decide +kernel
def fm_readsRows_2 (x1 : Int32) (z : km_S) : Option ((Int32 × km_S) ⊕ km_S) :=
  (km_rd z 4 (1 : Int32)).bind fun v1 =>
  (km_rd z 4 (2 : Int32)).bind fun v2 =>
  if (v1 * v2) ≤ x1 then
  some (.inr z)
  else
  if (z.1 4) = 0 then
  (km_rd z 4 (2 : Int32)).bind fun v3 =>
  if v3 = 0 then none else
  (km_rd z 4 (2 : Int32)).bind fun v4 =>
  if v4 = 0 then none else
  (fm_readsHeight (x1 / v3) (x1 - x1 / v4 * v4) z).bind fun o5 =>
  some (.inl ((x1 + 1), o5))
  else
  some (.inr z)
def lm_readsRows_2 (n : Nat) (x1 : Int32) (z : km_S) : Option km_S :=
  kj_it (fun (s : (Int32 × km_S)) => fm_readsRows_2 (s.1) (s.2)) n (x1, z)
def fm_readsRows (z : km_S) : Option km_S :=
  (lm_readsRows_2 5000 (0 : Int32) z).bind fun r1 =>
  some (r1)
set_option maxRecDepth 20000 in
theorem jm_readsRows_2 {p : Program} {l : Launch} {e : Env} {s : State} {m : MethodId} {args : Array Value} {below : List Frame} {meth : Method} {c : Code} {A : Nat → Prop} {D : va_G} {cA : Nat → ClassId} {h0 : Nat} {q : Nat → Nat} {Q : State → Prop} (F : kj_Fx p s m args meth c cX8_readsRows 2 wsX8_readsRows RX8 none D (km_T cA) A) {x1 : Int32} {z : km_S} {o : ((Int32 × km_S) ⊕ km_S)} (h : fm_readsRows_2 x1 z = some o) (kb : ∀ (a0' : Int32) (a1' : km_S), o = .inl (a0', a1') → kj_J p l e rm_X8_readsRows s m args below meth c 0 0 Q 2 D A ((km_w cA h0 q) a1') 2 [(0, .ref h0), (1, .int a0')] []) (ke0 : ∀ (a0' : km_S), o = .inr a0' → kj_J p l e rm_X8_readsRows s m args below meth c 0 0 Q 2 D A ((km_w cA h0 q) a0') 52 [] []) : kj_J p l e rm_X8_readsRows s m args below meth c 0 0 Q 2 D A ((km_w cA h0 q) z) 2 [(0, .ref h0), (1, .int x1)] [] := by
  unfold fm_readsRows_2 at h
  refine kj_iload_n F dX8_readsRows_2 1 rfl rfl ?_
  refine kj_aload_n F dX8_readsRows_3 0 rfl rfl ?_
  refine km_get F dX8_readsRows_4 in_X8_readsRows 8 (by decide) (by decide +kernel) rfl rfl ?_
  refine kj_iconst F dX8_readsRows_7 (v := 1) (by decide) ?_
  refine km_iald F dX8_readsRows_8 4 (by decide) h (fun v1 h => ?_)
  refine kj_aload_n F dX8_readsRows_9 0 rfl rfl ?_
  refine km_get F dX8_readsRows_10 in_X8_readsRows 8 (by decide) (by decide +kernel) rfl rfl ?_
  refine kj_iconst F dX8_readsRows_13 (v := 2) (by decide) ?_
  refine km_iald F dX8_readsRows_14 4 (by decide) h (fun v2 h => ?_)
  refine kj_imul F dX8_readsRows_15 ?_
  refine kj_icmp_ge F dX8_readsRows_16 (tgt := 52) (by decide) h (fun hc h => ?_) (fun hc h => ?_)
  · refine kj_J.sub [] rfl ?_
    exact ke0 z (Option.some.inj h).symm
  · refine kj_aload_n F dX8_readsRows_19 0 rfl rfl ?_
    refine km_get F dX8_readsRows_20 in_X8_readsRows 11 (by decide) (by decide +kernel) rfl rfl ?_
    refine kj_if_ne F dX8_readsRows_23 (tgt := 52) (by decide) h (fun hc h => ?_) (fun hc h => ?_)
    · refine kj_aload_n F dX8_readsRows_26 0 rfl rfl ?_
      refine kj_iload_n F dX8_readsRows_27 1 rfl rfl ?_
      refine kj_aload_n F dX8_readsRows_28 0 rfl rfl ?_
      refine km_get F dX8_readsRows_29 in_X8_readsRows 8 (by decide) (by decide +kernel) rfl rfl ?_
      refine kj_iconst F dX8_readsRows_32 (v := 2) (by decide) ?_
      refine km_iald F dX8_readsRows_33 4 (by decide) h (fun v3 h => ?_)
      refine kj_idiv F dX8_readsRows_34 h (fun h => ?_)
      refine kj_iload_n F dX8_readsRows_35 1 rfl rfl ?_
      refine kj_aload_n F dX8_readsRows_36 0 rfl rfl ?_
      refine km_get F dX8_readsRows_37 in_X8_readsRows 8 (by decide) (by decide +kernel) rfl rfl ?_
      refine kj_iconst F dX8_readsRows_40 (v := 2) (by decide) ?_
      refine km_iald F dX8_readsRows_41 4 (by decide) h (fun v4 h => ?_)
      refine kj_irem F dX8_readsRows_42 h (fun h => ?_)
      refine kj_cVv (As := [.int (x1 / v3), .int (x1 - x1 / v4 * v4)]) (rest := []) F dX8_readsRows_43 h (fun o h1 => cm_readsHeight h1) (cwV 2 F.2.2.2.2.1 gX8_readsRows_X8_readsHeight rfl rfl rfl (by decide +kernel) ⟨Nat.le_of_ble_eq_true rfl, Nat.le_of_ble_eq_true rfl⟩) 0 rfl rfl rfl rfl rfl (Nat.le_of_ble_eq_true rfl) ⟨Nat.zero_le _, Nat.zero_le _⟩ (fun o5 h => ?_)
      refine kj_iinc F dX8_readsRows_46 1 rfl (v := 1) (by decide) (by decide) (lv' := [(1, .int (x1 + 1)), (0, .ref h0)]) rfl ?_
      refine kj_goto F dX8_readsRows_49 (tgt := 2) (by decide) ?_
      refine kj_J.sub [1, 0] rfl ?_
      exact kb (x1 + 1) o5 (Option.some.inj h).symm
    · refine kj_J.sub [] rfl ?_
      exact ke0 z (Option.some.inj h).symm
theorem jlm_readsRows_2 {p : Program} {l : Launch} {e : Env} {s : State} {m : MethodId} {args : Array Value} {below : List Frame} {meth : Method} {c : Code} {A : Nat → Prop} {D : va_G} {cA : Nat → ClassId} {h0 : Nat} {q : Nat → Nat} {Q : State → Prop} (F : kj_Fx p s m args meth c cX8_readsRows 2 wsX8_readsRows RX8 none D (km_T cA) A) {n : Nat} {x1 : Int32} {z : km_S} {r : km_S} (h : lm_readsRows_2 n x1 z = some r) (ke : kj_J p l e rm_X8_readsRows s m args below meth c 0 0 Q 2 D A ((km_w cA h0 q) (r)) 52 [] []) : kj_J p l e rm_X8_readsRows s m args below meth c 0 0 Q 2 D A ((km_w cA h0 q) z) 2 [(0, .ref h0), (1, .int x1)] [] :=
  kj_it_J (Wh := fun (u : (Int32 × km_S)) => kj_J p l e rm_X8_readsRows s m args below meth c 0 0 Q 2 D A ((km_w cA h0 q) (u.2)) 2 [(0, .ref h0), (1, .int (u.1))] []) (We := fun r => kj_J p l e rm_X8_readsRows s m args below meth c 0 0 Q 2 D A ((km_w cA h0 q) (r)) 52 [] []) (fun u o h kb ke => jm_readsRows_2 F h (fun a0' a1' e => kb (a0', a1') e) (fun a0' e => ke a0' e)) n (x1, z) r h ke
set_option maxRecDepth 20000 in
theorem jm_readsRows {p : Program} {l : Launch} {e : Env} {s : State} {m : MethodId} {args : Array Value} {below : List Frame} {meth : Method} {c : Code} {A : Nat → Prop} {D : va_G} {cA : Nat → ClassId} {h0 : Nat} {q : Nat → Nat} (F : kj_Fx p s m args meth c cX8_readsRows 2 wsX8_readsRows RX8 none D (km_T cA) A) {z : km_S} {o : km_S} (h : fm_readsRows z = some o) : kj_J p l e rm_X8_readsRows s m args below meth c 0 0 (MQ below (kj_Qv D (km_T cA) A (km_w cA h0 q) o) args s 0 0 A) 2 D A ((km_w cA h0 q) z) 0 [(0, .ref h0)] [] := by
  unfold fm_readsRows at h
  refine kj_iconst F dX8_readsRows_0 (v := 0) (by decide) ?_
  refine kj_istore_n F dX8_readsRows_1 (lv' := [(1, .int (0 : Int32)), (0, .ref h0)]) rfl (by decide) rfl ?_
  refine kj_J.sub [1, 0] rfl ?_
  refine kj_bn h (fun r1 h1 h => ?_)
  refine jlm_readsRows_2 F h1 ?_
  exact kj_vret F dX8_readsRows_52 h
theorem cm_readsRows {l : Launch} {D : va_G} {cA : Nat → ClassId} {h0 : Nat} {q : Nat → Nat} {z : km_S} {o : km_S} (h : fm_readsRows z = some o) : kj_Mv l yX8_readsRows wsX8_readsRows rm_X8_readsRows D (km_T cA) (km_w cA h0 q) z [.ref h0] o :=
  fun sz => kj_start (by decide) rfl (Nat.le_of_ble_eq_true rfl) rfl fun p e s m args below meth c hsz F => jm_readsRows F h
/-! X8_readsDiagonals -/
abbrev rm_X8_readsDiagonals : Room := { frames := 3, cells := 0, slots := 0, locals := 70 }
theorem in_X8_readsDiagonals : ∀ w ∈ u_ws RX8 TX8 29, w ∈ wsX8_readsDiagonals := by decide +kernel
def fm_readsDiagonals_64 (x1 : Int32) (x2 : Int32) (z : km_S) : Option ((Int32 × Int32 × km_S) ⊕ (Int32 × km_S)) :=
  some (.inl (x1, (x2 + 1), z))
def fm_readsDiagonals_21 (x1 : Int32) (x2 : Int32) (z : km_S) : Option ((Int32 × Int32 × km_S) ⊕ (Int32 × km_S)) :=
  (km_rd z 4 (1 : Int32)).bind fun v1 =>
  if v1 ≤ x2 then
  some (.inr (x1, z))
  else
  (km_rd z 4 (2 : Int32)).bind fun v2 =>
  (fm_in (x2 + x1) (0 : Int32) (v2 - (1 : Int32))).bind fun o3 =>
  if o3 = 0 then
  fm_readsDiagonals_64 x1 x2 z
  else
  if (z.1 4) = 0 then
  (fm_readsHeight x2 (x2 + x1) z).bind fun o4 =>
  fm_readsDiagonals_64 x1 x2 o4
  else
  fm_readsDiagonals_64 x1 x2 z
def lm_readsDiagonals_21 (n : Nat) (x1 : Int32) (x2 : Int32) (z : km_S) : Option (Int32 × km_S) :=
  kj_it (fun (s : (Int32 × Int32 × km_S)) => fm_readsDiagonals_21 (s.1) (s.2.1) (s.2.2)) n (x1, x2, z)
def fm_readsDiagonals_9 (x1 : Int32) (z : km_S) : Option ((Int32 × km_S) ⊕ km_S) :=
  (km_rd z 4 (2 : Int32)).bind fun v1 =>
  if v1 ≤ x1 then
  some (.inr z)
  else
  (lm_readsDiagonals_21 5000 x1 (0 : Int32) z).bind fun r2 =>
  some (.inl (((r2.1) + 1), (r2.2)))
def lm_readsDiagonals_9 (n : Nat) (x1 : Int32) (z : km_S) : Option km_S :=
  kj_it (fun (s : (Int32 × km_S)) => fm_readsDiagonals_9 (s.1) (s.2)) n (x1, z)
def fm_readsDiagonals (z : km_S) : Option km_S :=
  (km_rd z 4 (1 : Int32)).bind fun v1 =>
  (lm_readsDiagonals_9 5000 ((1 : Int32) - v1) z).bind fun r2 =>
  some (r2)
set_option maxRecDepth 20000 in
theorem jm_readsDiagonals_64 {p : Program} {l : Launch} {e : Env} {s : State} {m : MethodId} {args : Array Value} {below : List Frame} {meth : Method} {c : Code} {A : Nat → Prop} {D : va_G} {cA : Nat → ClassId} {h0 : Nat} {q : Nat → Nat} {Q : State → Prop} (F : kj_Fx p s m args meth c cX8_readsDiagonals 3 wsX8_readsDiagonals RX8 none D (km_T cA) A) {x1 : Int32} {x2 : Int32} {z : km_S} {o : ((Int32 × Int32 × km_S) ⊕ (Int32 × km_S))} (h : fm_readsDiagonals_64 x1 x2 z = some o) (kb : ∀ (a0' : Int32) (a1' : Int32) (a2' : km_S), o = .inl (a0', a1', a2') → kj_J p l e rm_X8_readsDiagonals s m args below meth c 0 0 Q 3 D A ((km_w cA h0 q) a2') 21 [(0, .ref h0), (1, .int a0'), (2, .int a1')] []) (ke0 : ∀ (a0' : Int32) (a1' : km_S), o = .inr (a0', a1') → kj_J p l e rm_X8_readsDiagonals s m args below meth c 0 0 Q 3 D A ((km_w cA h0 q) a1') 70 [(0, .ref h0), (1, .int a0')] []) : kj_J p l e rm_X8_readsDiagonals s m args below meth c 0 0 Q 3 D A ((km_w cA h0 q) z) 64 [(0, .ref h0), (1, .int x1), (2, .int x2)] [] := by
  unfold fm_readsDiagonals_64 at h
  refine kj_iinc F dX8_readsDiagonals_64 2 rfl (v := 1) (by decide) (by decide) (lv' := [(2, .int (x2 + 1)), (0, .ref h0), (1, .int x1)]) rfl ?_
  refine kj_goto F dX8_readsDiagonals_67 (tgt := 21) (by decide) ?_
  refine kj_J.sub [1, 2, 0] rfl ?_
  exact kb x1 (x2 + 1) z (Option.some.inj h).symm
set_option maxRecDepth 20000 in
theorem jm_readsDiagonals_21 {p : Program} {l : Launch} {e : Env} {s : State} {m : MethodId} {args : Array Value} {below : List Frame} {meth : Method} {c : Code} {A : Nat → Prop} {D : va_G} {cA : Nat → ClassId} {h0 : Nat} {q : Nat → Nat} {Q : State → Prop} (F : kj_Fx p s m args meth c cX8_readsDiagonals 3 wsX8_readsDiagonals RX8 none D (km_T cA) A) {x1 : Int32} {x2 : Int32} {z : km_S} {o : ((Int32 × Int32 × km_S) ⊕ (Int32 × km_S))} (h : fm_readsDiagonals_21 x1 x2 z = some o) (kb : ∀ (a0' : Int32) (a1' : Int32) (a2' : km_S), o = .inl (a0', a1', a2') → kj_J p l e rm_X8_readsDiagonals s m args below meth c 0 0 Q 3 D A ((km_w cA h0 q) a2') 21 [(0, .ref h0), (1, .int a0'), (2, .int a1')] []) (ke0 : ∀ (a0' : Int32) (a1' : km_S), o = .inr (a0', a1') → kj_J p l e rm_X8_readsDiagonals s m args below meth c 0 0 Q 3 D A ((km_w cA h0 q) a1') 70 [(0, .ref h0), (1, .int a0')] []) : kj_J p l e rm_X8_readsDiagonals s m args below meth c 0 0 Q 3 D A ((km_w cA h0 q) z) 21 [(0, .ref h0), (1, .int x1), (2, .int x2)] [] := by
  unfold fm_readsDiagonals_21 at h
  refine kj_iload_n F dX8_readsDiagonals_21 2 rfl rfl ?_
  refine kj_aload_n F dX8_readsDiagonals_22 0 rfl rfl ?_
  refine km_get F dX8_readsDiagonals_23 in_X8_readsDiagonals 8 (by decide) (by decide +kernel) rfl rfl ?_
  refine kj_iconst F dX8_readsDiagonals_26 (v := 1) (by decide) ?_
  refine km_iald F dX8_readsDiagonals_27 4 (by decide) h (fun v1 h => ?_)
  refine kj_icmp_ge F dX8_readsDiagonals_28 (tgt := 70) (by decide) h (fun hc h => ?_) (fun hc h => ?_)
  · refine kj_J.sub [0, 1] rfl ?_
    exact ke0 x1 z (Option.some.inj h).symm
  · refine kj_iload_n F dX8_readsDiagonals_31 2 rfl rfl ?_
    refine kj_iload_n F dX8_readsDiagonals_32 1 rfl rfl ?_
    refine kj_iadd F dX8_readsDiagonals_33 ?_
    refine kj_iconst F dX8_readsDiagonals_34 (v := 0) (by decide) ?_
    refine kj_aload_n F dX8_readsDiagonals_35 0 rfl rfl ?_
    refine km_get F dX8_readsDiagonals_36 in_X8_readsDiagonals 8 (by decide) (by decide +kernel) rfl rfl ?_
    refine kj_iconst F dX8_readsDiagonals_39 (v := 2) (by decide) ?_
    refine km_iald F dX8_readsDiagonals_40 4 (by decide) h (fun v2 h => ?_)
    refine kj_iconst F dX8_readsDiagonals_41 (v := 1) (by decide) ?_
    refine kj_isub F dX8_readsDiagonals_42 ?_
    refine kj_cSip (As := [.int (x2 + x1), .int (0 : Int32), .int (v2 - (1 : Int32))]) (rest := []) F dX8_readsDiagonals_43 h (fun o h1 => cm_in (w := (km_w cA h0 q)) h1) (va_cwS 3 F.2.2.2.2.1 gX8_readsDiagonals_X8_in rfl rfl rfl (by decide +kernel) ⟨Nat.le_of_ble_eq_true rfl, Nat.le_of_ble_eq_true rfl⟩) rfl rfl (Nat.le_of_ble_eq_true rfl) ⟨Nat.zero_le _, Nat.zero_le _⟩ (fun o3 h => ?_)
    refine kj_if_eq F dX8_readsDiagonals_46 (tgt := 64) (by decide) h (fun hc h => ?_) (fun hc h => ?_)
    · exact jm_readsDiagonals_64 F h kb ke0
    · refine kj_aload_n F dX8_readsDiagonals_49 0 rfl rfl ?_
      refine km_get F dX8_readsDiagonals_50 in_X8_readsDiagonals 11 (by decide) (by decide +kernel) rfl rfl ?_
      refine kj_if_ne F dX8_readsDiagonals_53 (tgt := 64) (by decide) h (fun hc h => ?_) (fun hc h => ?_)
      · refine kj_aload_n F dX8_readsDiagonals_56 0 rfl rfl ?_
        refine kj_iload_n F dX8_readsDiagonals_57 2 rfl rfl ?_
        refine kj_iload_n F dX8_readsDiagonals_58 2 rfl rfl ?_
        refine kj_iload_n F dX8_readsDiagonals_59 1 rfl rfl ?_
        refine kj_iadd F dX8_readsDiagonals_60 ?_
        refine kj_cVv (As := [.int x2, .int (x2 + x1)]) (rest := []) F dX8_readsDiagonals_61 h (fun o h1 => cm_readsHeight h1) (cwV 2 F.2.2.2.2.1 gX8_readsDiagonals_X8_readsHeight rfl rfl rfl (by decide +kernel) ⟨Nat.le_of_ble_eq_true rfl, Nat.le_of_ble_eq_true rfl⟩) 0 rfl rfl rfl rfl rfl (Nat.le_of_ble_eq_true rfl) ⟨Nat.zero_le _, Nat.zero_le _⟩ (fun o4 h => ?_)
        exact jm_readsDiagonals_64 F h kb ke0
      · exact jm_readsDiagonals_64 F h kb ke0
theorem jlm_readsDiagonals_21 {p : Program} {l : Launch} {e : Env} {s : State} {m : MethodId} {args : Array Value} {below : List Frame} {meth : Method} {c : Code} {A : Nat → Prop} {D : va_G} {cA : Nat → ClassId} {h0 : Nat} {q : Nat → Nat} {Q : State → Prop} (F : kj_Fx p s m args meth c cX8_readsDiagonals 3 wsX8_readsDiagonals RX8 none D (km_T cA) A) {n : Nat} {x1 : Int32} {x2 : Int32} {z : km_S} {r : (Int32 × km_S)} (h : lm_readsDiagonals_21 n x1 x2 z = some r) (ke : kj_J p l e rm_X8_readsDiagonals s m args below meth c 0 0 Q 3 D A ((km_w cA h0 q) (r.2)) 70 [(0, .ref h0), (1, .int (r.1))] []) : kj_J p l e rm_X8_readsDiagonals s m args below meth c 0 0 Q 3 D A ((km_w cA h0 q) z) 21 [(0, .ref h0), (1, .int x1), (2, .int x2)] [] :=
  kj_it_J (Wh := fun (u : (Int32 × Int32 × km_S)) => kj_J p l e rm_X8_readsDiagonals s m args below meth c 0 0 Q 3 D A ((km_w cA h0 q) (u.2.2)) 21 [(0, .ref h0), (1, .int (u.1)), (2, .int (u.2.1))] []) (We := fun r => kj_J p l e rm_X8_readsDiagonals s m args below meth c 0 0 Q 3 D A ((km_w cA h0 q) (r.2)) 70 [(0, .ref h0), (1, .int (r.1))] []) (fun u o h kb ke => jm_readsDiagonals_21 F h (fun a0' a1' a2' e => kb (a0', a1', a2') e) (fun a0' a1' e => ke (a0', a1') e)) n (x1, x2, z) r h ke
set_option maxRecDepth 20000 in
theorem jm_readsDiagonals_9 {p : Program} {l : Launch} {e : Env} {s : State} {m : MethodId} {args : Array Value} {below : List Frame} {meth : Method} {c : Code} {A : Nat → Prop} {D : va_G} {cA : Nat → ClassId} {h0 : Nat} {q : Nat → Nat} {Q : State → Prop} (F : kj_Fx p s m args meth c cX8_readsDiagonals 3 wsX8_readsDiagonals RX8 none D (km_T cA) A) {x1 : Int32} {z : km_S} {o : ((Int32 × km_S) ⊕ km_S)} (h : fm_readsDiagonals_9 x1 z = some o) (kb : ∀ (a0' : Int32) (a1' : km_S), o = .inl (a0', a1') → kj_J p l e rm_X8_readsDiagonals s m args below meth c 0 0 Q 3 D A ((km_w cA h0 q) a1') 9 [(0, .ref h0), (1, .int a0')] []) (ke0 : ∀ (a0' : km_S), o = .inr a0' → kj_J p l e rm_X8_readsDiagonals s m args below meth c 0 0 Q 3 D A ((km_w cA h0 q) a0') 76 [] []) : kj_J p l e rm_X8_readsDiagonals s m args below meth c 0 0 Q 3 D A ((km_w cA h0 q) z) 9 [(0, .ref h0), (1, .int x1)] [] := by
  unfold fm_readsDiagonals_9 at h
  refine kj_iload_n F dX8_readsDiagonals_9 1 rfl rfl ?_
  refine kj_aload_n F dX8_readsDiagonals_10 0 rfl rfl ?_
  refine km_get F dX8_readsDiagonals_11 in_X8_readsDiagonals 8 (by decide) (by decide +kernel) rfl rfl ?_
  refine kj_iconst F dX8_readsDiagonals_14 (v := 2) (by decide) ?_
  refine km_iald F dX8_readsDiagonals_15 4 (by decide) h (fun v1 h => ?_)
  refine kj_icmp_ge F dX8_readsDiagonals_16 (tgt := 76) (by decide) h (fun hc h => ?_) (fun hc h => ?_)
  · refine kj_J.sub [] rfl ?_
    exact ke0 z (Option.some.inj h).symm
  · refine kj_iconst F dX8_readsDiagonals_19 (v := 0) (by decide) ?_
    refine kj_istore_n F dX8_readsDiagonals_20 (lv' := [(2, .int (0 : Int32)), (0, .ref h0), (1, .int x1)]) rfl (by decide) rfl ?_
    refine kj_J.sub [1, 2, 0] rfl ?_
    refine kj_bn h (fun r2 h1 h => ?_)
    refine jlm_readsDiagonals_21 F h1 ?_
    refine kj_iinc F dX8_readsDiagonals_70 1 rfl (v := 1) (by decide) (by decide) (lv' := [(1, .int ((r2.1) + 1)), (0, .ref h0)]) rfl ?_
    refine kj_goto F dX8_readsDiagonals_73 (tgt := 9) (by decide) ?_
    refine kj_J.sub [1, 0] rfl ?_
    exact kb ((r2.1) + 1) (r2.2) (Option.some.inj h).symm
theorem jlm_readsDiagonals_9 {p : Program} {l : Launch} {e : Env} {s : State} {m : MethodId} {args : Array Value} {below : List Frame} {meth : Method} {c : Code} {A : Nat → Prop} {D : va_G} {cA : Nat → ClassId} {h0 : Nat} {q : Nat → Nat} {Q : State → Prop} (F : kj_Fx p s m args meth c cX8_readsDiagonals 3 wsX8_readsDiagonals RX8 none D (km_T cA) A) {n : Nat} {x1 : Int32} {z : km_S} {r : km_S} (h : lm_readsDiagonals_9 n x1 z = some r) (ke : kj_J p l e rm_X8_readsDiagonals s m args below meth c 0 0 Q 3 D A ((km_w cA h0 q) (r)) 76 [] []) : kj_J p l e rm_X8_readsDiagonals s m args below meth c 0 0 Q 3 D A ((km_w cA h0 q) z) 9 [(0, .ref h0), (1, .int x1)] [] :=
  kj_it_J (Wh := fun (u : (Int32 × km_S)) => kj_J p l e rm_X8_readsDiagonals s m args below meth c 0 0 Q 3 D A ((km_w cA h0 q) (u.2)) 9 [(0, .ref h0), (1, .int (u.1))] []) (We := fun r => kj_J p l e rm_X8_readsDiagonals s m args below meth c 0 0 Q 3 D A ((km_w cA h0 q) (r)) 76 [] []) (fun u o h kb ke => jm_readsDiagonals_9 F h (fun a0' a1' e => kb (a0', a1') e) (fun a0' e => ke a0' e)) n (x1, z) r h ke
set_option maxRecDepth 20000 in
theorem jm_readsDiagonals {p : Program} {l : Launch} {e : Env} {s : State} {m : MethodId} {args : Array Value} {below : List Frame} {meth : Method} {c : Code} {A : Nat → Prop} {D : va_G} {cA : Nat → ClassId} {h0 : Nat} {q : Nat → Nat} (F : kj_Fx p s m args meth c cX8_readsDiagonals 3 wsX8_readsDiagonals RX8 none D (km_T cA) A) {z : km_S} {o : km_S} (h : fm_readsDiagonals z = some o) : kj_J p l e rm_X8_readsDiagonals s m args below meth c 0 0 (MQ below (kj_Qv D (km_T cA) A (km_w cA h0 q) o) args s 0 0 A) 3 D A ((km_w cA h0 q) z) 0 [(0, .ref h0)] [] := by
  unfold fm_readsDiagonals at h
  refine kj_iconst F dX8_readsDiagonals_0 (v := 1) (by decide) ?_
  refine kj_aload_n F dX8_readsDiagonals_1 0 rfl rfl ?_
  refine km_get F dX8_readsDiagonals_2 in_X8_readsDiagonals 8 (by decide) (by decide +kernel) rfl rfl ?_
  refine kj_iconst F dX8_readsDiagonals_5 (v := 1) (by decide) ?_
  refine km_iald F dX8_readsDiagonals_6 4 (by decide) h (fun v1 h => ?_)
  refine kj_isub F dX8_readsDiagonals_7 ?_
  refine kj_istore_n F dX8_readsDiagonals_8 (lv' := [(1, .int ((1 : Int32) - v1)), (0, .ref h0)]) rfl (by decide) rfl ?_
  refine kj_J.sub [1, 0] rfl ?_
  refine kj_bn h (fun r2 h1 h => ?_)
  refine jlm_readsDiagonals_9 F h1 ?_
  exact kj_vret F dX8_readsDiagonals_76 h
theorem cm_readsDiagonals {l : Launch} {D : va_G} {cA : Nat → ClassId} {h0 : Nat} {q : Nat → Nat} {z : km_S} {o : km_S} (h : fm_readsDiagonals z = some o) : kj_Mv l yX8_readsDiagonals wsX8_readsDiagonals rm_X8_readsDiagonals D (km_T cA) (km_w cA h0 q) z [.ref h0] o :=
  fun sz => kj_start (by decide) rfl (Nat.le_of_ble_eq_true rfl) rfl fun p e s m args below meth c hsz F => jm_readsDiagonals F h
/-! X8_readsWord -/
abbrev rm_X8_readsWord : Room := { frames := 1, cells := 0, slots := 0, locals := 21 }
theorem in_X8_readsWord : ∀ w ∈ u_ws RX8 TX8 29, w ∈ wsX8_readsWord := by decide +kernel
def fm_readsWord_127 (x1 : Int32) (x2 : Int32) (x3 : Int32) (z : km_S) : Option ((Int32 × Int32 × Int32 × km_S) ⊕ (Int32 × Int32 × km_S)) :=
  (fm_goes z).bind fun o1 =>
  some (.inl (x1, x2, x3, o1))
def fm_readsWord_105 (x1 : Int32) (x2 : Int32) (x3 : Int32) (z : km_S) : Option ((Int32 × Int32 × Int32 × km_S) ⊕ (Int32 × Int32 × km_S)) :=
  (fm_fails (2 : Int32) z).bind fun o1 =>
  fm_readsWord_127 x1 x2 x3 o1
def fm_readsWord_113 (x1 : Int32) (x2 : Int32) (x3 : Int32) (x4 : Int32) (z : km_S) : Option ((Int32 × Int32 × Int32 × km_S) ⊕ (Int32 × Int32 × km_S)) :=
  (fm_at x1 (x2 - (1 : Int32))).bind fun o1 =>
  (km_wr z 4 o1 x4).bind fun z2 =>
  fm_readsWord_127 x1 x2 x3 z2
def fm_readsWord_29 (x1 : Int32) (x2 : Int32) (x3 : Int32) (z : km_S) : Option ((Int32 × Int32 × Int32 × km_S) ⊕ (Int32 × Int32 × km_S)) :=
  (fm_here z).bind fun o1 =>
  if (o1.1) = (110 : Int32) then
  (km_rd (o1.2) 4 (3 : Int32)).bind fun v2 =>
  if (x3 + 1) ≤ v2 then
  fm_readsWord_127 x1 x2 (x3 + 1) (o1.2)
  else
  (fm_fails (2 : Int32) (o1.2)).bind fun o3 =>
  fm_readsWord_127 x1 x2 (x3 + 1) o3
  else
  (km_rd (o1.2) 4 (3 : Int32)).bind fun v4 =>
  (km_rd (o1.2) 4 (2 : Int32)).bind fun v5 =>
  if v5 < (x2 + 1) then
  fm_readsWord_105 x1 (x2 + 1) x3 (o1.2)
  else
  if x1 ≤ 0 then
  fm_readsWord_113 x1 (x2 + 1) x3 (v4 - x3) (o1.2)
  else
  (fm_at (x1 - (1 : Int32)) ((x2 + 1) - (1 : Int32))).bind fun o6 =>
  (km_rd (o1.2) 4 o6).bind fun v7 =>
  if (v4 - x3) ≤ v7 then
  fm_readsWord_113 x1 (x2 + 1) x3 (v4 - x3) (o1.2)
  else
  fm_readsWord_105 x1 (x2 + 1) x3 (o1.2)
def fm_readsWord_4 (x1 : Int32) (x2 : Int32) (x3 : Int32) (z : km_S) : Option ((Int32 × Int32 × Int32 × km_S) ⊕ (Int32 × Int32 × km_S)) :=
  if (z.1 4) = 0 then
  (fm_here z).bind fun o1 =>
  if (o1.1) = (101 : Int32) then
  fm_readsWord_29 x1 x2 x3 (o1.2)
  else
  (fm_here (o1.2)).bind fun o2 =>
  if (o2.1) = (110 : Int32) then
  fm_readsWord_29 x1 x2 x3 (o2.2)
  else
  some (.inr (x2, x3, (o2.2)))
  else
  some (.inr (x2, x3, z))
def lm_readsWord_4 (n : Nat) (x1 : Int32) (x2 : Int32) (x3 : Int32) (z : km_S) : Option (Int32 × Int32 × km_S) :=
  kj_it (fun (s : (Int32 × Int32 × Int32 × km_S)) => fm_readsWord_4 (s.1) (s.2.1) (s.2.2.1) (s.2.2.2)) n (x1, x2, x3, z)
def fm_readsWord_154 (z : km_S) : Option km_S :=
  (fm_fails (1 : Int32) z).bind fun o1 =>
  some o1
def fm_readsWord_134 (x2 : Int32) (x3 : Int32) (z : km_S) : Option km_S :=
  (km_rd z 4 (2 : Int32)).bind fun v1 =>
  if x2 < v1 then
  fm_readsWord_154 z
  else
  (km_rd z 4 (3 : Int32)).bind fun v2 =>
  if v2 ≤ x3 then
  some z
  else
  fm_readsWord_154 z
def fm_readsWord (x1 : Int32) (z : km_S) : Option km_S :=
  (lm_readsWord_4 5000 x1 (0 : Int32) (0 : Int32) z).bind fun r1 =>
  fm_readsWord_134 (r1.1) (r1.2.1) (r1.2.2)
set_option maxRecDepth 20000 in
theorem jm_readsWord_127 {p : Program} {l : Launch} {e : Env} {s : State} {m : MethodId} {args : Array Value} {below : List Frame} {meth : Method} {c : Code} {A : Nat → Prop} {D : va_G} {cA : Nat → ClassId} {h0 : Nat} {q : Nat → Nat} {Q : State → Prop} (F : kj_Fx p s m args meth c cX8_readsWord 5 wsX8_readsWord RX8 none D (km_T cA) A) {x1 : Int32} {x2 : Int32} {x3 : Int32} {z : km_S} {o : ((Int32 × Int32 × Int32 × km_S) ⊕ (Int32 × Int32 × km_S))} (h : fm_readsWord_127 x1 x2 x3 z = some o) (kb : ∀ (a0' : Int32) (a1' : Int32) (a2' : Int32) (a3' : km_S), o = .inl (a0', a1', a2', a3') → kj_J p l e rm_X8_readsWord s m args below meth c 0 0 Q 5 D A ((km_w cA h0 q) a3') 4 [(0, .ref h0), (1, .int a0'), (2, .int a1'), (3, .int a2')] []) (ke0 : ∀ (a0' : Int32) (a1' : Int32) (a2' : km_S), o = .inr (a0', a1', a2') → kj_J p l e rm_X8_readsWord s m args below meth c 0 0 Q 5 D A ((km_w cA h0 q) a2') 134 [(0, .ref h0), (2, .int a0'), (3, .int a1')] []) : kj_J p l e rm_X8_readsWord s m args below meth c 0 0 Q 5 D A ((km_w cA h0 q) z) 127 [(0, .ref h0), (1, .int x1), (2, .int x2), (3, .int x3)] [] := by
  unfold fm_readsWord_127 at h
  refine kj_aload_n F dX8_readsWord_127 0 rfl rfl ?_
  refine kj_cVv (As := []) (rest := []) F dX8_readsWord_128 h (fun o h1 => cm_goes h1) (cwV 0 F.2.2.2.2.1 gX8_readsWord_X8_goes rfl rfl rfl (by decide +kernel) ⟨Nat.le_of_ble_eq_true rfl, Nat.le_of_ble_eq_true rfl⟩) 0 rfl rfl rfl rfl rfl (Nat.le_of_ble_eq_true rfl) ⟨Nat.zero_le _, Nat.zero_le _⟩ (fun o1 h => ?_)
  refine kj_goto F dX8_readsWord_131 (tgt := 4) (by decide) ?_
  exact kb x1 x2 x3 o1 (Option.some.inj h).symm
set_option maxRecDepth 20000 in
theorem jm_readsWord_105 {p : Program} {l : Launch} {e : Env} {s : State} {m : MethodId} {args : Array Value} {below : List Frame} {meth : Method} {c : Code} {A : Nat → Prop} {D : va_G} {cA : Nat → ClassId} {h0 : Nat} {q : Nat → Nat} {Q : State → Prop} (F : kj_Fx p s m args meth c cX8_readsWord 5 wsX8_readsWord RX8 none D (km_T cA) A) {x1 : Int32} {x2 : Int32} {x3 : Int32} {z : km_S} {o : ((Int32 × Int32 × Int32 × km_S) ⊕ (Int32 × Int32 × km_S))} (h : fm_readsWord_105 x1 x2 x3 z = some o) (kb : ∀ (a0' : Int32) (a1' : Int32) (a2' : Int32) (a3' : km_S), o = .inl (a0', a1', a2', a3') → kj_J p l e rm_X8_readsWord s m args below meth c 0 0 Q 5 D A ((km_w cA h0 q) a3') 4 [(0, .ref h0), (1, .int a0'), (2, .int a1'), (3, .int a2')] []) (ke0 : ∀ (a0' : Int32) (a1' : Int32) (a2' : km_S), o = .inr (a0', a1', a2') → kj_J p l e rm_X8_readsWord s m args below meth c 0 0 Q 5 D A ((km_w cA h0 q) a2') 134 [(0, .ref h0), (2, .int a0'), (3, .int a1')] []) : kj_J p l e rm_X8_readsWord s m args below meth c 0 0 Q 5 D A ((km_w cA h0 q) z) 105 [(0, .ref h0), (1, .int x1), (2, .int x2), (3, .int x3)] [] := by
  unfold fm_readsWord_105 at h
  refine kj_aload_n F dX8_readsWord_105 0 rfl rfl ?_
  refine kj_iconst F dX8_readsWord_106 (v := 2) (by decide) ?_
  refine kj_cVv (As := [.int (2 : Int32)]) (rest := []) F dX8_readsWord_107 h (fun o h1 => cm_fails h1) (cwV 1 F.2.2.2.2.1 gX8_readsWord_X8_fails rfl rfl rfl (by decide +kernel) ⟨Nat.le_of_ble_eq_true rfl, Nat.le_of_ble_eq_true rfl⟩) 0 rfl rfl rfl rfl rfl (Nat.le_of_ble_eq_true rfl) ⟨Nat.zero_le _, Nat.zero_le _⟩ (fun o1 h => ?_)
  refine kj_goto F dX8_readsWord_110 (tgt := 127) (by decide) ?_
  exact jm_readsWord_127 F h kb ke0
set_option maxRecDepth 20000 in
theorem jm_readsWord_113 {p : Program} {l : Launch} {e : Env} {s : State} {m : MethodId} {args : Array Value} {below : List Frame} {meth : Method} {c : Code} {A : Nat → Prop} {D : va_G} {cA : Nat → ClassId} {h0 : Nat} {q : Nat → Nat} {Q : State → Prop} (F : kj_Fx p s m args meth c cX8_readsWord 5 wsX8_readsWord RX8 none D (km_T cA) A) {x1 : Int32} {x2 : Int32} {x3 : Int32} {x4 : Int32} {z : km_S} {o : ((Int32 × Int32 × Int32 × km_S) ⊕ (Int32 × Int32 × km_S))} (h : fm_readsWord_113 x1 x2 x3 x4 z = some o) (kb : ∀ (a0' : Int32) (a1' : Int32) (a2' : Int32) (a3' : km_S), o = .inl (a0', a1', a2', a3') → kj_J p l e rm_X8_readsWord s m args below meth c 0 0 Q 5 D A ((km_w cA h0 q) a3') 4 [(0, .ref h0), (1, .int a0'), (2, .int a1'), (3, .int a2')] []) (ke0 : ∀ (a0' : Int32) (a1' : Int32) (a2' : km_S), o = .inr (a0', a1', a2') → kj_J p l e rm_X8_readsWord s m args below meth c 0 0 Q 5 D A ((km_w cA h0 q) a2') 134 [(0, .ref h0), (2, .int a0'), (3, .int a1')] []) : kj_J p l e rm_X8_readsWord s m args below meth c 0 0 Q 5 D A ((km_w cA h0 q) z) 113 [(0, .ref h0), (1, .int x1), (2, .int x2), (3, .int x3), (4, .int x4)] [] := by
  unfold fm_readsWord_113 at h
  refine kj_aload_n F dX8_readsWord_113 0 rfl rfl ?_
  refine km_get F dX8_readsWord_114 in_X8_readsWord 8 (by decide) (by decide +kernel) rfl rfl ?_
  refine kj_iload_n F dX8_readsWord_117 1 rfl rfl ?_
  refine kj_iload_n F dX8_readsWord_118 2 rfl rfl ?_
  refine kj_iconst F dX8_readsWord_119 (v := 1) (by decide) ?_
  refine kj_isub F dX8_readsWord_120 ?_
  refine kj_cSip (As := [.int x1, .int (x2 - (1 : Int32))]) (rest := [.ref (q 4)]) F dX8_readsWord_121 h (fun o h1 => cm_at (w := (km_w cA h0 q)) h1) (va_cwS 2 F.2.2.2.2.1 gX8_readsWord_X8_at rfl rfl rfl (by decide +kernel) ⟨Nat.le_of_ble_eq_true rfl, Nat.le_of_ble_eq_true rfl⟩) rfl rfl (Nat.le_of_ble_eq_true rfl) ⟨Nat.zero_le _, Nat.zero_le _⟩ (fun o1 h => ?_)
  refine kj_iload F dX8_readsWord_124 4 rfl ?_
  refine km_iast F dX8_readsWord_126 4 (by decide) h (fun z2 h => ?_)
  refine kj_J.sub [0, 1, 2, 3] rfl ?_
  exact jm_readsWord_127 F h kb ke0
set_option maxRecDepth 20000 in
theorem jm_readsWord_29 {p : Program} {l : Launch} {e : Env} {s : State} {m : MethodId} {args : Array Value} {below : List Frame} {meth : Method} {c : Code} {A : Nat → Prop} {D : va_G} {cA : Nat → ClassId} {h0 : Nat} {q : Nat → Nat} {Q : State → Prop} (F : kj_Fx p s m args meth c cX8_readsWord 5 wsX8_readsWord RX8 none D (km_T cA) A) {x1 : Int32} {x2 : Int32} {x3 : Int32} {z : km_S} {o : ((Int32 × Int32 × Int32 × km_S) ⊕ (Int32 × Int32 × km_S))} (h : fm_readsWord_29 x1 x2 x3 z = some o) (kb : ∀ (a0' : Int32) (a1' : Int32) (a2' : Int32) (a3' : km_S), o = .inl (a0', a1', a2', a3') → kj_J p l e rm_X8_readsWord s m args below meth c 0 0 Q 5 D A ((km_w cA h0 q) a3') 4 [(0, .ref h0), (1, .int a0'), (2, .int a1'), (3, .int a2')] []) (ke0 : ∀ (a0' : Int32) (a1' : Int32) (a2' : km_S), o = .inr (a0', a1', a2') → kj_J p l e rm_X8_readsWord s m args below meth c 0 0 Q 5 D A ((km_w cA h0 q) a2') 134 [(0, .ref h0), (2, .int a0'), (3, .int a1')] []) : kj_J p l e rm_X8_readsWord s m args below meth c 0 0 Q 5 D A ((km_w cA h0 q) z) 29 [(0, .ref h0), (1, .int x1), (2, .int x2), (3, .int x3)] [] := by
  unfold fm_readsWord_29 at h
  refine kj_aload_n F dX8_readsWord_29 0 rfl rfl ?_
  refine kj_cVi (As := []) (rest := []) F dX8_readsWord_30 h (fun o h1 => cm_here h1) (cwV 0 F.2.2.2.2.1 gX8_readsWord_X8_here rfl rfl rfl (by decide +kernel) ⟨Nat.le_of_ble_eq_true rfl, Nat.le_of_ble_eq_true rfl⟩) 0 rfl rfl rfl rfl rfl (Nat.le_of_ble_eq_true rfl) ⟨Nat.zero_le _, Nat.zero_le _⟩ (fun o1 h => ?_)
  refine kj_bipush F dX8_readsWord_33 (v := 110) (by decide) ?_
  refine kj_icmp_ne F dX8_readsWord_35 (tgt := 59) (by decide) h (fun hc h => ?_) (fun hc h => ?_)
  · refine kj_iinc F dX8_readsWord_38 3 rfl (v := 1) (by decide) (by decide) (lv' := [(3, .int (x3 + 1)), (0, .ref h0), (1, .int x1), (2, .int x2)]) rfl ?_
    refine kj_iload_n F dX8_readsWord_41 0 rfl rfl ?_
    refine kj_aload_n F dX8_readsWord_42 1 rfl rfl ?_
    refine km_get F dX8_readsWord_43 in_X8_readsWord 8 (by decide) (by decide +kernel) rfl rfl ?_
    refine kj_iconst F dX8_readsWord_46 (v := 3) (by decide) ?_
    refine km_iald F dX8_readsWord_47 4 (by decide) h (fun v2 h => ?_)
    refine kj_icmp_le F dX8_readsWord_48 (tgt := 127) (by decide) h (fun hc h => ?_) (fun hc h => ?_)
    · refine kj_J.sub [1, 2, 3, 0] rfl ?_
      exact jm_readsWord_127 F h kb ke0
    · refine kj_aload_n F dX8_readsWord_51 1 rfl rfl ?_
      refine kj_iconst F dX8_readsWord_52 (v := 2) (by decide) ?_
      refine kj_cVv (As := [.int (2 : Int32)]) (rest := []) F dX8_readsWord_53 h (fun o h1 => cm_fails h1) (cwV 1 F.2.2.2.2.1 gX8_readsWord_X8_fails rfl rfl rfl (by decide +kernel) ⟨Nat.le_of_ble_eq_true rfl, Nat.le_of_ble_eq_true rfl⟩) 0 rfl rfl rfl rfl rfl (Nat.le_of_ble_eq_true rfl) ⟨Nat.zero_le _, Nat.zero_le _⟩ (fun o3 h => ?_)
      refine kj_goto F dX8_readsWord_56 (tgt := 127) (by decide) ?_
      refine kj_J.sub [1, 2, 3, 0] rfl ?_
      exact jm_readsWord_127 F h kb ke0
  · refine kj_iinc F dX8_readsWord_59 2 rfl (v := 1) (by decide) (by decide) (lv' := [(2, .int (x2 + 1)), (0, .ref h0), (1, .int x1), (3, .int x3)]) rfl ?_
    refine kj_aload_n F dX8_readsWord_62 1 rfl rfl ?_
    refine km_get F dX8_readsWord_63 in_X8_readsWord 8 (by decide) (by decide +kernel) rfl rfl ?_
    refine kj_iconst F dX8_readsWord_66 (v := 3) (by decide) ?_
    refine km_iald F dX8_readsWord_67 4 (by decide) h (fun v4 h => ?_)
    refine kj_iload_n F dX8_readsWord_68 3 rfl rfl ?_
    refine kj_isub F dX8_readsWord_69 ?_
    refine kj_istore F dX8_readsWord_70 (lv' := [(4, .int (v4 - x3)), (2, .int (x2 + 1)), (0, .ref h0), (1, .int x1), (3, .int x3)]) (by decide) rfl ?_
    refine kj_iload_n F dX8_readsWord_72 1 rfl rfl ?_
    refine kj_aload_n F dX8_readsWord_73 2 rfl rfl ?_
    refine km_get F dX8_readsWord_74 in_X8_readsWord 8 (by decide) (by decide +kernel) rfl rfl ?_
    refine kj_iconst F dX8_readsWord_77 (v := 2) (by decide) ?_
    refine km_iald F dX8_readsWord_78 4 (by decide) h (fun v5 h => ?_)
    refine kj_icmp_gt F dX8_readsWord_79 (tgt := 105) (by decide) h (fun hc h => ?_) (fun hc h => ?_)
    · refine kj_J.sub [2, 3, 1, 4] rfl ?_
      exact jm_readsWord_105 F h kb ke0
    · refine kj_iload_n F dX8_readsWord_82 3 rfl rfl ?_
      refine kj_if_le F dX8_readsWord_83 (tgt := 113) (by decide) h (fun hc h => ?_) (fun hc h => ?_)
      · refine kj_J.sub [2, 3, 1, 4, 0] rfl ?_
        exact jm_readsWord_113 F h kb ke0
      · refine kj_iload F dX8_readsWord_86 0 rfl ?_
        refine kj_aload_n F dX8_readsWord_88 2 rfl rfl ?_
        refine km_get F dX8_readsWord_89 in_X8_readsWord 8 (by decide) (by decide +kernel) rfl rfl ?_
        refine kj_iload_n F dX8_readsWord_92 3 rfl rfl ?_
        refine kj_iconst F dX8_readsWord_93 (v := 1) (by decide) ?_
        refine kj_isub F dX8_readsWord_94 ?_
        refine kj_iload_n F dX8_readsWord_95 1 rfl rfl ?_
        refine kj_iconst F dX8_readsWord_96 (v := 1) (by decide) ?_
        refine kj_isub F dX8_readsWord_97 ?_
        refine kj_cSip (As := [.int (x1 - (1 : Int32)), .int ((x2 + 1) - (1 : Int32))]) (rest := [.ref (q 4), .int (v4 - x3)]) F dX8_readsWord_98 h (fun o h1 => cm_at (w := (km_w cA h0 q)) h1) (va_cwS 2 F.2.2.2.2.1 gX8_readsWord_X8_at rfl rfl rfl (by decide +kernel) ⟨Nat.le_of_ble_eq_true rfl, Nat.le_of_ble_eq_true rfl⟩) rfl rfl (Nat.le_of_ble_eq_true rfl) ⟨Nat.zero_le _, Nat.zero_le _⟩ (fun o6 h => ?_)
        refine km_iald F dX8_readsWord_101 4 (by decide) h (fun v7 h => ?_)
        refine kj_icmp_le F dX8_readsWord_102 (tgt := 113) (by decide) h (fun hc h => ?_) (fun hc h => ?_)
        · refine kj_J.sub [2, 3, 1, 4, 0] rfl ?_
          exact jm_readsWord_113 F h kb ke0
        · refine kj_J.sub [2, 3, 1, 4] rfl ?_
          exact jm_readsWord_105 F h kb ke0
set_option maxRecDepth 20000 in
theorem jm_readsWord_4 {p : Program} {l : Launch} {e : Env} {s : State} {m : MethodId} {args : Array Value} {below : List Frame} {meth : Method} {c : Code} {A : Nat → Prop} {D : va_G} {cA : Nat → ClassId} {h0 : Nat} {q : Nat → Nat} {Q : State → Prop} (F : kj_Fx p s m args meth c cX8_readsWord 5 wsX8_readsWord RX8 none D (km_T cA) A) {x1 : Int32} {x2 : Int32} {x3 : Int32} {z : km_S} {o : ((Int32 × Int32 × Int32 × km_S) ⊕ (Int32 × Int32 × km_S))} (h : fm_readsWord_4 x1 x2 x3 z = some o) (kb : ∀ (a0' : Int32) (a1' : Int32) (a2' : Int32) (a3' : km_S), o = .inl (a0', a1', a2', a3') → kj_J p l e rm_X8_readsWord s m args below meth c 0 0 Q 5 D A ((km_w cA h0 q) a3') 4 [(0, .ref h0), (1, .int a0'), (2, .int a1'), (3, .int a2')] []) (ke0 : ∀ (a0' : Int32) (a1' : Int32) (a2' : km_S), o = .inr (a0', a1', a2') → kj_J p l e rm_X8_readsWord s m args below meth c 0 0 Q 5 D A ((km_w cA h0 q) a2') 134 [(0, .ref h0), (2, .int a0'), (3, .int a1')] []) : kj_J p l e rm_X8_readsWord s m args below meth c 0 0 Q 5 D A ((km_w cA h0 q) z) 4 [(0, .ref h0), (1, .int x1), (2, .int x2), (3, .int x3)] [] := by
  unfold fm_readsWord_4 at h
  refine kj_aload_n F dX8_readsWord_4 0 rfl rfl ?_
  refine km_get F dX8_readsWord_5 in_X8_readsWord 11 (by decide) (by decide +kernel) rfl rfl ?_
  refine kj_if_ne F dX8_readsWord_8 (tgt := 134) (by decide) h (fun hc h => ?_) (fun hc h => ?_)
  · refine kj_aload_n F dX8_readsWord_11 0 rfl rfl ?_
    refine kj_cVi (As := []) (rest := []) F dX8_readsWord_12 h (fun o h1 => cm_here h1) (cwV 0 F.2.2.2.2.1 gX8_readsWord_X8_here rfl rfl rfl (by decide +kernel) ⟨Nat.le_of_ble_eq_true rfl, Nat.le_of_ble_eq_true rfl⟩) 0 rfl rfl rfl rfl rfl (Nat.le_of_ble_eq_true rfl) ⟨Nat.zero_le _, Nat.zero_le _⟩ (fun o1 h => ?_)
    refine kj_bipush F dX8_readsWord_15 (v := 101) (by decide) ?_
    refine kj_icmp_eq F dX8_readsWord_17 (tgt := 29) (by decide) h (fun hc h => ?_) (fun hc h => ?_)
    · exact jm_readsWord_29 F h kb ke0
    · refine kj_aload_n F dX8_readsWord_20 0 rfl rfl ?_
      refine kj_cVi (As := []) (rest := []) F dX8_readsWord_21 h (fun o h1 => cm_here h1) (cwV 0 F.2.2.2.2.1 gX8_readsWord_X8_here rfl rfl rfl (by decide +kernel) ⟨Nat.le_of_ble_eq_true rfl, Nat.le_of_ble_eq_true rfl⟩) 0 rfl rfl rfl rfl rfl (Nat.le_of_ble_eq_true rfl) ⟨Nat.zero_le _, Nat.zero_le _⟩ (fun o2 h => ?_)
      refine kj_bipush F dX8_readsWord_24 (v := 110) (by decide) ?_
      refine kj_icmp_ne F dX8_readsWord_26 (tgt := 134) (by decide) h (fun hc h => ?_) (fun hc h => ?_)
      · exact jm_readsWord_29 F h kb ke0
      · refine kj_J.sub [0, 2, 3] rfl ?_
        exact ke0 x2 x3 (o2.2) (Option.some.inj h).symm
  · refine kj_J.sub [0, 2, 3] rfl ?_
    exact ke0 x2 x3 z (Option.some.inj h).symm
theorem jlm_readsWord_4 {p : Program} {l : Launch} {e : Env} {s : State} {m : MethodId} {args : Array Value} {below : List Frame} {meth : Method} {c : Code} {A : Nat → Prop} {D : va_G} {cA : Nat → ClassId} {h0 : Nat} {q : Nat → Nat} {Q : State → Prop} (F : kj_Fx p s m args meth c cX8_readsWord 5 wsX8_readsWord RX8 none D (km_T cA) A) {n : Nat} {x1 : Int32} {x2 : Int32} {x3 : Int32} {z : km_S} {r : (Int32 × Int32 × km_S)} (h : lm_readsWord_4 n x1 x2 x3 z = some r) (ke : kj_J p l e rm_X8_readsWord s m args below meth c 0 0 Q 5 D A ((km_w cA h0 q) (r.2.2)) 134 [(0, .ref h0), (2, .int (r.1)), (3, .int (r.2.1))] []) : kj_J p l e rm_X8_readsWord s m args below meth c 0 0 Q 5 D A ((km_w cA h0 q) z) 4 [(0, .ref h0), (1, .int x1), (2, .int x2), (3, .int x3)] [] :=
  kj_it_J (Wh := fun (u : (Int32 × Int32 × Int32 × km_S)) => kj_J p l e rm_X8_readsWord s m args below meth c 0 0 Q 5 D A ((km_w cA h0 q) (u.2.2.2)) 4 [(0, .ref h0), (1, .int (u.1)), (2, .int (u.2.1)), (3, .int (u.2.2.1))] []) (We := fun r => kj_J p l e rm_X8_readsWord s m args below meth c 0 0 Q 5 D A ((km_w cA h0 q) (r.2.2)) 134 [(0, .ref h0), (2, .int (r.1)), (3, .int (r.2.1))] []) (fun u o h kb ke => jm_readsWord_4 F h (fun a0' a1' a2' a3' e => kb (a0', a1', a2', a3') e) (fun a0' a1' a2' e => ke (a0', a1', a2') e)) n (x1, x2, x3, z) r h ke
set_option maxRecDepth 20000 in
theorem jm_readsWord_154 {p : Program} {l : Launch} {e : Env} {s : State} {m : MethodId} {args : Array Value} {below : List Frame} {meth : Method} {c : Code} {A : Nat → Prop} {D : va_G} {cA : Nat → ClassId} {h0 : Nat} {q : Nat → Nat} (F : kj_Fx p s m args meth c cX8_readsWord 5 wsX8_readsWord RX8 none D (km_T cA) A) {z : km_S} {o : km_S} (h : fm_readsWord_154 z = some o) : kj_J p l e rm_X8_readsWord s m args below meth c 0 0 (MQ below (kj_Qv D (km_T cA) A (km_w cA h0 q) o) args s 0 0 A) 5 D A ((km_w cA h0 q) z) 154 [(0, .ref h0)] [] := by
  unfold fm_readsWord_154 at h
  refine kj_aload_n F dX8_readsWord_154 0 rfl rfl ?_
  refine kj_iconst F dX8_readsWord_155 (v := 1) (by decide) ?_
  refine kj_cVv (As := [.int (1 : Int32)]) (rest := []) F dX8_readsWord_156 h (fun o h1 => cm_fails h1) (cwV 1 F.2.2.2.2.1 gX8_readsWord_X8_fails rfl rfl rfl (by decide +kernel) ⟨Nat.le_of_ble_eq_true rfl, Nat.le_of_ble_eq_true rfl⟩) 0 rfl rfl rfl rfl rfl (Nat.le_of_ble_eq_true rfl) ⟨Nat.zero_le _, Nat.zero_le _⟩ (fun o1 h => ?_)
  exact kj_vret F dX8_readsWord_159 h
set_option maxRecDepth 20000 in
theorem jm_readsWord_134 {p : Program} {l : Launch} {e : Env} {s : State} {m : MethodId} {args : Array Value} {below : List Frame} {meth : Method} {c : Code} {A : Nat → Prop} {D : va_G} {cA : Nat → ClassId} {h0 : Nat} {q : Nat → Nat} (F : kj_Fx p s m args meth c cX8_readsWord 5 wsX8_readsWord RX8 none D (km_T cA) A) {x2 : Int32} {x3 : Int32} {z : km_S} {o : km_S} (h : fm_readsWord_134 x2 x3 z = some o) : kj_J p l e rm_X8_readsWord s m args below meth c 0 0 (MQ below (kj_Qv D (km_T cA) A (km_w cA h0 q) o) args s 0 0 A) 5 D A ((km_w cA h0 q) z) 134 [(0, .ref h0), (2, .int x2), (3, .int x3)] [] := by
  unfold fm_readsWord_134 at h
  refine kj_iload_n F dX8_readsWord_134 1 rfl rfl ?_
  refine kj_aload_n F dX8_readsWord_135 0 rfl rfl ?_
  refine km_get F dX8_readsWord_136 in_X8_readsWord 8 (by decide) (by decide +kernel) rfl rfl ?_
  refine kj_iconst F dX8_readsWord_139 (v := 2) (by decide) ?_
  refine km_iald F dX8_readsWord_140 4 (by decide) h (fun v1 h => ?_)
  refine kj_icmp_lt F dX8_readsWord_141 (tgt := 154) (by decide) h (fun hc h => ?_) (fun hc h => ?_)
  · refine kj_J.sub [0] rfl ?_
    exact jm_readsWord_154 F h
  · refine kj_iload_n F dX8_readsWord_144 2 rfl rfl ?_
    refine kj_aload_n F dX8_readsWord_145 0 rfl rfl ?_
    refine km_get F dX8_readsWord_146 in_X8_readsWord 8 (by decide) (by decide +kernel) rfl rfl ?_
    refine kj_iconst F dX8_readsWord_149 (v := 3) (by decide) ?_
    refine km_iald F dX8_readsWord_150 4 (by decide) h (fun v2 h => ?_)
    refine kj_icmp_ge F dX8_readsWord_151 (tgt := 159) (by decide) h (fun hc h => ?_) (fun hc h => ?_)
    · exact kj_vret F dX8_readsWord_159 h
    · refine kj_J.sub [0] rfl ?_
      exact jm_readsWord_154 F h
set_option maxRecDepth 20000 in
theorem jm_readsWord {p : Program} {l : Launch} {e : Env} {s : State} {m : MethodId} {args : Array Value} {below : List Frame} {meth : Method} {c : Code} {A : Nat → Prop} {D : va_G} {cA : Nat → ClassId} {h0 : Nat} {q : Nat → Nat} (F : kj_Fx p s m args meth c cX8_readsWord 5 wsX8_readsWord RX8 none D (km_T cA) A) {x1 : Int32} {z : km_S} {o : km_S} (h : fm_readsWord x1 z = some o) : kj_J p l e rm_X8_readsWord s m args below meth c 0 0 (MQ below (kj_Qv D (km_T cA) A (km_w cA h0 q) o) args s 0 0 A) 5 D A ((km_w cA h0 q) z) 0 [(0, .ref h0), (1, .int x1)] [] := by
  unfold fm_readsWord at h
  refine kj_iconst F dX8_readsWord_0 (v := 0) (by decide) ?_
  refine kj_istore_n F dX8_readsWord_1 (lv' := [(2, .int (0 : Int32)), (0, .ref h0), (1, .int x1)]) rfl (by decide) rfl ?_
  refine kj_iconst F dX8_readsWord_2 (v := 0) (by decide) ?_
  refine kj_istore_n F dX8_readsWord_3 (lv' := [(3, .int (0 : Int32)), (2, .int (0 : Int32)), (0, .ref h0), (1, .int x1)]) rfl (by decide) rfl ?_
  refine kj_J.sub [2, 3, 1, 0] rfl ?_
  refine kj_bn h (fun r1 h1 h => ?_)
  refine jlm_readsWord_4 F h1 ?_
  exact jm_readsWord_134 F h
theorem cm_readsWord {l : Launch} {D : va_G} {cA : Nat → ClassId} {h0 : Nat} {q : Nat → Nat} {x1 : Int32} {z : km_S} {o : km_S} (h : fm_readsWord x1 z = some o) : kj_Mv l yX8_readsWord wsX8_readsWord rm_X8_readsWord D (km_T cA) (km_w cA h0 q) z [.ref h0, .int x1] o :=
  fun sz => kj_start (by decide) rfl (Nat.le_of_ble_eq_true rfl) rfl fun p e s m args below meth c hsz F => jm_readsWord F h
/-! X8_readsWords -/
abbrev rm_X8_readsWords : Room := { frames := 2, cells := 0, slots := 0, locals := 45 }
theorem in_X8_readsWords : ∀ w ∈ u_ws RX8 TX8 29, w ∈ wsX8_readsWords := by decide +kernel
def fm_readsWords_41 (x1 : Int32) (z : km_S) : Option ((Int32 × km_S) ⊕ km_S) :=
  some (.inl ((x1 + 1), z))
def fm_readsWords_29 (x1 : Int32) (z : km_S) : Option ((Int32 × km_S) ⊕ km_S) :=
  if (z.1 4) = 0 then
  (fm_readsWord x1 z).bind fun o1 =>
  fm_readsWords_41 x1 o1
  else
  fm_readsWords_41 x1 z
def fm_readsWords_2 (x1 : Int32) (z : km_S) : Option ((Int32 × km_S) ⊕ km_S) :=
  (km_rd z 4 (1 : Int32)).bind fun v1 =>
  if v1 ≤ x1 then
  some (.inr z)
  else
  if (z.1 4) = 0 then
  if x1 ≤ 0 then
  fm_readsWords_29 x1 z
  else
  (fm_takes (44 : Int32) z).bind fun o2 =>
  fm_readsWords_29 x1 o2
  else
  some (.inr z)
def lm_readsWords_2 (n : Nat) (x1 : Int32) (z : km_S) : Option km_S :=
  kj_it (fun (s : (Int32 × km_S)) => fm_readsWords_2 (s.1) (s.2)) n (x1, z)
def fm_readsWords (z : km_S) : Option km_S :=
  (lm_readsWords_2 5000 (0 : Int32) z).bind fun r1 =>
  some (r1)
set_option maxRecDepth 20000 in
theorem jm_readsWords_41 {p : Program} {l : Launch} {e : Env} {s : State} {m : MethodId} {args : Array Value} {below : List Frame} {meth : Method} {c : Code} {A : Nat → Prop} {D : va_G} {cA : Nat → ClassId} {h0 : Nat} {q : Nat → Nat} {Q : State → Prop} (F : kj_Fx p s m args meth c cX8_readsWords 2 wsX8_readsWords RX8 none D (km_T cA) A) {x1 : Int32} {z : km_S} {o : ((Int32 × km_S) ⊕ km_S)} (h : fm_readsWords_41 x1 z = some o) (kb : ∀ (a0' : Int32) (a1' : km_S), o = .inl (a0', a1') → kj_J p l e rm_X8_readsWords s m args below meth c 0 0 Q 2 D A ((km_w cA h0 q) a1') 2 [(0, .ref h0), (1, .int a0')] []) (ke0 : ∀ (a0' : km_S), o = .inr a0' → kj_J p l e rm_X8_readsWords s m args below meth c 0 0 Q 2 D A ((km_w cA h0 q) a0') 47 [] []) : kj_J p l e rm_X8_readsWords s m args below meth c 0 0 Q 2 D A ((km_w cA h0 q) z) 41 [(0, .ref h0), (1, .int x1)] [] := by
  unfold fm_readsWords_41 at h
  refine kj_iinc F dX8_readsWords_41 1 rfl (v := 1) (by decide) (by decide) (lv' := [(1, .int (x1 + 1)), (0, .ref h0)]) rfl ?_
  refine kj_goto F dX8_readsWords_44 (tgt := 2) (by decide) ?_
  refine kj_J.sub [1, 0] rfl ?_
  exact kb (x1 + 1) z (Option.some.inj h).symm
set_option maxRecDepth 20000 in
theorem jm_readsWords_29 {p : Program} {l : Launch} {e : Env} {s : State} {m : MethodId} {args : Array Value} {below : List Frame} {meth : Method} {c : Code} {A : Nat → Prop} {D : va_G} {cA : Nat → ClassId} {h0 : Nat} {q : Nat → Nat} {Q : State → Prop} (F : kj_Fx p s m args meth c cX8_readsWords 2 wsX8_readsWords RX8 none D (km_T cA) A) {x1 : Int32} {z : km_S} {o : ((Int32 × km_S) ⊕ km_S)} (h : fm_readsWords_29 x1 z = some o) (kb : ∀ (a0' : Int32) (a1' : km_S), o = .inl (a0', a1') → kj_J p l e rm_X8_readsWords s m args below meth c 0 0 Q 2 D A ((km_w cA h0 q) a1') 2 [(0, .ref h0), (1, .int a0')] []) (ke0 : ∀ (a0' : km_S), o = .inr a0' → kj_J p l e rm_X8_readsWords s m args below meth c 0 0 Q 2 D A ((km_w cA h0 q) a0') 47 [] []) : kj_J p l e rm_X8_readsWords s m args below meth c 0 0 Q 2 D A ((km_w cA h0 q) z) 29 [(0, .ref h0), (1, .int x1)] [] := by
  unfold fm_readsWords_29 at h
  refine kj_aload_n F dX8_readsWords_29 0 rfl rfl ?_
  refine km_get F dX8_readsWords_30 in_X8_readsWords 11 (by decide) (by decide +kernel) rfl rfl ?_
  refine kj_if_ne F dX8_readsWords_33 (tgt := 41) (by decide) h (fun hc h => ?_) (fun hc h => ?_)
  · refine kj_aload_n F dX8_readsWords_36 0 rfl rfl ?_
    refine kj_iload_n F dX8_readsWords_37 1 rfl rfl ?_
    refine kj_cVv (As := [.int x1]) (rest := []) F dX8_readsWords_38 h (fun o h1 => cm_readsWord h1) (cwV 1 F.2.2.2.2.1 gX8_readsWords_X8_readsWord rfl rfl rfl (by decide +kernel) ⟨Nat.le_of_ble_eq_true rfl, Nat.le_of_ble_eq_true rfl⟩) 0 rfl rfl rfl rfl rfl (Nat.le_of_ble_eq_true rfl) ⟨Nat.zero_le _, Nat.zero_le _⟩ (fun o1 h => ?_)
    exact jm_readsWords_41 F h kb ke0
  · exact jm_readsWords_41 F h kb ke0
set_option maxRecDepth 20000 in
theorem jm_readsWords_2 {p : Program} {l : Launch} {e : Env} {s : State} {m : MethodId} {args : Array Value} {below : List Frame} {meth : Method} {c : Code} {A : Nat → Prop} {D : va_G} {cA : Nat → ClassId} {h0 : Nat} {q : Nat → Nat} {Q : State → Prop} (F : kj_Fx p s m args meth c cX8_readsWords 2 wsX8_readsWords RX8 none D (km_T cA) A) {x1 : Int32} {z : km_S} {o : ((Int32 × km_S) ⊕ km_S)} (h : fm_readsWords_2 x1 z = some o) (kb : ∀ (a0' : Int32) (a1' : km_S), o = .inl (a0', a1') → kj_J p l e rm_X8_readsWords s m args below meth c 0 0 Q 2 D A ((km_w cA h0 q) a1') 2 [(0, .ref h0), (1, .int a0')] []) (ke0 : ∀ (a0' : km_S), o = .inr a0' → kj_J p l e rm_X8_readsWords s m args below meth c 0 0 Q 2 D A ((km_w cA h0 q) a0') 47 [] []) : kj_J p l e rm_X8_readsWords s m args below meth c 0 0 Q 2 D A ((km_w cA h0 q) z) 2 [(0, .ref h0), (1, .int x1)] [] := by
  unfold fm_readsWords_2 at h
  refine kj_iload_n F dX8_readsWords_2 1 rfl rfl ?_
  refine kj_aload_n F dX8_readsWords_3 0 rfl rfl ?_
  refine km_get F dX8_readsWords_4 in_X8_readsWords 8 (by decide) (by decide +kernel) rfl rfl ?_
  refine kj_iconst F dX8_readsWords_7 (v := 1) (by decide) ?_
  refine km_iald F dX8_readsWords_8 4 (by decide) h (fun v1 h => ?_)
  refine kj_icmp_ge F dX8_readsWords_9 (tgt := 47) (by decide) h (fun hc h => ?_) (fun hc h => ?_)
  · refine kj_J.sub [] rfl ?_
    exact ke0 z (Option.some.inj h).symm
  · refine kj_aload_n F dX8_readsWords_12 0 rfl rfl ?_
    refine km_get F dX8_readsWords_13 in_X8_readsWords 11 (by decide) (by decide +kernel) rfl rfl ?_
    refine kj_if_ne F dX8_readsWords_16 (tgt := 47) (by decide) h (fun hc h => ?_) (fun hc h => ?_)
    · refine kj_iload_n F dX8_readsWords_19 1 rfl rfl ?_
      refine kj_if_le F dX8_readsWords_20 (tgt := 29) (by decide) h (fun hc h => ?_) (fun hc h => ?_)
      · exact jm_readsWords_29 F h kb ke0
      · refine kj_aload_n F dX8_readsWords_23 0 rfl rfl ?_
        refine kj_bipush F dX8_readsWords_24 (v := 44) (by decide) ?_
        refine kj_cVv (As := [.int (44 : Int32)]) (rest := []) F dX8_readsWords_26 h (fun o h1 => cm_takes h1) (cwV 1 F.2.2.2.2.1 gX8_readsWords_X8_takes rfl rfl rfl (by decide +kernel) ⟨Nat.le_of_ble_eq_true rfl, Nat.le_of_ble_eq_true rfl⟩) 0 rfl rfl rfl rfl rfl (Nat.le_of_ble_eq_true rfl) ⟨Nat.zero_le _, Nat.zero_le _⟩ (fun o2 h => ?_)
        exact jm_readsWords_29 F h kb ke0
    · refine kj_J.sub [] rfl ?_
      exact ke0 z (Option.some.inj h).symm
theorem jlm_readsWords_2 {p : Program} {l : Launch} {e : Env} {s : State} {m : MethodId} {args : Array Value} {below : List Frame} {meth : Method} {c : Code} {A : Nat → Prop} {D : va_G} {cA : Nat → ClassId} {h0 : Nat} {q : Nat → Nat} {Q : State → Prop} (F : kj_Fx p s m args meth c cX8_readsWords 2 wsX8_readsWords RX8 none D (km_T cA) A) {n : Nat} {x1 : Int32} {z : km_S} {r : km_S} (h : lm_readsWords_2 n x1 z = some r) (ke : kj_J p l e rm_X8_readsWords s m args below meth c 0 0 Q 2 D A ((km_w cA h0 q) (r)) 47 [] []) : kj_J p l e rm_X8_readsWords s m args below meth c 0 0 Q 2 D A ((km_w cA h0 q) z) 2 [(0, .ref h0), (1, .int x1)] [] :=
  kj_it_J (Wh := fun (u : (Int32 × km_S)) => kj_J p l e rm_X8_readsWords s m args below meth c 0 0 Q 2 D A ((km_w cA h0 q) (u.2)) 2 [(0, .ref h0), (1, .int (u.1))] []) (We := fun r => kj_J p l e rm_X8_readsWords s m args below meth c 0 0 Q 2 D A ((km_w cA h0 q) (r)) 47 [] []) (fun u o h kb ke => jm_readsWords_2 F h (fun a0' a1' e => kb (a0', a1') e) (fun a0' e => ke a0' e)) n (x1, z) r h ke
set_option maxRecDepth 20000 in
theorem jm_readsWords {p : Program} {l : Launch} {e : Env} {s : State} {m : MethodId} {args : Array Value} {below : List Frame} {meth : Method} {c : Code} {A : Nat → Prop} {D : va_G} {cA : Nat → ClassId} {h0 : Nat} {q : Nat → Nat} (F : kj_Fx p s m args meth c cX8_readsWords 2 wsX8_readsWords RX8 none D (km_T cA) A) {z : km_S} {o : km_S} (h : fm_readsWords z = some o) : kj_J p l e rm_X8_readsWords s m args below meth c 0 0 (MQ below (kj_Qv D (km_T cA) A (km_w cA h0 q) o) args s 0 0 A) 2 D A ((km_w cA h0 q) z) 0 [(0, .ref h0)] [] := by
  unfold fm_readsWords at h
  refine kj_iconst F dX8_readsWords_0 (v := 0) (by decide) ?_
  refine kj_istore_n F dX8_readsWords_1 (lv' := [(1, .int (0 : Int32)), (0, .ref h0)]) rfl (by decide) rfl ?_
  refine kj_J.sub [1, 0] rfl ?_
  refine kj_bn h (fun r1 h1 h => ?_)
  refine jlm_readsWords_2 F h1 ?_
  exact kj_vret F dX8_readsWords_47 h
theorem cm_readsWords {l : Launch} {D : va_G} {cA : Nat → ClassId} {h0 : Nat} {q : Nat → Nat} {z : km_S} {o : km_S} (h : fm_readsWords z = some o) : kj_Mv l yX8_readsWords wsX8_readsWords rm_X8_readsWords D (km_T cA) (km_w cA h0 q) z [.ref h0] o :=
  fun sz => kj_start (by decide) rfl (Nat.le_of_ble_eq_true rfl) rfl fun p e s m args below meth c hsz F => jm_readsWords F h
