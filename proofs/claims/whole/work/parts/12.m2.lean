/-! X8_lay -/
abbrev rm_X8_lay : Room := { frames := 4, cells := 0, slots := 0, locals := 86 }
theorem in_X8_lay : ∀ w ∈ u_ws RX8 TX8 29, w ∈ wsX8_lay := by decide +kernel
def fm_lay (x1 : Int32) (x2 : Int32) (x3 : Int32) (z : km_S) : Option (Int32 × km_S) :=
  (fm_isSpot x1 x2 x3 z).bind fun o1 =>
  if (o1.1) = 0 then
  some (((-1000001) : Int32), (o1.2))
  else
  (fm_canLay 0 ((20 : Int32) * x1) x2 x3 (o1.2)).bind fun o2 =>
  if (o2.1) = 0 then
  some (((-1000002) : Int32), (o2.2))
  else
  (fm_notes (o2.2)).bind fun o3 =>
  (fm_at x2 x3).bind fun o4 =>
  (km_rd o3 0 (((20 : Int32) * x1) + o4)).bind fun v5 =>
  (km_wr o3 0 (((20 : Int32) * x1) + o4) (v5 + (1 : Int32))).bind fun z6 =>
  (fm_at x2 x3).bind fun o7 =>
  (km_rd z6 0 (((20 : Int32) * x1) + o7)).bind fun v8 =>
  some (v8, z6)
set_option maxRecDepth 20000 in
theorem jm_lay {p : Program} {l : Launch} {e : Env} {s : State} {m : MethodId} {args : Array Value} {below : List Frame} {meth : Method} {c : Code} {A : Nat → Prop} {D : va_G} {cA : Nat → ClassId} {h0 : Nat} {q : Nat → Nat} (F : kj_Fx p s m args meth c cX8_lay 4 wsX8_lay RX8 (some .int) D (km_T cA) A) {x1 : Int32} {x2 : Int32} {x3 : Int32} {z : km_S} {o : (Int32 × km_S)} (h : fm_lay x1 x2 x3 z = some o) : kj_J p l e rm_X8_lay s m args below meth c 0 0 (MQ below (kj_Qi D (km_T cA) A (km_w cA h0 q) o) args s 0 0 A) 4 D A ((km_w cA h0 q) z) 0 [(0, .ref h0), (1, .int x1), (2, .int x2), (3, .int x3)] [] := by
  unfold fm_lay at h
  refine kj_aload_n F dX8_lay_0 0 rfl rfl ?_
  refine kj_iload_n F dX8_lay_1 1 rfl rfl ?_
  refine kj_iload_n F dX8_lay_2 2 rfl rfl ?_
  refine kj_iload_n F dX8_lay_3 3 rfl rfl ?_
  refine kj_cVi (As := [.int x1, .int x2, .int x3]) (rest := []) F dX8_lay_4 h (fun o h1 => cm_isSpot h1) (cwV 3 F.2.2.2.2.1 gX8_lay_X8_isSpot rfl rfl rfl (by decide +kernel) ⟨Nat.le_of_ble_eq_true rfl, Nat.le_of_ble_eq_true rfl⟩) 0 rfl rfl rfl rfl rfl (Nat.le_of_ble_eq_true rfl) ⟨Nat.zero_le _, Nat.zero_le _⟩ (fun o1 h => ?_)
  refine kj_if_ne F dX8_lay_7 (tgt := 13) (by decide) h (fun hc h => ?_) (fun hc h => ?_)
  · refine kj_ldc F dX8_lay_10 (v := (-1000001)) (by decide +kernel) ?_
    exact kj_iret F dX8_lay_12 h
  · refine kj_aload_n F dX8_lay_13 0 rfl rfl ?_
    refine km_get F dX8_lay_14 in_X8_lay 0 (by decide) (by decide +kernel) rfl rfl ?_
    refine kj_bipush F dX8_lay_17 (v := 20) (by decide) ?_
    refine kj_iload_n F dX8_lay_19 1 rfl rfl ?_
    refine kj_imul F dX8_lay_20 ?_
    refine kj_iload_n F dX8_lay_21 2 rfl rfl ?_
    refine kj_iload_n F dX8_lay_22 3 rfl rfl ?_
    refine kj_cSi (As := [.ref (q 0), .int ((20 : Int32) * x1), .int x2, .int x3]) (rest := []) F dX8_lay_23 h (fun o h1 => cm_canLay (by decide) h1) (va_cwS 4 F.2.2.2.2.1 gX8_lay_X8_canLay rfl rfl rfl (by decide +kernel) ⟨Nat.le_of_ble_eq_true rfl, Nat.le_of_ble_eq_true rfl⟩) rfl rfl (Nat.le_of_ble_eq_true rfl) ⟨Nat.zero_le _, Nat.zero_le _⟩ (fun o2 h => ?_)
    refine kj_if_ne F dX8_lay_26 (tgt := 32) (by decide) h (fun hc h => ?_) (fun hc h => ?_)
    · refine kj_ldc F dX8_lay_29 (v := (-1000002)) (by decide +kernel) ?_
      exact kj_iret F dX8_lay_31 h
    · refine kj_aload_n F dX8_lay_32 0 rfl rfl ?_
      refine kj_cVv (As := []) (rest := []) F dX8_lay_33 h (fun o h1 => cm_notes h1) (cwV 0 F.2.2.2.2.1 gX8_lay_X8_notes rfl rfl rfl (by decide +kernel) ⟨Nat.le_of_ble_eq_true rfl, Nat.le_of_ble_eq_true rfl⟩) 0 rfl rfl rfl rfl rfl (Nat.le_of_ble_eq_true rfl) ⟨Nat.zero_le _, Nat.zero_le _⟩ (fun o3 h => ?_)
      refine kj_aload_n F dX8_lay_36 0 rfl rfl ?_
      refine km_get F dX8_lay_37 in_X8_lay 0 (by decide) (by decide +kernel) rfl rfl ?_
      refine kj_bipush F dX8_lay_40 (v := 20) (by decide) ?_
      refine kj_iload_n F dX8_lay_42 1 rfl rfl ?_
      refine kj_imul F dX8_lay_43 ?_
      refine kj_iload_n F dX8_lay_44 2 rfl rfl ?_
      refine kj_iload_n F dX8_lay_45 3 rfl rfl ?_
      refine kj_cSip (As := [.int x2, .int x3]) (rest := [.int ((20 : Int32) * x1), .ref (q 0)]) F dX8_lay_46 h (fun o h1 => cm_at (w := (km_w cA h0 q)) h1) (va_cwS 2 F.2.2.2.2.1 gX8_lay_X8_at rfl rfl rfl (by decide +kernel) ⟨Nat.le_of_ble_eq_true rfl, Nat.le_of_ble_eq_true rfl⟩) rfl rfl (Nat.le_of_ble_eq_true rfl) ⟨Nat.zero_le _, Nat.zero_le _⟩ (fun o4 h => ?_)
      refine kj_iadd F dX8_lay_49 ?_
      refine kj_dup2_11 F dX8_lay_50 rfl rfl ?_
      refine km_iald F dX8_lay_51 0 (by decide) h (fun v5 h => ?_)
      refine kj_iconst F dX8_lay_52 (v := 1) (by decide) ?_
      refine kj_iadd F dX8_lay_53 ?_
      refine km_iast F dX8_lay_54 0 (by decide) h (fun z6 h => ?_)
      refine kj_aload_n F dX8_lay_55 0 rfl rfl ?_
      refine km_get F dX8_lay_56 in_X8_lay 0 (by decide) (by decide +kernel) rfl rfl ?_
      refine kj_bipush F dX8_lay_59 (v := 20) (by decide) ?_
      refine kj_iload_n F dX8_lay_61 1 rfl rfl ?_
      refine kj_imul F dX8_lay_62 ?_
      refine kj_iload_n F dX8_lay_63 2 rfl rfl ?_
      refine kj_iload_n F dX8_lay_64 3 rfl rfl ?_
      refine kj_cSip (As := [.int x2, .int x3]) (rest := [.int ((20 : Int32) * x1), .ref (q 0)]) F dX8_lay_65 h (fun o h1 => cm_at (w := (km_w cA h0 q)) h1) (va_cwS 2 F.2.2.2.2.1 gX8_lay_X8_at rfl rfl rfl (by decide +kernel) ⟨Nat.le_of_ble_eq_true rfl, Nat.le_of_ble_eq_true rfl⟩) rfl rfl (Nat.le_of_ble_eq_true rfl) ⟨Nat.zero_le _, Nat.zero_le _⟩ (fun o7 h => ?_)
      refine kj_iadd F dX8_lay_68 ?_
      refine km_iald F dX8_lay_69 0 (by decide) h (fun v8 h => ?_)
      exact kj_iret F dX8_lay_70 h
theorem cm_lay {l : Launch} {D : va_G} {cA : Nat → ClassId} {h0 : Nat} {q : Nat → Nat} {x1 : Int32} {x2 : Int32} {x3 : Int32} {z : km_S} {o : (Int32 × km_S)} (h : fm_lay x1 x2 x3 z = some o) : kj_Mi l yX8_lay wsX8_lay rm_X8_lay D (km_T cA) (km_w cA h0 q) z [.ref h0, .int x1, .int x2, .int x3] o :=
  fun sz => kj_start (by decide) rfl (Nat.le_of_ble_eq_true rfl) rfl fun p e s m args below meth c hsz F => jm_lay F h
/-! X8_off -/
abbrev rm_X8_off : Room := { frames := 4, cells := 0, slots := 0, locals := 86 }
theorem in_X8_off : ∀ w ∈ u_ws RX8 TX8 29, w ∈ wsX8_off := by decide +kernel
def fm_off (x1 : Int32) (x2 : Int32) (x3 : Int32) (z : km_S) : Option (Int32 × km_S) :=
  (fm_isSpot x1 x2 x3 z).bind fun o1 =>
  if (o1.1) = 0 then
  some (((-1000001) : Int32), (o1.2))
  else
  (fm_canTake 0 ((20 : Int32) * x1) x2 x3 (o1.2)).bind fun o2 =>
  if (o2.1) = 0 then
  some (((-1000002) : Int32), (o2.2))
  else
  (fm_notes (o2.2)).bind fun o3 =>
  (fm_at x2 x3).bind fun o4 =>
  (km_rd o3 0 (((20 : Int32) * x1) + o4)).bind fun v5 =>
  (km_wr o3 0 (((20 : Int32) * x1) + o4) (v5 - (1 : Int32))).bind fun z6 =>
  (fm_at x2 x3).bind fun o7 =>
  (km_rd z6 0 (((20 : Int32) * x1) + o7)).bind fun v8 =>
  some (v8, z6)
set_option maxRecDepth 20000 in
theorem jm_off {p : Program} {l : Launch} {e : Env} {s : State} {m : MethodId} {args : Array Value} {below : List Frame} {meth : Method} {c : Code} {A : Nat → Prop} {D : va_G} {cA : Nat → ClassId} {h0 : Nat} {q : Nat → Nat} (F : kj_Fx p s m args meth c cX8_off 4 wsX8_off RX8 (some .int) D (km_T cA) A) {x1 : Int32} {x2 : Int32} {x3 : Int32} {z : km_S} {o : (Int32 × km_S)} (h : fm_off x1 x2 x3 z = some o) : kj_J p l e rm_X8_off s m args below meth c 0 0 (MQ below (kj_Qi D (km_T cA) A (km_w cA h0 q) o) args s 0 0 A) 4 D A ((km_w cA h0 q) z) 0 [(0, .ref h0), (1, .int x1), (2, .int x2), (3, .int x3)] [] := by
  unfold fm_off at h
  refine kj_aload_n F dX8_off_0 0 rfl rfl ?_
  refine kj_iload_n F dX8_off_1 1 rfl rfl ?_
  refine kj_iload_n F dX8_off_2 2 rfl rfl ?_
  refine kj_iload_n F dX8_off_3 3 rfl rfl ?_
  refine kj_cVi (As := [.int x1, .int x2, .int x3]) (rest := []) F dX8_off_4 h (fun o h1 => cm_isSpot h1) (cwV 3 F.2.2.2.2.1 gX8_off_X8_isSpot rfl rfl rfl (by decide +kernel) ⟨Nat.le_of_ble_eq_true rfl, Nat.le_of_ble_eq_true rfl⟩) 0 rfl rfl rfl rfl rfl (Nat.le_of_ble_eq_true rfl) ⟨Nat.zero_le _, Nat.zero_le _⟩ (fun o1 h => ?_)
  refine kj_if_ne F dX8_off_7 (tgt := 13) (by decide) h (fun hc h => ?_) (fun hc h => ?_)
  · refine kj_ldc F dX8_off_10 (v := (-1000001)) (by decide +kernel) ?_
    exact kj_iret F dX8_off_12 h
  · refine kj_aload_n F dX8_off_13 0 rfl rfl ?_
    refine km_get F dX8_off_14 in_X8_off 0 (by decide) (by decide +kernel) rfl rfl ?_
    refine kj_bipush F dX8_off_17 (v := 20) (by decide) ?_
    refine kj_iload_n F dX8_off_19 1 rfl rfl ?_
    refine kj_imul F dX8_off_20 ?_
    refine kj_iload_n F dX8_off_21 2 rfl rfl ?_
    refine kj_iload_n F dX8_off_22 3 rfl rfl ?_
    refine kj_cSi (As := [.ref (q 0), .int ((20 : Int32) * x1), .int x2, .int x3]) (rest := []) F dX8_off_23 h (fun o h1 => cm_canTake (by decide) h1) (va_cwS 4 F.2.2.2.2.1 gX8_off_X8_canTake rfl rfl rfl (by decide +kernel) ⟨Nat.le_of_ble_eq_true rfl, Nat.le_of_ble_eq_true rfl⟩) rfl rfl (Nat.le_of_ble_eq_true rfl) ⟨Nat.zero_le _, Nat.zero_le _⟩ (fun o2 h => ?_)
    refine kj_if_ne F dX8_off_26 (tgt := 32) (by decide) h (fun hc h => ?_) (fun hc h => ?_)
    · refine kj_ldc F dX8_off_29 (v := (-1000002)) (by decide +kernel) ?_
      exact kj_iret F dX8_off_31 h
    · refine kj_aload_n F dX8_off_32 0 rfl rfl ?_
      refine kj_cVv (As := []) (rest := []) F dX8_off_33 h (fun o h1 => cm_notes h1) (cwV 0 F.2.2.2.2.1 gX8_off_X8_notes rfl rfl rfl (by decide +kernel) ⟨Nat.le_of_ble_eq_true rfl, Nat.le_of_ble_eq_true rfl⟩) 0 rfl rfl rfl rfl rfl (Nat.le_of_ble_eq_true rfl) ⟨Nat.zero_le _, Nat.zero_le _⟩ (fun o3 h => ?_)
      refine kj_aload_n F dX8_off_36 0 rfl rfl ?_
      refine km_get F dX8_off_37 in_X8_off 0 (by decide) (by decide +kernel) rfl rfl ?_
      refine kj_bipush F dX8_off_40 (v := 20) (by decide) ?_
      refine kj_iload_n F dX8_off_42 1 rfl rfl ?_
      refine kj_imul F dX8_off_43 ?_
      refine kj_iload_n F dX8_off_44 2 rfl rfl ?_
      refine kj_iload_n F dX8_off_45 3 rfl rfl ?_
      refine kj_cSip (As := [.int x2, .int x3]) (rest := [.int ((20 : Int32) * x1), .ref (q 0)]) F dX8_off_46 h (fun o h1 => cm_at (w := (km_w cA h0 q)) h1) (va_cwS 2 F.2.2.2.2.1 gX8_off_X8_at rfl rfl rfl (by decide +kernel) ⟨Nat.le_of_ble_eq_true rfl, Nat.le_of_ble_eq_true rfl⟩) rfl rfl (Nat.le_of_ble_eq_true rfl) ⟨Nat.zero_le _, Nat.zero_le _⟩ (fun o4 h => ?_)
      refine kj_iadd F dX8_off_49 ?_
      refine kj_dup2_11 F dX8_off_50 rfl rfl ?_
      refine km_iald F dX8_off_51 0 (by decide) h (fun v5 h => ?_)
      refine kj_iconst F dX8_off_52 (v := 1) (by decide) ?_
      refine kj_isub F dX8_off_53 ?_
      refine km_iast F dX8_off_54 0 (by decide) h (fun z6 h => ?_)
      refine kj_aload_n F dX8_off_55 0 rfl rfl ?_
      refine km_get F dX8_off_56 in_X8_off 0 (by decide) (by decide +kernel) rfl rfl ?_
      refine kj_bipush F dX8_off_59 (v := 20) (by decide) ?_
      refine kj_iload_n F dX8_off_61 1 rfl rfl ?_
      refine kj_imul F dX8_off_62 ?_
      refine kj_iload_n F dX8_off_63 2 rfl rfl ?_
      refine kj_iload_n F dX8_off_64 3 rfl rfl ?_
      refine kj_cSip (As := [.int x2, .int x3]) (rest := [.int ((20 : Int32) * x1), .ref (q 0)]) F dX8_off_65 h (fun o h1 => cm_at (w := (km_w cA h0 q)) h1) (va_cwS 2 F.2.2.2.2.1 gX8_off_X8_at rfl rfl rfl (by decide +kernel) ⟨Nat.le_of_ble_eq_true rfl, Nat.le_of_ble_eq_true rfl⟩) rfl rfl (Nat.le_of_ble_eq_true rfl) ⟨Nat.zero_le _, Nat.zero_le _⟩ (fun o7 h => ?_)
      refine kj_iadd F dX8_off_68 ?_
      refine km_iald F dX8_off_69 0 (by decide) h (fun v8 h => ?_)
      exact kj_iret F dX8_off_70 h
theorem cm_off {l : Launch} {D : va_G} {cA : Nat → ClassId} {h0 : Nat} {q : Nat → Nat} {x1 : Int32} {x2 : Int32} {x3 : Int32} {z : km_S} {o : (Int32 × km_S)} (h : fm_off x1 x2 x3 z = some o) : kj_Mi l yX8_off wsX8_off rm_X8_off D (km_T cA) (km_w cA h0 q) z [.ref h0, .int x1, .int x2, .int x3] o :=
  fun sz => kj_start (by decide) rfl (Nat.le_of_ble_eq_true rfl) rfl fun p e s m args below meth c hsz F => jm_off F h
/-! X8_higher -/
abbrev rm_X8_higher : Room := { frames := 1, cells := 0, slots := 0, locals := 21 }
def fm_higher_37 (k0 : Nat) (x1 : Int32) (x2 : Int32) (x3 : Int32) (x5 : Int32) (t0 : Int32) (t1 : Int32) (z : km_S) : Option ((Int32 × Int32 × Int32 × Int32 × Int32 × km_S) ⊕ (Int32 × km_S)) :=
  some (.inl (x1, x2, x3, (t1 + t0), (x5 + 1), z))
def fm_higher_6 (k0 : Nat) (x1 : Int32) (x2 : Int32) (x3 : Int32) (x4 : Int32) (x5 : Int32) (z : km_S) : Option ((Int32 × Int32 × Int32 × Int32 × Int32 × km_S) ⊕ (Int32 × km_S)) :=
  (km_rd z k0 (x1 + (1 : Int32))).bind fun v1 =>
  if v1 ≤ x5 then
  some (.inr (x4, z))
  else
  (fm_at x5 x2).bind fun o2 =>
  (km_rd z k0 (x1 + o2)).bind fun v3 =>
  if v3 ≤ x3 then
  fm_higher_37 k0 x1 x2 x3 x5 (0 : Int32) x4 z
  else
  fm_higher_37 k0 x1 x2 x3 x5 (1 : Int32) x4 z
def lm_higher_6 (k0 : Nat) (n : Nat) (x1 : Int32) (x2 : Int32) (x3 : Int32) (x4 : Int32) (x5 : Int32) (z : km_S) : Option (Int32 × km_S) :=
  kj_it (fun (s : (Int32 × Int32 × Int32 × Int32 × Int32 × km_S)) => fm_higher_6 k0 (s.1) (s.2.1) (s.2.2.1) (s.2.2.2.1) (s.2.2.2.2.1) (s.2.2.2.2.2)) n (x1, x2, x3, x4, x5, z)
def fm_higher (k0 : Nat) (x1 : Int32) (x2 : Int32) (x3 : Int32) (z : km_S) : Option (Int32 × km_S) :=
  (lm_higher_6 k0 5000 x1 x2 x3 (0 : Int32) (0 : Int32) z).bind fun r1 =>
  some ((r1.1), (r1.2))
set_option maxRecDepth 20000 in
theorem jm_higher_37 {p : Program} {l : Launch} {e : Env} {s : State} {m : MethodId} {args : Array Value} {below : List Frame} {meth : Method} {c : Code} {A : Nat → Prop} {D : va_G} {cA : Nat → ClassId} {h0 : Nat} {q : Nat → Nat} {Q : State → Prop} (F : kj_Fx p s m args meth c cX8_higher 6 wsX8_higher RX8 (some .int) D (km_T cA) A) {k0 : Nat} (hk0 : k0 < 18) {x1 : Int32} {x2 : Int32} {x3 : Int32} {x5 : Int32} {t0 : Int32} {t1 : Int32} {z : km_S} {o : ((Int32 × Int32 × Int32 × Int32 × Int32 × km_S) ⊕ (Int32 × km_S))} (h : fm_higher_37 k0 x1 x2 x3 x5 t0 t1 z = some o) (kb : ∀ (a0' : Int32) (a1' : Int32) (a2' : Int32) (a3' : Int32) (a4' : Int32) (a5' : km_S), o = .inl (a0', a1', a2', a3', a4', a5') → kj_J p l e rm_X8_higher s m args below meth c 0 0 Q 6 D A ((km_w cA h0 q) a5') 6 [(0, .ref (q k0)), (1, .int a0'), (2, .int a1'), (3, .int a2'), (4, .int a3'), (5, .int a4')] []) (ke0 : ∀ (a0' : Int32) (a1' : km_S), o = .inr (a0', a1') → kj_J p l e rm_X8_higher s m args below meth c 0 0 Q 6 D A ((km_w cA h0 q) a1') 46 [(4, .int a0')] []) : kj_J p l e rm_X8_higher s m args below meth c 0 0 Q 6 D A ((km_w cA h0 q) z) 37 [(0, .ref (q k0)), (1, .int x1), (2, .int x2), (3, .int x3), (5, .int x5)] [.int t0, .int t1] := by
  unfold fm_higher_37 at h
  refine kj_iadd F dX8_higher_37 ?_
  refine kj_istore F dX8_higher_38 (lv' := [(4, .int (t1 + t0)), (0, .ref (q k0)), (1, .int x1), (2, .int x2), (3, .int x3), (5, .int x5)]) (by decide) rfl ?_
  refine kj_iinc F dX8_higher_40 5 rfl (v := 1) (by decide) (by decide) (lv' := [(5, .int (x5 + 1)), (4, .int (t1 + t0)), (0, .ref (q k0)), (1, .int x1), (2, .int x2), (3, .int x3)]) rfl ?_
  refine kj_goto F dX8_higher_43 (tgt := 6) (by decide) ?_
  refine kj_J.sub [2, 3, 4, 5, 1, 0] rfl ?_
  exact kb x1 x2 x3 (t1 + t0) (x5 + 1) z (Option.some.inj h).symm
set_option maxRecDepth 20000 in
theorem jm_higher_6 {p : Program} {l : Launch} {e : Env} {s : State} {m : MethodId} {args : Array Value} {below : List Frame} {meth : Method} {c : Code} {A : Nat → Prop} {D : va_G} {cA : Nat → ClassId} {h0 : Nat} {q : Nat → Nat} {Q : State → Prop} (F : kj_Fx p s m args meth c cX8_higher 6 wsX8_higher RX8 (some .int) D (km_T cA) A) {k0 : Nat} (hk0 : k0 < 18) {x1 : Int32} {x2 : Int32} {x3 : Int32} {x4 : Int32} {x5 : Int32} {z : km_S} {o : ((Int32 × Int32 × Int32 × Int32 × Int32 × km_S) ⊕ (Int32 × km_S))} (h : fm_higher_6 k0 x1 x2 x3 x4 x5 z = some o) (kb : ∀ (a0' : Int32) (a1' : Int32) (a2' : Int32) (a3' : Int32) (a4' : Int32) (a5' : km_S), o = .inl (a0', a1', a2', a3', a4', a5') → kj_J p l e rm_X8_higher s m args below meth c 0 0 Q 6 D A ((km_w cA h0 q) a5') 6 [(0, .ref (q k0)), (1, .int a0'), (2, .int a1'), (3, .int a2'), (4, .int a3'), (5, .int a4')] []) (ke0 : ∀ (a0' : Int32) (a1' : km_S), o = .inr (a0', a1') → kj_J p l e rm_X8_higher s m args below meth c 0 0 Q 6 D A ((km_w cA h0 q) a1') 46 [(4, .int a0')] []) : kj_J p l e rm_X8_higher s m args below meth c 0 0 Q 6 D A ((km_w cA h0 q) z) 6 [(0, .ref (q k0)), (1, .int x1), (2, .int x2), (3, .int x3), (4, .int x4), (5, .int x5)] [] := by
  unfold fm_higher_6 at h
  refine kj_iload F dX8_higher_6 5 rfl ?_
  refine kj_aload_n F dX8_higher_8 0 rfl rfl ?_
  refine kj_iload_n F dX8_higher_9 1 rfl rfl ?_
  refine kj_iconst F dX8_higher_10 (v := 1) (by decide) ?_
  refine kj_iadd F dX8_higher_11 ?_
  refine km_iald F dX8_higher_12 k0 hk0 h (fun v1 h => ?_)
  refine kj_icmp_ge F dX8_higher_13 (tgt := 46) (by decide) h (fun hc h => ?_) (fun hc h => ?_)
  · refine kj_J.sub [4] rfl ?_
    exact ke0 x4 z (Option.some.inj h).symm
  · refine kj_iload F dX8_higher_16 4 rfl ?_
    refine kj_aload_n F dX8_higher_18 0 rfl rfl ?_
    refine kj_iload_n F dX8_higher_19 1 rfl rfl ?_
    refine kj_iload F dX8_higher_20 5 rfl ?_
    refine kj_iload_n F dX8_higher_22 2 rfl rfl ?_
    refine kj_cSip (As := [.int x5, .int x2]) (rest := [.int x1, .ref (q k0), .int x4]) F dX8_higher_23 h (fun o h1 => cm_at (w := (km_w cA h0 q)) h1) (va_cwS 2 F.2.2.2.2.1 gX8_higher_X8_at rfl rfl rfl (by decide +kernel) ⟨Nat.le_of_ble_eq_true rfl, Nat.le_of_ble_eq_true rfl⟩) rfl rfl (Nat.le_of_ble_eq_true rfl) ⟨Nat.zero_le _, Nat.zero_le _⟩ (fun o2 h => ?_)
    refine kj_iadd F dX8_higher_26 ?_
    refine km_iald F dX8_higher_27 k0 hk0 h (fun v3 h => ?_)
    refine kj_iload_n F dX8_higher_28 3 rfl rfl ?_
    refine kj_icmp_le F dX8_higher_29 (tgt := 36) (by decide) h (fun hc h => ?_) (fun hc h => ?_)
    · refine kj_iconst F dX8_higher_36 (v := 0) (by decide) ?_
      refine kj_J.sub [0, 1, 2, 3, 5] rfl ?_
      exact jm_higher_37 F hk0 h kb ke0
    · refine kj_iconst F dX8_higher_32 (v := 1) (by decide) ?_
      refine kj_goto F dX8_higher_33 (tgt := 37) (by decide) ?_
      refine kj_J.sub [0, 1, 2, 3, 5] rfl ?_
      exact jm_higher_37 F hk0 h kb ke0
theorem jlm_higher_6 {p : Program} {l : Launch} {e : Env} {s : State} {m : MethodId} {args : Array Value} {below : List Frame} {meth : Method} {c : Code} {A : Nat → Prop} {D : va_G} {cA : Nat → ClassId} {h0 : Nat} {q : Nat → Nat} {Q : State → Prop} (F : kj_Fx p s m args meth c cX8_higher 6 wsX8_higher RX8 (some .int) D (km_T cA) A) {k0 : Nat} (hk0 : k0 < 18) {n : Nat} {x1 : Int32} {x2 : Int32} {x3 : Int32} {x4 : Int32} {x5 : Int32} {z : km_S} {r : (Int32 × km_S)} (h : lm_higher_6 k0 n x1 x2 x3 x4 x5 z = some r) (ke : kj_J p l e rm_X8_higher s m args below meth c 0 0 Q 6 D A ((km_w cA h0 q) (r.2)) 46 [(4, .int (r.1))] []) : kj_J p l e rm_X8_higher s m args below meth c 0 0 Q 6 D A ((km_w cA h0 q) z) 6 [(0, .ref (q k0)), (1, .int x1), (2, .int x2), (3, .int x3), (4, .int x4), (5, .int x5)] [] :=
  kj_it_J (Wh := fun (u : (Int32 × Int32 × Int32 × Int32 × Int32 × km_S)) => kj_J p l e rm_X8_higher s m args below meth c 0 0 Q 6 D A ((km_w cA h0 q) (u.2.2.2.2.2)) 6 [(0, .ref (q k0)), (1, .int (u.1)), (2, .int (u.2.1)), (3, .int (u.2.2.1)), (4, .int (u.2.2.2.1)), (5, .int (u.2.2.2.2.1))] []) (We := fun r => kj_J p l e rm_X8_higher s m args below meth c 0 0 Q 6 D A ((km_w cA h0 q) (r.2)) 46 [(4, .int (r.1))] []) (fun u o h kb ke => jm_higher_6 F hk0 h (fun a0' a1' a2' a3' a4' a5' e => kb (a0', a1', a2', a3', a4', a5') e) (fun a0' a1' e => ke (a0', a1') e)) n (x1, x2, x3, x4, x5, z) r h ke
set_option maxRecDepth 20000 in
theorem jm_higher {p : Program} {l : Launch} {e : Env} {s : State} {m : MethodId} {args : Array Value} {below : List Frame} {meth : Method} {c : Code} {A : Nat → Prop} {D : va_G} {cA : Nat → ClassId} {h0 : Nat} {q : Nat → Nat} (F : kj_Fx p s m args meth c cX8_higher 6 wsX8_higher RX8 (some .int) D (km_T cA) A) {k0 : Nat} (hk0 : k0 < 18) {x1 : Int32} {x2 : Int32} {x3 : Int32} {z : km_S} {o : (Int32 × km_S)} (h : fm_higher k0 x1 x2 x3 z = some o) : kj_J p l e rm_X8_higher s m args below meth c 0 0 (MQ below (kj_Qi D (km_T cA) A (km_w cA h0 q) o) args s 0 0 A) 6 D A ((km_w cA h0 q) z) 0 [(0, .ref (q k0)), (1, .int x1), (2, .int x2), (3, .int x3)] [] := by
  unfold fm_higher at h
  refine kj_iconst F dX8_higher_0 (v := 0) (by decide) ?_
  refine kj_istore F dX8_higher_1 (lv' := [(4, .int (0 : Int32)), (0, .ref (q k0)), (1, .int x1), (2, .int x2), (3, .int x3)]) (by decide) rfl ?_
  refine kj_iconst F dX8_higher_3 (v := 0) (by decide) ?_
  refine kj_istore F dX8_higher_4 (lv' := [(5, .int (0 : Int32)), (4, .int (0 : Int32)), (0, .ref (q k0)), (1, .int x1), (2, .int x2), (3, .int x3)]) (by decide) rfl ?_
  refine kj_J.sub [2, 3, 4, 5, 1, 0] rfl ?_
  refine kj_bn h (fun r1 h1 h => ?_)
  refine jlm_higher_6 F hk0 h1 ?_
  refine kj_iload F dX8_higher_46 0 rfl ?_
  exact kj_iret F dX8_higher_48 h
theorem cm_higher {l : Launch} {D : va_G} {cA : Nat → ClassId} {h0 : Nat} {q : Nat → Nat} {k0 : Nat} (hk0 : k0 < 18) {x1 : Int32} {x2 : Int32} {x3 : Int32} {z : km_S} {o : (Int32 × km_S)} (h : fm_higher k0 x1 x2 x3 z = some o) : kj_Mi l yX8_higher wsX8_higher rm_X8_higher D (km_T cA) (km_w cA h0 q) z [.ref (q k0), .int x1, .int x2, .int x3] o :=
  fun sz => kj_start (by decide) rfl (Nat.le_of_ble_eq_true rfl) rfl fun p e s m args below meth c hsz F => jm_higher F hk0 h
/-! X8_turns -/
abbrev rm_X8_turns : Room := { frames := 2, cells := 0, slots := 0, locals := 46 }
def fm_turns_172 (k0 : Nat) (k1 : Nat) (x1 : Int32) (x2 : Int32) (x4 : Int32) (x5 : Int32) (x6 : Int32) (x7 : Int32) (x8 : Int32) (t0 : Int32) (t1 : Int32) (z : km_S) : Option ((Int32 × Int32 × Int32 × Int32 × Int32 × Int32 × Int32 × km_S) ⊕ (Int32 × Int32 × Int32 × Int32 × Int32 × Int32 × km_S)) :=
  (km_wr z k1 t1 t0).bind fun z1 =>
  some (.inl (x1, x2, x4, x5, x6, x7, (x8 + 1), z1))
def fm_turns_125 (k0 : Nat) (k1 : Nat) (x1 : Int32) (x2 : Int32) (x4 : Int32) (x5 : Int32) (x6 : Int32) (x7 : Int32) (x8 : Int32) (t0 : Int32) (z : km_S) : Option ((Int32 × Int32 × Int32 × Int32 × Int32 × Int32 × Int32 × km_S) ⊕ (Int32 × Int32 × Int32 × Int32 × Int32 × Int32 × km_S)) :=
  (fm_at x7 x8).bind fun o1 =>
  if x2 = 0 then
  (fm_at x8 x7).bind fun o2 =>
  (km_rd z k0 (x1 + o2)).bind fun v3 =>
  fm_turns_172 k0 k1 x1 x2 x4 x5 x6 x7 x8 v3 o1 z
  else
  if x2 = (1 : Int32) then
  (fm_higher k0 x1 x7 x8 z).bind fun o4 =>
  fm_turns_172 k0 k1 x1 x2 x4 x5 x6 x7 x8 (o4.1) o1 (o4.2)
  else
  fm_turns_172 k0 k1 x1 x2 x4 x5 x6 x7 x8 t0 o1 z
def fm_turns_84 (k0 : Nat) (k1 : Nat) (x1 : Int32) (x2 : Int32) (x4 : Int32) (x5 : Int32) (x6 : Int32) (x7 : Int32) (x8 : Int32) (z : km_S) : Option ((Int32 × Int32 × Int32 × Int32 × Int32 × Int32 × Int32 × km_S) ⊕ (Int32 × Int32 × Int32 × Int32 × Int32 × Int32 × km_S)) :=
  (km_rd z k1 (2 : Int32)).bind fun v1 =>
  if v1 ≤ x8 then
  some (.inr (x1, x2, x4, x5, x6, x7, z))
  else
  if x2 = (2 : Int32) then
  (fm_at ((x4 - (1 : Int32)) - x7) ((x5 - (1 : Int32)) - x8)).bind fun o2 =>
  (km_rd z k0 (x1 + o2)).bind fun v3 =>
  fm_turns_125 k0 k1 x1 x2 x4 x5 x6 x7 x8 (x6 - v3) z
  else
  fm_turns_125 k0 k1 x1 x2 x4 x5 x6 x7 x8 (0 : Int32) z
def lm_turns_84 (k0 : Nat) (k1 : Nat) (n : Nat) (x1 : Int32) (x2 : Int32) (x4 : Int32) (x5 : Int32) (x6 : Int32) (x7 : Int32) (x8 : Int32) (z : km_S) : Option (Int32 × Int32 × Int32 × Int32 × Int32 × Int32 × km_S) :=
  kj_it (fun (s : (Int32 × Int32 × Int32 × Int32 × Int32 × Int32 × Int32 × km_S)) => fm_turns_84 k0 k1 (s.1) (s.2.1) (s.2.2.1) (s.2.2.2.1) (s.2.2.2.2.1) (s.2.2.2.2.2.1) (s.2.2.2.2.2.2.1) (s.2.2.2.2.2.2.2)) n (x1, x2, x4, x5, x6, x7, x8, z)
def fm_turns_73 (k0 : Nat) (k1 : Nat) (x1 : Int32) (x2 : Int32) (x4 : Int32) (x5 : Int32) (x6 : Int32) (x7 : Int32) (z : km_S) : Option ((Int32 × Int32 × Int32 × Int32 × Int32 × Int32 × km_S) ⊕ km_S) :=
  (km_rd z k1 (1 : Int32)).bind fun v1 =>
  if v1 ≤ x7 then
  some (.inr z)
  else
  (lm_turns_84 k0 k1 5000 x1 x2 x4 x5 x6 x7 (0 : Int32) z).bind fun r2 =>
  some (.inl ((r2.1), (r2.2.1), (r2.2.2.1), (r2.2.2.2.1), (r2.2.2.2.2.1), ((r2.2.2.2.2.2.1) + 1), (r2.2.2.2.2.2.2)))
def lm_turns_73 (k0 : Nat) (k1 : Nat) (n : Nat) (x1 : Int32) (x2 : Int32) (x4 : Int32) (x5 : Int32) (x6 : Int32) (x7 : Int32) (z : km_S) : Option km_S :=
  kj_it (fun (s : (Int32 × Int32 × Int32 × Int32 × Int32 × Int32 × km_S)) => fm_turns_73 k0 k1 (s.1) (s.2.1) (s.2.2.1) (s.2.2.2.1) (s.2.2.2.2.1) (s.2.2.2.2.2.1) (s.2.2.2.2.2.2)) n (x1, x2, x4, x5, x6, x7, z)
def fm_turns_67 (k0 : Nat) (k1 : Nat) (x1 : Int32) (x2 : Int32) (x4 : Int32) (x5 : Int32) (x6 : Int32) (t0 : Int32) (t1 : Int32) (t2 : Int32) (z : km_S) : Option km_S :=
  (fm_begins k1 t2 t1 t0 z).bind fun o1 =>
  (lm_turns_73 k0 k1 5000 x1 x2 x4 x5 x6 (0 : Int32) o1).bind fun r2 =>
  some (r2)
def fm_turns_55 (k0 : Nat) (k1 : Nat) (x1 : Int32) (x2 : Int32) (x4 : Int32) (x5 : Int32) (x6 : Int32) (t0 : Int32) (t1 : Int32) (z : km_S) : Option km_S :=
  if x2 = (1 : Int32) then
  fm_turns_67 k0 k1 x1 x2 x4 x5 x6 x4 t0 t1 z
  else
  fm_turns_67 k0 k1 x1 x2 x4 x5 x6 x6 t0 t1 z
def fm_turns_34 (k0 : Nat) (k1 : Nat) (x1 : Int32) (x2 : Int32) (x4 : Int32) (x5 : Int32) (x6 : Int32) (t0 : Int32) (z : km_S) : Option km_S :=
  if x2 = 0 then
  fm_turns_55 k0 k1 x1 x2 x4 x5 x6 x4 t0 z
  else
  if x2 = (1 : Int32) then
  fm_turns_55 k0 k1 x1 x2 x4 x5 x6 x6 t0 z
  else
  fm_turns_55 k0 k1 x1 x2 x4 x5 x6 x5 t0 z
def fm_turns (k0 : Nat) (k1 : Nat) (x1 : Int32) (x2 : Int32) (z : km_S) : Option km_S :=
  (km_rd z k0 (x1 + (1 : Int32))).bind fun v1 =>
  (km_rd z k0 (x1 + (2 : Int32))).bind fun v2 =>
  (km_rd z k0 (x1 + (3 : Int32))).bind fun v3 =>
  if x2 = (2 : Int32) then
  fm_turns_34 k0 k1 x1 x2 v1 v2 v3 v1 z
  else
  fm_turns_34 k0 k1 x1 x2 v1 v2 v3 v2 z
set_option maxRecDepth 20000 in
theorem jm_turns_172 {p : Program} {l : Launch} {e : Env} {s : State} {m : MethodId} {args : Array Value} {below : List Frame} {meth : Method} {c : Code} {A : Nat → Prop} {D : va_G} {cA : Nat → ClassId} {h0 : Nat} {q : Nat → Nat} {Q : State → Prop} (F : kj_Fx p s m args meth c cX8_turns 10 wsX8_turns RX8 none D (km_T cA) A) {k0 : Nat} (hk0 : k0 < 18) {k1 : Nat} (hk1 : k1 < 18) {x1 : Int32} {x2 : Int32} {x4 : Int32} {x5 : Int32} {x6 : Int32} {x7 : Int32} {x8 : Int32} {t0 : Int32} {t1 : Int32} {z : km_S} {o : ((Int32 × Int32 × Int32 × Int32 × Int32 × Int32 × Int32 × km_S) ⊕ (Int32 × Int32 × Int32 × Int32 × Int32 × Int32 × km_S))} (h : fm_turns_172 k0 k1 x1 x2 x4 x5 x6 x7 x8 t0 t1 z = some o) (kb : ∀ (a0' : Int32) (a1' : Int32) (a2' : Int32) (a3' : Int32) (a4' : Int32) (a5' : Int32) (a6' : Int32) (a7' : km_S), o = .inl (a0', a1', a2', a3', a4', a5', a6', a7') → kj_J p l e rm_X8_turns s m args below meth c 0 0 Q 10 D A ((km_w cA h0 q) a7') 84 [(0, .ref (q k0)), (1, .int a0'), (2, .int a1'), (3, .ref (q k1)), (4, .int a2'), (5, .int a3'), (6, .int a4'), (7, .int a5'), (8, .int a6')] []) (ke0 : ∀ (a0' : Int32) (a1' : Int32) (a2' : Int32) (a3' : Int32) (a4' : Int32) (a5' : Int32) (a6' : km_S), o = .inr (a0', a1', a2', a3', a4', a5', a6') → kj_J p l e rm_X8_turns s m args below meth c 0 0 Q 10 D A ((km_w cA h0 q) a6') 179 [(0, .ref (q k0)), (1, .int a0'), (2, .int a1'), (3, .ref (q k1)), (4, .int a2'), (5, .int a3'), (6, .int a4'), (7, .int a5')] []) : kj_J p l e rm_X8_turns s m args below meth c 0 0 Q 10 D A ((km_w cA h0 q) z) 172 [(0, .ref (q k0)), (1, .int x1), (2, .int x2), (3, .ref (q k1)), (4, .int x4), (5, .int x5), (6, .int x6), (7, .int x7), (8, .int x8)] [.int t0, .int t1, .ref (q k1)] := by
  unfold fm_turns_172 at h
  refine km_iast F dX8_turns_172 k1 hk1 h (fun z1 h => ?_)
  refine kj_iinc F dX8_turns_173 8 rfl (v := 1) (by decide) (by decide) (lv' := [(8, .int (x8 + 1)), (0, .ref (q k0)), (1, .int x1), (2, .int x2), (3, .ref (q k1)), (4, .int x4), (5, .int x5), (6, .int x6), (7, .int x7)]) rfl ?_
  refine kj_goto F dX8_turns_176 (tgt := 84) (by decide) ?_
  refine kj_J.sub [1, 2, 3, 4, 5, 6, 7, 8, 0] rfl ?_
  exact kb x1 x2 x4 x5 x6 x7 (x8 + 1) z1 (Option.some.inj h).symm
set_option maxRecDepth 20000 in
theorem jm_turns_125 {p : Program} {l : Launch} {e : Env} {s : State} {m : MethodId} {args : Array Value} {below : List Frame} {meth : Method} {c : Code} {A : Nat → Prop} {D : va_G} {cA : Nat → ClassId} {h0 : Nat} {q : Nat → Nat} {Q : State → Prop} (F : kj_Fx p s m args meth c cX8_turns 10 wsX8_turns RX8 none D (km_T cA) A) {k0 : Nat} (hk0 : k0 < 18) {k1 : Nat} (hk1 : k1 < 18) {x1 : Int32} {x2 : Int32} {x4 : Int32} {x5 : Int32} {x6 : Int32} {x7 : Int32} {x8 : Int32} {t0 : Int32} {z : km_S} {o : ((Int32 × Int32 × Int32 × Int32 × Int32 × Int32 × Int32 × km_S) ⊕ (Int32 × Int32 × Int32 × Int32 × Int32 × Int32 × km_S))} (h : fm_turns_125 k0 k1 x1 x2 x4 x5 x6 x7 x8 t0 z = some o) (kb : ∀ (a0' : Int32) (a1' : Int32) (a2' : Int32) (a3' : Int32) (a4' : Int32) (a5' : Int32) (a6' : Int32) (a7' : km_S), o = .inl (a0', a1', a2', a3', a4', a5', a6', a7') → kj_J p l e rm_X8_turns s m args below meth c 0 0 Q 10 D A ((km_w cA h0 q) a7') 84 [(0, .ref (q k0)), (1, .int a0'), (2, .int a1'), (3, .ref (q k1)), (4, .int a2'), (5, .int a3'), (6, .int a4'), (7, .int a5'), (8, .int a6')] []) (ke0 : ∀ (a0' : Int32) (a1' : Int32) (a2' : Int32) (a3' : Int32) (a4' : Int32) (a5' : Int32) (a6' : km_S), o = .inr (a0', a1', a2', a3', a4', a5', a6') → kj_J p l e rm_X8_turns s m args below meth c 0 0 Q 10 D A ((km_w cA h0 q) a6') 179 [(0, .ref (q k0)), (1, .int a0'), (2, .int a1'), (3, .ref (q k1)), (4, .int a2'), (5, .int a3'), (6, .int a4'), (7, .int a5')] []) : kj_J p l e rm_X8_turns s m args below meth c 0 0 Q 10 D A ((km_w cA h0 q) z) 125 [(0, .ref (q k0)), (1, .int x1), (2, .int x2), (3, .ref (q k1)), (4, .int x4), (5, .int x5), (6, .int x6), (7, .int x7), (8, .int x8)] [.int t0] := by
  unfold fm_turns_125 at h
  refine kj_istore F dX8_turns_125 (lv' := [(9, .int t0), (0, .ref (q k0)), (1, .int x1), (2, .int x2), (3, .ref (q k1)), (4, .int x4), (5, .int x5), (6, .int x6), (7, .int x7), (8, .int x8)]) (by decide) rfl ?_
  refine kj_aload_n F dX8_turns_127 4 rfl rfl ?_
  refine kj_iload F dX8_turns_128 8 rfl ?_
  refine kj_iload F dX8_turns_130 9 rfl ?_
  refine kj_cSip (As := [.int x7, .int x8]) (rest := [.ref (q k1)]) F dX8_turns_132 h (fun o h1 => cm_at (w := (km_w cA h0 q)) h1) (va_cwS 2 F.2.2.2.2.1 gX8_turns_X8_at rfl rfl rfl (by decide +kernel) ⟨Nat.le_of_ble_eq_true rfl, Nat.le_of_ble_eq_true rfl⟩) rfl rfl (Nat.le_of_ble_eq_true rfl) ⟨Nat.zero_le _, Nat.zero_le _⟩ (fun o1 h => ?_)
  refine kj_iload_n F dX8_turns_135 3 rfl rfl ?_
  refine kj_if_ne F dX8_turns_136 (tgt := 153) (by decide) h (fun hc h => ?_) (fun hc h => ?_)
  · refine kj_aload_n F dX8_turns_139 1 rfl rfl ?_
    refine kj_iload_n F dX8_turns_140 2 rfl rfl ?_
    refine kj_iload F dX8_turns_141 9 rfl ?_
    refine kj_iload F dX8_turns_143 8 rfl ?_
    refine kj_cSip (As := [.int x8, .int x7]) (rest := [.int x1, .ref (q k0), .int o1, .ref (q k1)]) F dX8_turns_145 h (fun o h1 => cm_at (w := (km_w cA h0 q)) h1) (va_cwS 2 F.2.2.2.2.1 gX8_turns_X8_at rfl rfl rfl (by decide +kernel) ⟨Nat.le_of_ble_eq_true rfl, Nat.le_of_ble_eq_true rfl⟩) rfl rfl (Nat.le_of_ble_eq_true rfl) ⟨Nat.zero_le _, Nat.zero_le _⟩ (fun o2 h => ?_)
    refine kj_iadd F dX8_turns_148 ?_
    refine km_iald F dX8_turns_149 k0 hk0 h (fun v3 h => ?_)
    refine kj_goto F dX8_turns_150 (tgt := 172) (by decide) ?_
    refine kj_J.sub [1, 2, 3, 4, 5, 6, 7, 8, 9] rfl ?_
    exact jm_turns_172 F hk0 hk1 h kb ke0
  · refine kj_iload_n F dX8_turns_153 3 rfl rfl ?_
    refine kj_iconst F dX8_turns_154 (v := 1) (by decide) ?_
    refine kj_icmp_ne F dX8_turns_155 (tgt := 170) (by decide) h (fun hc h => ?_) (fun hc h => ?_)
    · refine kj_aload_n F dX8_turns_158 1 rfl rfl ?_
      refine kj_iload_n F dX8_turns_159 2 rfl rfl ?_
      refine kj_iload F dX8_turns_160 8 rfl ?_
      refine kj_iload F dX8_turns_162 9 rfl ?_
      refine kj_cSi (As := [.ref (q k0), .int x1, .int x7, .int x8]) (rest := [.int o1, .ref (q k1)]) F dX8_turns_164 h (fun o h1 => cm_higher hk0 h1) (va_cwS 4 F.2.2.2.2.1 gX8_turns_X8_higher rfl rfl rfl (by decide +kernel) ⟨Nat.le_of_ble_eq_true rfl, Nat.le_of_ble_eq_true rfl⟩) rfl rfl (Nat.le_of_ble_eq_true rfl) ⟨Nat.zero_le _, Nat.zero_le _⟩ (fun o4 h => ?_)
      refine kj_goto F dX8_turns_167 (tgt := 172) (by decide) ?_
      refine kj_J.sub [1, 2, 3, 4, 5, 6, 7, 8, 9] rfl ?_
      exact jm_turns_172 F hk0 hk1 h kb ke0
    · refine kj_iload F dX8_turns_170 0 rfl ?_
      refine kj_J.sub [1, 2, 3, 4, 5, 6, 7, 8, 9] rfl ?_
      exact jm_turns_172 F hk0 hk1 h kb ke0
set_option maxRecDepth 20000 in
theorem jm_turns_84 {p : Program} {l : Launch} {e : Env} {s : State} {m : MethodId} {args : Array Value} {below : List Frame} {meth : Method} {c : Code} {A : Nat → Prop} {D : va_G} {cA : Nat → ClassId} {h0 : Nat} {q : Nat → Nat} {Q : State → Prop} (F : kj_Fx p s m args meth c cX8_turns 10 wsX8_turns RX8 none D (km_T cA) A) {k0 : Nat} (hk0 : k0 < 18) {k1 : Nat} (hk1 : k1 < 18) {x1 : Int32} {x2 : Int32} {x4 : Int32} {x5 : Int32} {x6 : Int32} {x7 : Int32} {x8 : Int32} {z : km_S} {o : ((Int32 × Int32 × Int32 × Int32 × Int32 × Int32 × Int32 × km_S) ⊕ (Int32 × Int32 × Int32 × Int32 × Int32 × Int32 × km_S))} (h : fm_turns_84 k0 k1 x1 x2 x4 x5 x6 x7 x8 z = some o) (kb : ∀ (a0' : Int32) (a1' : Int32) (a2' : Int32) (a3' : Int32) (a4' : Int32) (a5' : Int32) (a6' : Int32) (a7' : km_S), o = .inl (a0', a1', a2', a3', a4', a5', a6', a7') → kj_J p l e rm_X8_turns s m args below meth c 0 0 Q 10 D A ((km_w cA h0 q) a7') 84 [(0, .ref (q k0)), (1, .int a0'), (2, .int a1'), (3, .ref (q k1)), (4, .int a2'), (5, .int a3'), (6, .int a4'), (7, .int a5'), (8, .int a6')] []) (ke0 : ∀ (a0' : Int32) (a1' : Int32) (a2' : Int32) (a3' : Int32) (a4' : Int32) (a5' : Int32) (a6' : km_S), o = .inr (a0', a1', a2', a3', a4', a5', a6') → kj_J p l e rm_X8_turns s m args below meth c 0 0 Q 10 D A ((km_w cA h0 q) a6') 179 [(0, .ref (q k0)), (1, .int a0'), (2, .int a1'), (3, .ref (q k1)), (4, .int a2'), (5, .int a3'), (6, .int a4'), (7, .int a5')] []) : kj_J p l e rm_X8_turns s m args below meth c 0 0 Q 10 D A ((km_w cA h0 q) z) 84 [(0, .ref (q k0)), (1, .int x1), (2, .int x2), (3, .ref (q k1)), (4, .int x4), (5, .int x5), (6, .int x6), (7, .int x7), (8, .int x8)] [] := by
  unfold fm_turns_84 at h
  refine kj_iload F dX8_turns_84 8 rfl ?_
  refine kj_aload_n F dX8_turns_86 3 rfl rfl ?_
  refine kj_iconst F dX8_turns_87 (v := 2) (by decide) ?_
  refine km_iald F dX8_turns_88 k1 hk1 h (fun v1 h => ?_)
  refine kj_icmp_ge F dX8_turns_89 (tgt := 179) (by decide) h (fun hc h => ?_) (fun hc h => ?_)
  · refine kj_J.sub [0, 1, 2, 3, 4, 5, 6, 7] rfl ?_
    exact ke0 x1 x2 x4 x5 x6 x7 z (Option.some.inj h).symm
  · refine kj_iload_n F dX8_turns_92 2 rfl rfl ?_
    refine kj_iconst F dX8_turns_93 (v := 2) (by decide) ?_
    refine kj_icmp_ne F dX8_turns_94 (tgt := 124) (by decide) h (fun hc h => ?_) (fun hc h => ?_)
    · refine kj_iload F dX8_turns_97 6 rfl ?_
      refine kj_aload_n F dX8_turns_99 0 rfl rfl ?_
      refine kj_iload_n F dX8_turns_100 1 rfl rfl ?_
      refine kj_iload F dX8_turns_101 4 rfl ?_
      refine kj_iconst F dX8_turns_103 (v := 1) (by decide) ?_
      refine kj_isub F dX8_turns_104 ?_
      refine kj_iload F dX8_turns_105 7 rfl ?_
      refine kj_isub F dX8_turns_107 ?_
      refine kj_iload F dX8_turns_108 5 rfl ?_
      refine kj_iconst F dX8_turns_110 (v := 1) (by decide) ?_
      refine kj_isub F dX8_turns_111 ?_
      refine kj_iload F dX8_turns_112 8 rfl ?_
      refine kj_isub F dX8_turns_114 ?_
      refine kj_cSip (As := [.int ((x4 - (1 : Int32)) - x7), .int ((x5 - (1 : Int32)) - x8)]) (rest := [.int x1, .ref (q k0), .int x6]) F dX8_turns_115 h (fun o h1 => cm_at (w := (km_w cA h0 q)) h1) (va_cwS 2 F.2.2.2.2.1 gX8_turns_X8_at rfl rfl rfl (by decide +kernel) ⟨Nat.le_of_ble_eq_true rfl, Nat.le_of_ble_eq_true rfl⟩) rfl rfl (Nat.le_of_ble_eq_true rfl) ⟨Nat.zero_le _, Nat.zero_le _⟩ (fun o2 h => ?_)
      refine kj_iadd F dX8_turns_118 ?_
      refine km_iald F dX8_turns_119 k0 hk0 h (fun v3 h => ?_)
      refine kj_isub F dX8_turns_120 ?_
      refine kj_goto F dX8_turns_121 (tgt := 125) (by decide) ?_
      exact jm_turns_125 F hk0 hk1 h kb ke0
    · refine kj_iconst F dX8_turns_124 (v := 0) (by decide) ?_
      exact jm_turns_125 F hk0 hk1 h kb ke0
theorem jlm_turns_84 {p : Program} {l : Launch} {e : Env} {s : State} {m : MethodId} {args : Array Value} {below : List Frame} {meth : Method} {c : Code} {A : Nat → Prop} {D : va_G} {cA : Nat → ClassId} {h0 : Nat} {q : Nat → Nat} {Q : State → Prop} (F : kj_Fx p s m args meth c cX8_turns 10 wsX8_turns RX8 none D (km_T cA) A) {k0 : Nat} (hk0 : k0 < 18) {k1 : Nat} (hk1 : k1 < 18) {n : Nat} {x1 : Int32} {x2 : Int32} {x4 : Int32} {x5 : Int32} {x6 : Int32} {x7 : Int32} {x8 : Int32} {z : km_S} {r : (Int32 × Int32 × Int32 × Int32 × Int32 × Int32 × km_S)} (h : lm_turns_84 k0 k1 n x1 x2 x4 x5 x6 x7 x8 z = some r) (ke : kj_J p l e rm_X8_turns s m args below meth c 0 0 Q 10 D A ((km_w cA h0 q) (r.2.2.2.2.2.2)) 179 [(0, .ref (q k0)), (1, .int (r.1)), (2, .int (r.2.1)), (3, .ref (q k1)), (4, .int (r.2.2.1)), (5, .int (r.2.2.2.1)), (6, .int (r.2.2.2.2.1)), (7, .int (r.2.2.2.2.2.1))] []) : kj_J p l e rm_X8_turns s m args below meth c 0 0 Q 10 D A ((km_w cA h0 q) z) 84 [(0, .ref (q k0)), (1, .int x1), (2, .int x2), (3, .ref (q k1)), (4, .int x4), (5, .int x5), (6, .int x6), (7, .int x7), (8, .int x8)] [] :=
  kj_it_J (Wh := fun (u : (Int32 × Int32 × Int32 × Int32 × Int32 × Int32 × Int32 × km_S)) => kj_J p l e rm_X8_turns s m args below meth c 0 0 Q 10 D A ((km_w cA h0 q) (u.2.2.2.2.2.2.2)) 84 [(0, .ref (q k0)), (1, .int (u.1)), (2, .int (u.2.1)), (3, .ref (q k1)), (4, .int (u.2.2.1)), (5, .int (u.2.2.2.1)), (6, .int (u.2.2.2.2.1)), (7, .int (u.2.2.2.2.2.1)), (8, .int (u.2.2.2.2.2.2.1))] []) (We := fun r => kj_J p l e rm_X8_turns s m args below meth c 0 0 Q 10 D A ((km_w cA h0 q) (r.2.2.2.2.2.2)) 179 [(0, .ref (q k0)), (1, .int (r.1)), (2, .int (r.2.1)), (3, .ref (q k1)), (4, .int (r.2.2.1)), (5, .int (r.2.2.2.1)), (6, .int (r.2.2.2.2.1)), (7, .int (r.2.2.2.2.2.1))] []) (fun u o h kb ke => jm_turns_84 F hk0 hk1 h (fun a0' a1' a2' a3' a4' a5' a6' a7' e => kb (a0', a1', a2', a3', a4', a5', a6', a7') e) (fun a0' a1' a2' a3' a4' a5' a6' e => ke (a0', a1', a2', a3', a4', a5', a6') e)) n (x1, x2, x4, x5, x6, x7, x8, z) r h ke
set_option maxRecDepth 20000 in
theorem jm_turns_73 {p : Program} {l : Launch} {e : Env} {s : State} {m : MethodId} {args : Array Value} {below : List Frame} {meth : Method} {c : Code} {A : Nat → Prop} {D : va_G} {cA : Nat → ClassId} {h0 : Nat} {q : Nat → Nat} {Q : State → Prop} (F : kj_Fx p s m args meth c cX8_turns 10 wsX8_turns RX8 none D (km_T cA) A) {k0 : Nat} (hk0 : k0 < 18) {k1 : Nat} (hk1 : k1 < 18) {x1 : Int32} {x2 : Int32} {x4 : Int32} {x5 : Int32} {x6 : Int32} {x7 : Int32} {z : km_S} {o : ((Int32 × Int32 × Int32 × Int32 × Int32 × Int32 × km_S) ⊕ km_S)} (h : fm_turns_73 k0 k1 x1 x2 x4 x5 x6 x7 z = some o) (kb : ∀ (a0' : Int32) (a1' : Int32) (a2' : Int32) (a3' : Int32) (a4' : Int32) (a5' : Int32) (a6' : km_S), o = .inl (a0', a1', a2', a3', a4', a5', a6') → kj_J p l e rm_X8_turns s m args below meth c 0 0 Q 10 D A ((km_w cA h0 q) a6') 73 [(0, .ref (q k0)), (1, .int a0'), (2, .int a1'), (3, .ref (q k1)), (4, .int a2'), (5, .int a3'), (6, .int a4'), (7, .int a5')] []) (ke0 : ∀ (a0' : km_S), o = .inr a0' → kj_J p l e rm_X8_turns s m args below meth c 0 0 Q 10 D A ((km_w cA h0 q) a0') 185 [] []) : kj_J p l e rm_X8_turns s m args below meth c 0 0 Q 10 D A ((km_w cA h0 q) z) 73 [(0, .ref (q k0)), (1, .int x1), (2, .int x2), (3, .ref (q k1)), (4, .int x4), (5, .int x5), (6, .int x6), (7, .int x7)] [] := by
  unfold fm_turns_73 at h
  refine kj_iload F dX8_turns_73 7 rfl ?_
  refine kj_aload_n F dX8_turns_75 3 rfl rfl ?_
  refine kj_iconst F dX8_turns_76 (v := 1) (by decide) ?_
  refine km_iald F dX8_turns_77 k1 hk1 h (fun v1 h => ?_)
  refine kj_icmp_ge F dX8_turns_78 (tgt := 185) (by decide) h (fun hc h => ?_) (fun hc h => ?_)
  · refine kj_J.sub [] rfl ?_
    exact ke0 z (Option.some.inj h).symm
  · refine kj_iconst F dX8_turns_81 (v := 0) (by decide) ?_
    refine kj_istore F dX8_turns_82 (lv' := [(8, .int (0 : Int32)), (0, .ref (q k0)), (1, .int x1), (2, .int x2), (3, .ref (q k1)), (4, .int x4), (5, .int x5), (6, .int x6), (7, .int x7)]) (by decide) rfl ?_
    refine kj_J.sub [1, 2, 3, 4, 5, 6, 7, 8, 0] rfl ?_
    refine kj_bn h (fun r2 h1 h => ?_)
    refine jlm_turns_84 F hk0 hk1 h1 ?_
    refine kj_iinc F dX8_turns_179 7 rfl (v := 1) (by decide) (by decide) (lv' := [(7, .int ((r2.2.2.2.2.2.1) + 1)), (0, .ref (q k0)), (1, .int (r2.1)), (2, .int (r2.2.1)), (3, .ref (q k1)), (4, .int (r2.2.2.1)), (5, .int (r2.2.2.2.1)), (6, .int (r2.2.2.2.2.1))]) rfl ?_
    refine kj_goto F dX8_turns_182 (tgt := 73) (by decide) ?_
    refine kj_J.sub [1, 2, 3, 4, 5, 6, 7, 0] rfl ?_
    exact kb (r2.1) (r2.2.1) (r2.2.2.1) (r2.2.2.2.1) (r2.2.2.2.2.1) ((r2.2.2.2.2.2.1) + 1) (r2.2.2.2.2.2.2) (Option.some.inj h).symm
theorem jlm_turns_73 {p : Program} {l : Launch} {e : Env} {s : State} {m : MethodId} {args : Array Value} {below : List Frame} {meth : Method} {c : Code} {A : Nat → Prop} {D : va_G} {cA : Nat → ClassId} {h0 : Nat} {q : Nat → Nat} {Q : State → Prop} (F : kj_Fx p s m args meth c cX8_turns 10 wsX8_turns RX8 none D (km_T cA) A) {k0 : Nat} (hk0 : k0 < 18) {k1 : Nat} (hk1 : k1 < 18) {n : Nat} {x1 : Int32} {x2 : Int32} {x4 : Int32} {x5 : Int32} {x6 : Int32} {x7 : Int32} {z : km_S} {r : km_S} (h : lm_turns_73 k0 k1 n x1 x2 x4 x5 x6 x7 z = some r) (ke : kj_J p l e rm_X8_turns s m args below meth c 0 0 Q 10 D A ((km_w cA h0 q) (r)) 185 [] []) : kj_J p l e rm_X8_turns s m args below meth c 0 0 Q 10 D A ((km_w cA h0 q) z) 73 [(0, .ref (q k0)), (1, .int x1), (2, .int x2), (3, .ref (q k1)), (4, .int x4), (5, .int x5), (6, .int x6), (7, .int x7)] [] :=
  kj_it_J (Wh := fun (u : (Int32 × Int32 × Int32 × Int32 × Int32 × Int32 × km_S)) => kj_J p l e rm_X8_turns s m args below meth c 0 0 Q 10 D A ((km_w cA h0 q) (u.2.2.2.2.2.2)) 73 [(0, .ref (q k0)), (1, .int (u.1)), (2, .int (u.2.1)), (3, .ref (q k1)), (4, .int (u.2.2.1)), (5, .int (u.2.2.2.1)), (6, .int (u.2.2.2.2.1)), (7, .int (u.2.2.2.2.2.1))] []) (We := fun r => kj_J p l e rm_X8_turns s m args below meth c 0 0 Q 10 D A ((km_w cA h0 q) (r)) 185 [] []) (fun u o h kb ke => jm_turns_73 F hk0 hk1 h (fun a0' a1' a2' a3' a4' a5' a6' e => kb (a0', a1', a2', a3', a4', a5', a6') e) (fun a0' e => ke a0' e)) n (x1, x2, x4, x5, x6, x7, z) r h ke
set_option maxRecDepth 20000 in
theorem jm_turns_67 {p : Program} {l : Launch} {e : Env} {s : State} {m : MethodId} {args : Array Value} {below : List Frame} {meth : Method} {c : Code} {A : Nat → Prop} {D : va_G} {cA : Nat → ClassId} {h0 : Nat} {q : Nat → Nat} (F : kj_Fx p s m args meth c cX8_turns 10 wsX8_turns RX8 none D (km_T cA) A) {k0 : Nat} (hk0 : k0 < 18) {k1 : Nat} (hk1 : k1 < 18) {x1 : Int32} {x2 : Int32} {x4 : Int32} {x5 : Int32} {x6 : Int32} {t0 : Int32} {t1 : Int32} {t2 : Int32} {z : km_S} {o : km_S} (h : fm_turns_67 k0 k1 x1 x2 x4 x5 x6 t0 t1 t2 z = some o) : kj_J p l e rm_X8_turns s m args below meth c 0 0 (MQ below (kj_Qv D (km_T cA) A (km_w cA h0 q) o) args s 0 0 A) 10 D A ((km_w cA h0 q) z) 67 [(0, .ref (q k0)), (1, .int x1), (2, .int x2), (3, .ref (q k1)), (4, .int x4), (5, .int x5), (6, .int x6)] [.int t0, .int t1, .int t2, .ref (q k1)] := by
  unfold fm_turns_67 at h
  refine kj_cSv (As := [.ref (q k1), .int t2, .int t1, .int t0]) (rest := []) F dX8_turns_67 h (fun o h1 => cm_begins hk1 h1) (va_cwS 4 F.2.2.2.2.1 gX8_turns_X8_begins rfl rfl rfl (by decide +kernel) ⟨Nat.le_of_ble_eq_true rfl, Nat.le_of_ble_eq_true rfl⟩) rfl rfl (Nat.le_of_ble_eq_true rfl) ⟨Nat.zero_le _, Nat.zero_le _⟩ (fun o1 h => ?_)
  refine kj_iconst F dX8_turns_70 (v := 0) (by decide) ?_
  refine kj_istore F dX8_turns_71 (lv' := [(7, .int (0 : Int32)), (0, .ref (q k0)), (1, .int x1), (2, .int x2), (3, .ref (q k1)), (4, .int x4), (5, .int x5), (6, .int x6)]) (by decide) rfl ?_
  refine kj_J.sub [1, 2, 3, 4, 5, 6, 7, 0] rfl ?_
  refine kj_bn h (fun r2 h1 h => ?_)
  refine jlm_turns_73 F hk0 hk1 h1 ?_
  exact kj_vret F dX8_turns_185 h
set_option maxRecDepth 20000 in
theorem jm_turns_55 {p : Program} {l : Launch} {e : Env} {s : State} {m : MethodId} {args : Array Value} {below : List Frame} {meth : Method} {c : Code} {A : Nat → Prop} {D : va_G} {cA : Nat → ClassId} {h0 : Nat} {q : Nat → Nat} (F : kj_Fx p s m args meth c cX8_turns 10 wsX8_turns RX8 none D (km_T cA) A) {k0 : Nat} (hk0 : k0 < 18) {k1 : Nat} (hk1 : k1 < 18) {x1 : Int32} {x2 : Int32} {x4 : Int32} {x5 : Int32} {x6 : Int32} {t0 : Int32} {t1 : Int32} {z : km_S} {o : km_S} (h : fm_turns_55 k0 k1 x1 x2 x4 x5 x6 t0 t1 z = some o) : kj_J p l e rm_X8_turns s m args below meth c 0 0 (MQ below (kj_Qv D (km_T cA) A (km_w cA h0 q) o) args s 0 0 A) 10 D A ((km_w cA h0 q) z) 55 [(0, .ref (q k0)), (1, .int x1), (2, .int x2), (3, .ref (q k1)), (4, .int x4), (5, .int x5), (6, .int x6)] [.int t0, .int t1, .ref (q k1)] := by
  unfold fm_turns_55 at h
  refine kj_iload_n F dX8_turns_55 2 rfl rfl ?_
  refine kj_iconst F dX8_turns_56 (v := 1) (by decide) ?_
  refine kj_icmp_ne F dX8_turns_57 (tgt := 65) (by decide) h (fun hc h => ?_) (fun hc h => ?_)
  · refine kj_iload F dX8_turns_60 4 rfl ?_
    refine kj_goto F dX8_turns_62 (tgt := 67) (by decide) ?_
    exact jm_turns_67 F hk0 hk1 h
  · refine kj_iload F dX8_turns_65 6 rfl ?_
    exact jm_turns_67 F hk0 hk1 h
set_option maxRecDepth 20000 in
theorem jm_turns_34 {p : Program} {l : Launch} {e : Env} {s : State} {m : MethodId} {args : Array Value} {below : List Frame} {meth : Method} {c : Code} {A : Nat → Prop} {D : va_G} {cA : Nat → ClassId} {h0 : Nat} {q : Nat → Nat} (F : kj_Fx p s m args meth c cX8_turns 10 wsX8_turns RX8 none D (km_T cA) A) {k0 : Nat} (hk0 : k0 < 18) {k1 : Nat} (hk1 : k1 < 18) {x1 : Int32} {x2 : Int32} {x4 : Int32} {x5 : Int32} {x6 : Int32} {t0 : Int32} {z : km_S} {o : km_S} (h : fm_turns_34 k0 k1 x1 x2 x4 x5 x6 t0 z = some o) : kj_J p l e rm_X8_turns s m args below meth c 0 0 (MQ below (kj_Qv D (km_T cA) A (km_w cA h0 q) o) args s 0 0 A) 10 D A ((km_w cA h0 q) z) 34 [(0, .ref (q k0)), (1, .int x1), (2, .int x2), (3, .ref (q k1)), (4, .int x4), (5, .int x5), (6, .int x6)] [.int t0, .ref (q k1)] := by
  unfold fm_turns_34 at h
  refine kj_iload_n F dX8_turns_34 2 rfl rfl ?_
  refine kj_if_ne F dX8_turns_35 (tgt := 43) (by decide) h (fun hc h => ?_) (fun hc h => ?_)
  · refine kj_iload F dX8_turns_38 4 rfl ?_
    refine kj_goto F dX8_turns_40 (tgt := 55) (by decide) ?_
    exact jm_turns_55 F hk0 hk1 h
  · refine kj_iload_n F dX8_turns_43 2 rfl rfl ?_
    refine kj_iconst F dX8_turns_44 (v := 1) (by decide) ?_
    refine kj_icmp_ne F dX8_turns_45 (tgt := 53) (by decide) h (fun hc h => ?_) (fun hc h => ?_)
    · refine kj_iload F dX8_turns_48 6 rfl ?_
      refine kj_goto F dX8_turns_50 (tgt := 55) (by decide) ?_
      exact jm_turns_55 F hk0 hk1 h
    · refine kj_iload F dX8_turns_53 5 rfl ?_
      exact jm_turns_55 F hk0 hk1 h
set_option maxRecDepth 20000 in
theorem jm_turns {p : Program} {l : Launch} {e : Env} {s : State} {m : MethodId} {args : Array Value} {below : List Frame} {meth : Method} {c : Code} {A : Nat → Prop} {D : va_G} {cA : Nat → ClassId} {h0 : Nat} {q : Nat → Nat} (F : kj_Fx p s m args meth c cX8_turns 10 wsX8_turns RX8 none D (km_T cA) A) {k0 : Nat} (hk0 : k0 < 18) {k1 : Nat} (hk1 : k1 < 18) {x1 : Int32} {x2 : Int32} {z : km_S} {o : km_S} (h : fm_turns k0 k1 x1 x2 z = some o) : kj_J p l e rm_X8_turns s m args below meth c 0 0 (MQ below (kj_Qv D (km_T cA) A (km_w cA h0 q) o) args s 0 0 A) 10 D A ((km_w cA h0 q) z) 0 [(0, .ref (q k0)), (1, .int x1), (2, .int x2), (3, .ref (q k1))] [] := by
  unfold fm_turns at h
  refine kj_aload_n F dX8_turns_0 0 rfl rfl ?_
  refine kj_iload_n F dX8_turns_1 1 rfl rfl ?_
  refine kj_iconst F dX8_turns_2 (v := 1) (by decide) ?_
  refine kj_iadd F dX8_turns_3 ?_
  refine km_iald F dX8_turns_4 k0 hk0 h (fun v1 h => ?_)
  refine kj_istore F dX8_turns_5 (lv' := [(4, .int v1), (0, .ref (q k0)), (1, .int x1), (2, .int x2), (3, .ref (q k1))]) (by decide) rfl ?_
  refine kj_aload_n F dX8_turns_7 1 rfl rfl ?_
  refine kj_iload_n F dX8_turns_8 2 rfl rfl ?_
  refine kj_iconst F dX8_turns_9 (v := 2) (by decide) ?_
  refine kj_iadd F dX8_turns_10 ?_
  refine km_iald F dX8_turns_11 k0 hk0 h (fun v2 h => ?_)
  refine kj_istore F dX8_turns_12 (lv' := [(5, .int v2), (4, .int v1), (0, .ref (q k0)), (1, .int x1), (2, .int x2), (3, .ref (q k1))]) (by decide) rfl ?_
  refine kj_aload_n F dX8_turns_14 2 rfl rfl ?_
  refine kj_iload_n F dX8_turns_15 3 rfl rfl ?_
  refine kj_iconst F dX8_turns_16 (v := 3) (by decide) ?_
  refine kj_iadd F dX8_turns_17 ?_
  refine km_iald F dX8_turns_18 k0 hk0 h (fun v3 h => ?_)
  refine kj_istore F dX8_turns_19 (lv' := [(6, .int v3), (5, .int v2), (4, .int v1), (0, .ref (q k0)), (1, .int x1), (2, .int x2), (3, .ref (q k1))]) (by decide) rfl ?_
  refine kj_aload_n F dX8_turns_21 6 rfl rfl ?_
  refine kj_iload_n F dX8_turns_22 5 rfl rfl ?_
  refine kj_iconst F dX8_turns_23 (v := 2) (by decide) ?_
  refine kj_icmp_ne F dX8_turns_24 (tgt := 32) (by decide) h (fun hc h => ?_) (fun hc h => ?_)
  · refine kj_iload F dX8_turns_27 2 rfl ?_
    refine kj_goto F dX8_turns_29 (tgt := 34) (by decide) ?_
    refine kj_J.sub [3, 4, 5, 6, 2, 1, 0] rfl ?_
    exact jm_turns_34 F hk0 hk1 h
  · refine kj_iload F dX8_turns_32 1 rfl ?_
    refine kj_J.sub [3, 4, 5, 6, 2, 1, 0] rfl ?_
    exact jm_turns_34 F hk0 hk1 h
theorem cm_turns {l : Launch} {D : va_G} {cA : Nat → ClassId} {h0 : Nat} {q : Nat → Nat} {k0 : Nat} (hk0 : k0 < 18) {k1 : Nat} (hk1 : k1 < 18) {x1 : Int32} {x2 : Int32} {z : km_S} {o : km_S} (h : fm_turns k0 k1 x1 x2 z = some o) : kj_Mv l yX8_turns wsX8_turns rm_X8_turns D (km_T cA) (km_w cA h0 q) z [.ref (q k0), .int x1, .int x2, .ref (q k1)] o :=
  fun sz => kj_start (by decide) rfl (Nat.le_of_ble_eq_true rfl) rfl fun p e s m args below meth c hsz F => jm_turns F hk0 hk1 h
/-! X8_turn -/
abbrev rm_X8_turn : Room := { frames := 3, cells := 0, slots := 0, locals := 75 }
theorem in_X8_turn : ∀ w ∈ u_ws RX8 TX8 29, w ∈ wsX8_turn := by decide +kernel
def fm_turn (x1 : Int32) (x2 : Int32) (x3 : Int32) (z : km_S) : Option (Int32 × km_S) :=
  (fm_isHeap x1 z).bind fun o1 =>
  if (o1.1) = 0 then
  some (((-1000001) : Int32), (o1.2))
  else
  (fm_in x2 (0 : Int32) (2 : Int32)).bind fun o2 =>
  if o2 = 0 then
  some (((-1000001) : Int32), (o1.2))
  else
  (fm_isPlace x3).bind fun o3 =>
  if o3 = 0 then
  some (((-1000001) : Int32), (o1.2))
  else
  (fm_turns 0 4 ((20 : Int32) * x1) x2 (o1.2)).bind fun o4 =>
  (fm_comes x3 o4).bind fun o5 =>
  some ((o5.1), (o5.2))
set_option maxRecDepth 20000 in
theorem jm_turn {p : Program} {l : Launch} {e : Env} {s : State} {m : MethodId} {args : Array Value} {below : List Frame} {meth : Method} {c : Code} {A : Nat → Prop} {D : va_G} {cA : Nat → ClassId} {h0 : Nat} {q : Nat → Nat} (F : kj_Fx p s m args meth c cX8_turn 4 wsX8_turn RX8 (some .int) D (km_T cA) A) {x1 : Int32} {x2 : Int32} {x3 : Int32} {z : km_S} {o : (Int32 × km_S)} (h : fm_turn x1 x2 x3 z = some o) : kj_J p l e rm_X8_turn s m args below meth c 0 0 (MQ below (kj_Qi D (km_T cA) A (km_w cA h0 q) o) args s 0 0 A) 4 D A ((km_w cA h0 q) z) 0 [(0, .ref h0), (1, .int x1), (2, .int x2), (3, .int x3)] [] := by
  unfold fm_turn at h
  refine kj_aload_n F dX8_turn_0 0 rfl rfl ?_
  refine kj_iload_n F dX8_turn_1 1 rfl rfl ?_
  refine kj_cVi (As := [.int x1]) (rest := []) F dX8_turn_2 h (fun o h1 => cm_isHeap h1) (cwV 1 F.2.2.2.2.1 gX8_turn_X8_isHeap rfl rfl rfl (by decide +kernel) ⟨Nat.le_of_ble_eq_true rfl, Nat.le_of_ble_eq_true rfl⟩) 0 rfl rfl rfl rfl rfl (Nat.le_of_ble_eq_true rfl) ⟨Nat.zero_le _, Nat.zero_le _⟩ (fun o1 h => ?_)
  refine kj_if_eq F dX8_turn_5 (tgt := 24) (by decide) h (fun hc h => ?_) (fun hc h => ?_)
  · refine kj_ldc F dX8_turn_24 (v := (-1000001)) (by decide +kernel) ?_
    exact kj_iret F dX8_turn_26 h
  · refine kj_iload_n F dX8_turn_8 2 rfl rfl ?_
    refine kj_iconst F dX8_turn_9 (v := 0) (by decide) ?_
    refine kj_iconst F dX8_turn_10 (v := 2) (by decide) ?_
    refine kj_cSip (As := [.int x2, .int (0 : Int32), .int (2 : Int32)]) (rest := []) F dX8_turn_11 h (fun o h1 => cm_in (w := (km_w cA h0 q)) h1) (va_cwS 3 F.2.2.2.2.1 gX8_turn_X8_in rfl rfl rfl (by decide +kernel) ⟨Nat.le_of_ble_eq_true rfl, Nat.le_of_ble_eq_true rfl⟩) rfl rfl (Nat.le_of_ble_eq_true rfl) ⟨Nat.zero_le _, Nat.zero_le _⟩ (fun o2 h => ?_)
    refine kj_if_eq F dX8_turn_14 (tgt := 24) (by decide) h (fun hc h => ?_) (fun hc h => ?_)
    · refine kj_ldc F dX8_turn_24 (v := (-1000001)) (by decide +kernel) ?_
      exact kj_iret F dX8_turn_26 h
    · refine kj_iload_n F dX8_turn_17 3 rfl rfl ?_
      refine kj_cSip (As := [.int x3]) (rest := []) F dX8_turn_18 h (fun o h1 => cm_isPlace (w := (km_w cA h0 q)) h1) (va_cwS 1 F.2.2.2.2.1 gX8_turn_X8_isPlace rfl rfl rfl (by decide +kernel) ⟨Nat.le_of_ble_eq_true rfl, Nat.le_of_ble_eq_true rfl⟩) rfl rfl (Nat.le_of_ble_eq_true rfl) ⟨Nat.zero_le _, Nat.zero_le _⟩ (fun o3 h => ?_)
      refine kj_if_ne F dX8_turn_21 (tgt := 27) (by decide) h (fun hc h => ?_) (fun hc h => ?_)
      · refine kj_ldc F dX8_turn_24 (v := (-1000001)) (by decide +kernel) ?_
        exact kj_iret F dX8_turn_26 h
      · refine kj_aload_n F dX8_turn_27 0 rfl rfl ?_
        refine km_get F dX8_turn_28 in_X8_turn 0 (by decide) (by decide +kernel) rfl rfl ?_
        refine kj_bipush F dX8_turn_31 (v := 20) (by decide) ?_
        refine kj_iload_n F dX8_turn_33 1 rfl rfl ?_
        refine kj_imul F dX8_turn_34 ?_
        refine kj_iload_n F dX8_turn_35 2 rfl rfl ?_
        refine kj_aload_n F dX8_turn_36 0 rfl rfl ?_
        refine km_get F dX8_turn_37 in_X8_turn 8 (by decide) (by decide +kernel) rfl rfl ?_
        refine kj_cSv (As := [.ref (q 0), .int ((20 : Int32) * x1), .int x2, .ref (q 4)]) (rest := []) F dX8_turn_40 h (fun o h1 => cm_turns (by decide) (by decide) h1) (va_cwS 4 F.2.2.2.2.1 gX8_turn_X8_turns rfl rfl rfl (by decide +kernel) ⟨Nat.le_of_ble_eq_true rfl, Nat.le_of_ble_eq_true rfl⟩) rfl rfl (Nat.le_of_ble_eq_true rfl) ⟨Nat.zero_le _, Nat.zero_le _⟩ (fun o4 h => ?_)
        refine kj_aload_n F dX8_turn_43 0 rfl rfl ?_
        refine kj_iload_n F dX8_turn_44 3 rfl rfl ?_
        refine kj_cVi (As := [.int x3]) (rest := []) F dX8_turn_45 h (fun o h1 => cm_comes h1) (cwV 1 F.2.2.2.2.1 gX8_turn_X8_comes rfl rfl rfl (by decide +kernel) ⟨Nat.le_of_ble_eq_true rfl, Nat.le_of_ble_eq_true rfl⟩) 0 rfl rfl rfl rfl rfl (Nat.le_of_ble_eq_true rfl) ⟨Nat.zero_le _, Nat.zero_le _⟩ (fun o5 h => ?_)
        exact kj_iret F dX8_turn_48 h
theorem cm_turn {l : Launch} {D : va_G} {cA : Nat → ClassId} {h0 : Nat} {q : Nat → Nat} {x1 : Int32} {x2 : Int32} {x3 : Int32} {z : km_S} {o : (Int32 × km_S)} (h : fm_turn x1 x2 x3 z = some o) : kj_Mi l yX8_turn wsX8_turn rm_X8_turn D (km_T cA) (km_w cA h0 q) z [.ref h0, .int x1, .int x2, .int x3] o :=
  fun sz => kj_start (by decide) rfl (Nat.le_of_ble_eq_true rfl) rfl fun p e s m args below meth c hsz F => jm_turn F h
/-! X8_areAlike -/
abbrev rm_X8_areAlike : Room := { frames := 1, cells := 0, slots := 0, locals := 26 }
theorem in_X8_areAlike : ∀ w ∈ u_ws RX8 TX8 29, w ∈ wsX8_areAlike := by decide +kernel
def fm_areAlike (x1 : Int32) (x2 : Int32) (z : km_S) : Option (Int32 × km_S) :=
  (fm_isSame 0 0 (((20 : Int32) * x1) + (1 : Int32)) (((20 : Int32) * x2) + (1 : Int32)) (3 : Int32) z).bind fun o1 =>
  if (o1.1) = 0 ∨ (o1.1) = 1 then some ((o1.1), (o1.2)) else none
set_option maxRecDepth 20000 in
theorem jm_areAlike {p : Program} {l : Launch} {e : Env} {s : State} {m : MethodId} {args : Array Value} {below : List Frame} {meth : Method} {c : Code} {A : Nat → Prop} {D : va_G} {cA : Nat → ClassId} {h0 : Nat} {q : Nat → Nat} (F : kj_Fx p s m args meth c cX8_areAlike 3 wsX8_areAlike RX8 (some .boolean) D (km_T cA) A) {x1 : Int32} {x2 : Int32} {z : km_S} {o : (Int32 × km_S)} (h : fm_areAlike x1 x2 z = some o) : kj_J p l e rm_X8_areAlike s m args below meth c 0 0 (MQ below (kj_Qi D (km_T cA) A (km_w cA h0 q) o) args s 0 0 A) 3 D A ((km_w cA h0 q) z) 0 [(0, .ref h0), (1, .int x1), (2, .int x2)] [] := by
  unfold fm_areAlike at h
  refine kj_aload_n F dX8_areAlike_0 0 rfl rfl ?_
  refine km_get F dX8_areAlike_1 in_X8_areAlike 0 (by decide) (by decide +kernel) rfl rfl ?_
  refine kj_bipush F dX8_areAlike_4 (v := 20) (by decide) ?_
  refine kj_iload_n F dX8_areAlike_6 1 rfl rfl ?_
  refine kj_imul F dX8_areAlike_7 ?_
  refine kj_iconst F dX8_areAlike_8 (v := 1) (by decide) ?_
  refine kj_iadd F dX8_areAlike_9 ?_
  refine kj_aload_n F dX8_areAlike_10 0 rfl rfl ?_
  refine km_get F dX8_areAlike_11 in_X8_areAlike 0 (by decide) (by decide +kernel) rfl rfl ?_
  refine kj_bipush F dX8_areAlike_14 (v := 20) (by decide) ?_
  refine kj_iload_n F dX8_areAlike_16 2 rfl rfl ?_
  refine kj_imul F dX8_areAlike_17 ?_
  refine kj_iconst F dX8_areAlike_18 (v := 1) (by decide) ?_
  refine kj_iadd F dX8_areAlike_19 ?_
  refine kj_iconst F dX8_areAlike_20 (v := 3) (by decide) ?_
  refine kj_cSi (As := [.ref (q 0), .int (((20 : Int32) * x1) + (1 : Int32)), .ref (q 0), .int (((20 : Int32) * x2) + (1 : Int32)), .int (3 : Int32)]) (rest := []) F dX8_areAlike_21 h (fun o h1 => cm_isSame (by decide) (by decide) h1) (va_cwS 5 F.2.2.2.2.1 gX8_areAlike_X8_isSame rfl rfl rfl (by decide +kernel) ⟨Nat.le_of_ble_eq_true rfl, Nat.le_of_ble_eq_true rfl⟩) rfl rfl (Nat.le_of_ble_eq_true rfl) ⟨Nat.zero_le _, Nat.zero_le _⟩ (fun o1 h => ?_)
  exact kj_zretB F dX8_areAlike_24 h
theorem cm_areAlike {l : Launch} {D : va_G} {cA : Nat → ClassId} {h0 : Nat} {q : Nat → Nat} {x1 : Int32} {x2 : Int32} {z : km_S} {o : (Int32 × km_S)} (h : fm_areAlike x1 x2 z = some o) : kj_Mi l yX8_areAlike wsX8_areAlike rm_X8_areAlike D (km_T cA) (km_w cA h0 q) z [.ref h0, .int x1, .int x2] o :=
  fun sz => kj_start (by decide) rfl (Nat.le_of_ble_eq_true rfl) rfl fun p e s m args below meth c hsz F => jm_areAlike F h
/-! X8_join -/
abbrev rm_X8_join : Room := { frames := 3, cells := 0, slots := 0, locals := 66 }
theorem in_X8_join : ∀ w ∈ u_ws RX8 TX8 29, w ∈ wsX8_join := by decide +kernel
def fm_join_156 (x2 : Int32) (x3 : Int32) (x4 : Int32) (x5 : Int32) (t0 : Int32) (t1 : Int32) (z : km_S) : Option ((Int32 × Int32 × Int32 × Int32 × km_S) ⊕ (Int32 × km_S)) :=
  (km_wr z 4 t1 t0).bind fun z1 =>
  some (.inl (x2, x3, x4, (x5 + 1), z1))
def fm_join_131 (x2 : Int32) (x3 : Int32) (x4 : Int32) (x5 : Int32) (x6 : Int32) (t0 : Int32) (z : km_S) : Option ((Int32 × Int32 × Int32 × Int32 × km_S) ⊕ (Int32 × km_S)) :=
  if t0 = 0 then
  (km_rd z 4 x5).bind fun v1 =>
  fm_join_156 x2 x3 x4 x5 v1 x5 z
  else
  fm_join_156 x2 x3 x4 x5 x6 x5 z
def fm_join_69 (x2 : Int32) (x3 : Int32) (x4 : Int32) (x5 : Int32) (z : km_S) : Option ((Int32 × Int32 × Int32 × Int32 × km_S) ⊕ (Int32 × km_S)) :=
  if (20 : Int32) ≤ x5 then
  some (.inr (x4, z))
  else
  (km_rd z 0 (((20 : Int32) * x2) + x5)).bind fun v1 =>
  if x3 = 0 then
  (km_rd z 4 x5).bind fun v2 =>
  if v1 ≤ v2 then
  fm_join_131 x2 x3 x4 x5 v1 (0 : Int32) z
  else
  fm_join_131 x2 x3 x4 x5 v1 (1 : Int32) z
  else
  (km_rd z 4 x5).bind fun v3 =>
  if v3 ≤ v1 then
  fm_join_131 x2 x3 x4 x5 v1 (0 : Int32) z
  else
  fm_join_131 x2 x3 x4 x5 v1 (1 : Int32) z
def lm_join_69 (n : Nat) (x2 : Int32) (x3 : Int32) (x4 : Int32) (x5 : Int32) (z : km_S) : Option (Int32 × km_S) :=
  kj_it (fun (s : (Int32 × Int32 × Int32 × Int32 × km_S)) => fm_join_69 (s.1) (s.2.1) (s.2.2.1) (s.2.2.2.1) (s.2.2.2.2)) n (x2, x3, x4, x5, z)
def fm_join (x1 : Int32) (x2 : Int32) (x3 : Int32) (x4 : Int32) (z : km_S) : Option (Int32 × km_S) :=
  (fm_isHeap x1 z).bind fun o1 =>
  if (o1.1) = 0 then
  some (((-1000001) : Int32), (o1.2))
  else
  (fm_isHeap x2 (o1.2)).bind fun o2 =>
  if (o2.1) = 0 then
  some (((-1000001) : Int32), (o2.2))
  else
  (fm_in x3 (0 : Int32) (1 : Int32)).bind fun o3 =>
  if o3 = 0 then
  some (((-1000001) : Int32), (o2.2))
  else
  (fm_isPlace x4).bind fun o4 =>
  if o4 = 0 then
  some (((-1000001) : Int32), (o2.2))
  else
  (fm_areAlike x1 x2 (o2.2)).bind fun o5 =>
  if (o5.1) = 0 then
  some (((-1000002) : Int32), (o5.2))
  else
  (fm_bring 0 4 ((20 : Int32) * x1) (0 : Int32) (20 : Int32) (o5.2)).bind fun o6 =>
  (lm_join_69 5000 x2 x3 x4 (4 : Int32) o6).bind fun r7 =>
  (fm_comes (r7.1) (r7.2)).bind fun o8 =>
  some ((o8.1), (o8.2))
set_option maxRecDepth 20000 in
theorem jm_join_156 {p : Program} {l : Launch} {e : Env} {s : State} {m : MethodId} {args : Array Value} {below : List Frame} {meth : Method} {c : Code} {A : Nat → Prop} {D : va_G} {cA : Nat → ClassId} {h0 : Nat} {q : Nat → Nat} {Q : State → Prop} (F : kj_Fx p s m args meth c cX8_join 8 wsX8_join RX8 (some .int) D (km_T cA) A) {x2 : Int32} {x3 : Int32} {x4 : Int32} {x5 : Int32} {t0 : Int32} {t1 : Int32} {z : km_S} {o : ((Int32 × Int32 × Int32 × Int32 × km_S) ⊕ (Int32 × km_S))} (h : fm_join_156 x2 x3 x4 x5 t0 t1 z = some o) (kb : ∀ (a0' : Int32) (a1' : Int32) (a2' : Int32) (a3' : Int32) (a4' : km_S), o = .inl (a0', a1', a2', a3', a4') → kj_J p l e rm_X8_join s m args below meth c 0 0 Q 8 D A ((km_w cA h0 q) a4') 69 [(0, .ref h0), (2, .int a0'), (3, .int a1'), (4, .int a2'), (5, .int a3')] []) (ke0 : ∀ (a0' : Int32) (a1' : km_S), o = .inr (a0', a1') → kj_J p l e rm_X8_join s m args below meth c 0 0 Q 8 D A ((km_w cA h0 q) a1') 163 [(0, .ref h0), (4, .int a0')] []) : kj_J p l e rm_X8_join s m args below meth c 0 0 Q 8 D A ((km_w cA h0 q) z) 156 [(0, .ref h0), (2, .int x2), (3, .int x3), (4, .int x4), (5, .int x5)] [.int t0, .int t1, .ref (q 4)] := by
  unfold fm_join_156 at h
  refine km_iast F dX8_join_156 4 (by decide) h (fun z1 h => ?_)
  refine kj_iinc F dX8_join_157 4 rfl (v := 1) (by decide) (by decide) (lv' := [(5, .int (x5 + 1)), (0, .ref h0), (2, .int x2), (3, .int x3), (4, .int x4)]) rfl ?_
  refine kj_goto F dX8_join_160 (tgt := 69) (by decide) ?_
  refine kj_J.sub [1, 2, 3, 4, 0] rfl ?_
  exact kb x2 x3 x4 (x5 + 1) z1 (Option.some.inj h).symm
set_option maxRecDepth 20000 in
theorem jm_join_131 {p : Program} {l : Launch} {e : Env} {s : State} {m : MethodId} {args : Array Value} {below : List Frame} {meth : Method} {c : Code} {A : Nat → Prop} {D : va_G} {cA : Nat → ClassId} {h0 : Nat} {q : Nat → Nat} {Q : State → Prop} (F : kj_Fx p s m args meth c cX8_join 8 wsX8_join RX8 (some .int) D (km_T cA) A) {x2 : Int32} {x3 : Int32} {x4 : Int32} {x5 : Int32} {x6 : Int32} {t0 : Int32} {z : km_S} {o : ((Int32 × Int32 × Int32 × Int32 × km_S) ⊕ (Int32 × km_S))} (h : fm_join_131 x2 x3 x4 x5 x6 t0 z = some o) (kb : ∀ (a0' : Int32) (a1' : Int32) (a2' : Int32) (a3' : Int32) (a4' : km_S), o = .inl (a0', a1', a2', a3', a4') → kj_J p l e rm_X8_join s m args below meth c 0 0 Q 8 D A ((km_w cA h0 q) a4') 69 [(0, .ref h0), (2, .int a0'), (3, .int a1'), (4, .int a2'), (5, .int a3')] []) (ke0 : ∀ (a0' : Int32) (a1' : km_S), o = .inr (a0', a1') → kj_J p l e rm_X8_join s m args below meth c 0 0 Q 8 D A ((km_w cA h0 q) a1') 163 [(0, .ref h0), (4, .int a0')] []) : kj_J p l e rm_X8_join s m args below meth c 0 0 Q 8 D A ((km_w cA h0 q) z) 131 [(0, .ref h0), (2, .int x2), (3, .int x3), (4, .int x4), (5, .int x5), (6, .int x6)] [.int t0] := by
  unfold fm_join_131 at h
  refine kj_istore F dX8_join_131 (lv' := [(7, .int t0), (0, .ref h0), (2, .int x2), (3, .int x3), (4, .int x4), (5, .int x5), (6, .int x6)]) (by decide) rfl ?_
  refine kj_aload_n F dX8_join_133 1 rfl rfl ?_
  refine km_get F dX8_join_134 in_X8_join 8 (by decide) (by decide +kernel) rfl rfl ?_
  refine kj_iload F dX8_join_137 5 rfl ?_
  refine kj_iload F dX8_join_139 0 rfl ?_
  refine kj_if_eq F dX8_join_141 (tgt := 149) (by decide) h (fun hc h => ?_) (fun hc h => ?_)
  · refine kj_aload_n F dX8_join_149 1 rfl rfl ?_
    refine km_get F dX8_join_150 in_X8_join 8 (by decide) (by decide +kernel) rfl rfl ?_
    refine kj_iload F dX8_join_153 5 rfl ?_
    refine km_iald F dX8_join_155 4 (by decide) h (fun v1 h => ?_)
    refine kj_J.sub [1, 2, 3, 4, 5] rfl ?_
    exact jm_join_156 F h kb ke0
  · refine kj_iload F dX8_join_144 6 rfl ?_
    refine kj_goto F dX8_join_146 (tgt := 156) (by decide) ?_
    refine kj_J.sub [1, 2, 3, 4, 5] rfl ?_
    exact jm_join_156 F h kb ke0
set_option maxRecDepth 20000 in
theorem jm_join_69 {p : Program} {l : Launch} {e : Env} {s : State} {m : MethodId} {args : Array Value} {below : List Frame} {meth : Method} {c : Code} {A : Nat → Prop} {D : va_G} {cA : Nat → ClassId} {h0 : Nat} {q : Nat → Nat} {Q : State → Prop} (F : kj_Fx p s m args meth c cX8_join 8 wsX8_join RX8 (some .int) D (km_T cA) A) {x2 : Int32} {x3 : Int32} {x4 : Int32} {x5 : Int32} {z : km_S} {o : ((Int32 × Int32 × Int32 × Int32 × km_S) ⊕ (Int32 × km_S))} (h : fm_join_69 x2 x3 x4 x5 z = some o) (kb : ∀ (a0' : Int32) (a1' : Int32) (a2' : Int32) (a3' : Int32) (a4' : km_S), o = .inl (a0', a1', a2', a3', a4') → kj_J p l e rm_X8_join s m args below meth c 0 0 Q 8 D A ((km_w cA h0 q) a4') 69 [(0, .ref h0), (2, .int a0'), (3, .int a1'), (4, .int a2'), (5, .int a3')] []) (ke0 : ∀ (a0' : Int32) (a1' : km_S), o = .inr (a0', a1') → kj_J p l e rm_X8_join s m args below meth c 0 0 Q 8 D A ((km_w cA h0 q) a1') 163 [(0, .ref h0), (4, .int a0')] []) : kj_J p l e rm_X8_join s m args below meth c 0 0 Q 8 D A ((km_w cA h0 q) z) 69 [(0, .ref h0), (2, .int x2), (3, .int x3), (4, .int x4), (5, .int x5)] [] := by
  unfold fm_join_69 at h
  refine kj_iload F dX8_join_69 4 rfl ?_
  refine kj_bipush F dX8_join_71 (v := 20) (by decide) ?_
  refine kj_icmp_ge F dX8_join_73 (tgt := 163) (by decide) h (fun hc h => ?_) (fun hc h => ?_)
  · refine kj_J.sub [0, 3] rfl ?_
    exact ke0 x4 z (Option.some.inj h).symm
  · refine kj_aload_n F dX8_join_76 0 rfl rfl ?_
    refine km_get F dX8_join_77 in_X8_join 0 (by decide) (by decide +kernel) rfl rfl ?_
    refine kj_bipush F dX8_join_80 (v := 20) (by decide) ?_
    refine kj_iload_n F dX8_join_82 1 rfl rfl ?_
    refine kj_imul F dX8_join_83 ?_
    refine kj_iload F dX8_join_84 4 rfl ?_
    refine kj_iadd F dX8_join_86 ?_
    refine km_iald F dX8_join_87 0 (by decide) h (fun v1 h => ?_)
    refine kj_istore F dX8_join_88 (lv' := [(6, .int v1), (0, .ref h0), (2, .int x2), (3, .int x3), (4, .int x4), (5, .int x5)]) (by decide) rfl ?_
    refine kj_iload_n F dX8_join_90 3 rfl rfl ?_
    refine kj_if_ne F dX8_join_91 (tgt := 114) (by decide) h (fun hc h => ?_) (fun hc h => ?_)
    · refine kj_iload F dX8_join_94 0 rfl ?_
      refine kj_aload_n F dX8_join_96 1 rfl rfl ?_
      refine km_get F dX8_join_97 in_X8_join 8 (by decide) (by decide +kernel) rfl rfl ?_
      refine kj_iload F dX8_join_100 5 rfl ?_
      refine km_iald F dX8_join_102 4 (by decide) h (fun v2 h => ?_)
      refine kj_icmp_le F dX8_join_103 (tgt := 110) (by decide) h (fun hc h => ?_) (fun hc h => ?_)
      · refine kj_iconst F dX8_join_110 (v := 0) (by decide) ?_
        refine kj_goto F dX8_join_111 (tgt := 131) (by decide) ?_
        refine kj_J.sub [1, 2, 3, 4, 5, 0] rfl ?_
        exact jm_join_131 F h kb ke0
      · refine kj_iconst F dX8_join_106 (v := 1) (by decide) ?_
        refine kj_goto F dX8_join_107 (tgt := 131) (by decide) ?_
        refine kj_J.sub [1, 2, 3, 4, 5, 0] rfl ?_
        exact jm_join_131 F h kb ke0
    · refine kj_iload F dX8_join_114 0 rfl ?_
      refine kj_aload_n F dX8_join_116 1 rfl rfl ?_
      refine km_get F dX8_join_117 in_X8_join 8 (by decide) (by decide +kernel) rfl rfl ?_
      refine kj_iload F dX8_join_120 5 rfl ?_
      refine km_iald F dX8_join_122 4 (by decide) h (fun v3 h => ?_)
      refine kj_icmp_ge F dX8_join_123 (tgt := 130) (by decide) h (fun hc h => ?_) (fun hc h => ?_)
      · refine kj_iconst F dX8_join_130 (v := 0) (by decide) ?_
        refine kj_J.sub [1, 2, 3, 4, 5, 0] rfl ?_
        exact jm_join_131 F h kb ke0
      · refine kj_iconst F dX8_join_126 (v := 1) (by decide) ?_
        refine kj_goto F dX8_join_127 (tgt := 131) (by decide) ?_
        refine kj_J.sub [1, 2, 3, 4, 5, 0] rfl ?_
        exact jm_join_131 F h kb ke0
theorem jlm_join_69 {p : Program} {l : Launch} {e : Env} {s : State} {m : MethodId} {args : Array Value} {below : List Frame} {meth : Method} {c : Code} {A : Nat → Prop} {D : va_G} {cA : Nat → ClassId} {h0 : Nat} {q : Nat → Nat} {Q : State → Prop} (F : kj_Fx p s m args meth c cX8_join 8 wsX8_join RX8 (some .int) D (km_T cA) A) {n : Nat} {x2 : Int32} {x3 : Int32} {x4 : Int32} {x5 : Int32} {z : km_S} {r : (Int32 × km_S)} (h : lm_join_69 n x2 x3 x4 x5 z = some r) (ke : kj_J p l e rm_X8_join s m args below meth c 0 0 Q 8 D A ((km_w cA h0 q) (r.2)) 163 [(0, .ref h0), (4, .int (r.1))] []) : kj_J p l e rm_X8_join s m args below meth c 0 0 Q 8 D A ((km_w cA h0 q) z) 69 [(0, .ref h0), (2, .int x2), (3, .int x3), (4, .int x4), (5, .int x5)] [] :=
  kj_it_J (Wh := fun (u : (Int32 × Int32 × Int32 × Int32 × km_S)) => kj_J p l e rm_X8_join s m args below meth c 0 0 Q 8 D A ((km_w cA h0 q) (u.2.2.2.2)) 69 [(0, .ref h0), (2, .int (u.1)), (3, .int (u.2.1)), (4, .int (u.2.2.1)), (5, .int (u.2.2.2.1))] []) (We := fun r => kj_J p l e rm_X8_join s m args below meth c 0 0 Q 8 D A ((km_w cA h0 q) (r.2)) 163 [(0, .ref h0), (4, .int (r.1))] []) (fun u o h kb ke => jm_join_69 F h (fun a0' a1' a2' a3' a4' e => kb (a0', a1', a2', a3', a4') e) (fun a0' a1' e => ke (a0', a1') e)) n (x2, x3, x4, x5, z) r h ke
set_option maxRecDepth 20000 in
theorem jm_join {p : Program} {l : Launch} {e : Env} {s : State} {m : MethodId} {args : Array Value} {below : List Frame} {meth : Method} {c : Code} {A : Nat → Prop} {D : va_G} {cA : Nat → ClassId} {h0 : Nat} {q : Nat → Nat} (F : kj_Fx p s m args meth c cX8_join 8 wsX8_join RX8 (some .int) D (km_T cA) A) {x1 : Int32} {x2 : Int32} {x3 : Int32} {x4 : Int32} {z : km_S} {o : (Int32 × km_S)} (h : fm_join x1 x2 x3 x4 z = some o) : kj_J p l e rm_X8_join s m args below meth c 0 0 (MQ below (kj_Qi D (km_T cA) A (km_w cA h0 q) o) args s 0 0 A) 8 D A ((km_w cA h0 q) z) 0 [(0, .ref h0), (1, .int x1), (2, .int x2), (3, .int x3), (4, .int x4)] [] := by
  unfold fm_join at h
  refine kj_aload_n F dX8_join_0 0 rfl rfl ?_
  refine kj_iload_n F dX8_join_1 1 rfl rfl ?_
  refine kj_cVi (As := [.int x1]) (rest := []) F dX8_join_2 h (fun o h1 => cm_isHeap h1) (cwV 1 F.2.2.2.2.1 gX8_join_X8_isHeap rfl rfl rfl (by decide +kernel) ⟨Nat.le_of_ble_eq_true rfl, Nat.le_of_ble_eq_true rfl⟩) 0 rfl rfl rfl rfl rfl (Nat.le_of_ble_eq_true rfl) ⟨Nat.zero_le _, Nat.zero_le _⟩ (fun o1 h => ?_)
  refine kj_if_eq F dX8_join_5 (tgt := 33) (by decide) h (fun hc h => ?_) (fun hc h => ?_)
  · refine kj_ldc F dX8_join_33 (v := (-1000001)) (by decide +kernel) ?_
    exact kj_iret F dX8_join_35 h
  · refine kj_aload_n F dX8_join_8 0 rfl rfl ?_
    refine kj_iload_n F dX8_join_9 2 rfl rfl ?_
    refine kj_cVi (As := [.int x2]) (rest := []) F dX8_join_10 h (fun o h1 => cm_isHeap h1) (cwV 1 F.2.2.2.2.1 gX8_join_X8_isHeap rfl rfl rfl (by decide +kernel) ⟨Nat.le_of_ble_eq_true rfl, Nat.le_of_ble_eq_true rfl⟩) 0 rfl rfl rfl rfl rfl (Nat.le_of_ble_eq_true rfl) ⟨Nat.zero_le _, Nat.zero_le _⟩ (fun o2 h => ?_)
    refine kj_if_eq F dX8_join_13 (tgt := 33) (by decide) h (fun hc h => ?_) (fun hc h => ?_)
    · refine kj_ldc F dX8_join_33 (v := (-1000001)) (by decide +kernel) ?_
      exact kj_iret F dX8_join_35 h
    · refine kj_iload_n F dX8_join_16 3 rfl rfl ?_
      refine kj_iconst F dX8_join_17 (v := 0) (by decide) ?_
      refine kj_iconst F dX8_join_18 (v := 1) (by decide) ?_
      refine kj_cSip (As := [.int x3, .int (0 : Int32), .int (1 : Int32)]) (rest := []) F dX8_join_19 h (fun o h1 => cm_in (w := (km_w cA h0 q)) h1) (va_cwS 3 F.2.2.2.2.1 gX8_join_X8_in rfl rfl rfl (by decide +kernel) ⟨Nat.le_of_ble_eq_true rfl, Nat.le_of_ble_eq_true rfl⟩) rfl rfl (Nat.le_of_ble_eq_true rfl) ⟨Nat.zero_le _, Nat.zero_le _⟩ (fun o3 h => ?_)
      refine kj_if_eq F dX8_join_22 (tgt := 33) (by decide) h (fun hc h => ?_) (fun hc h => ?_)
      · refine kj_ldc F dX8_join_33 (v := (-1000001)) (by decide +kernel) ?_
        exact kj_iret F dX8_join_35 h
      · refine kj_iload F dX8_join_25 4 rfl ?_
        refine kj_cSip (As := [.int x4]) (rest := []) F dX8_join_27 h (fun o h1 => cm_isPlace (w := (km_w cA h0 q)) h1) (va_cwS 1 F.2.2.2.2.1 gX8_join_X8_isPlace rfl rfl rfl (by decide +kernel) ⟨Nat.le_of_ble_eq_true rfl, Nat.le_of_ble_eq_true rfl⟩) rfl rfl (Nat.le_of_ble_eq_true rfl) ⟨Nat.zero_le _, Nat.zero_le _⟩ (fun o4 h => ?_)
        refine kj_if_ne F dX8_join_30 (tgt := 36) (by decide) h (fun hc h => ?_) (fun hc h => ?_)
        · refine kj_ldc F dX8_join_33 (v := (-1000001)) (by decide +kernel) ?_
          exact kj_iret F dX8_join_35 h
        · refine kj_aload_n F dX8_join_36 0 rfl rfl ?_
          refine kj_iload_n F dX8_join_37 1 rfl rfl ?_
          refine kj_iload_n F dX8_join_38 2 rfl rfl ?_
          refine kj_cVi (As := [.int x1, .int x2]) (rest := []) F dX8_join_39 h (fun o h1 => cm_areAlike h1) (cwV 2 F.2.2.2.2.1 gX8_join_X8_areAlike rfl rfl rfl (by decide +kernel) ⟨Nat.le_of_ble_eq_true rfl, Nat.le_of_ble_eq_true rfl⟩) 0 rfl rfl rfl rfl rfl (Nat.le_of_ble_eq_true rfl) ⟨Nat.zero_le _, Nat.zero_le _⟩ (fun o5 h => ?_)
          refine kj_if_ne F dX8_join_42 (tgt := 48) (by decide) h (fun hc h => ?_) (fun hc h => ?_)
          · refine kj_ldc F dX8_join_45 (v := (-1000002)) (by decide +kernel) ?_
            exact kj_iret F dX8_join_47 h
          · refine kj_aload_n F dX8_join_48 0 rfl rfl ?_
            refine km_get F dX8_join_49 in_X8_join 0 (by decide) (by decide +kernel) rfl rfl ?_
            refine kj_bipush F dX8_join_52 (v := 20) (by decide) ?_
            refine kj_iload_n F dX8_join_54 1 rfl rfl ?_
            refine kj_imul F dX8_join_55 ?_
            refine kj_aload_n F dX8_join_56 0 rfl rfl ?_
            refine km_get F dX8_join_57 in_X8_join 8 (by decide) (by decide +kernel) rfl rfl ?_
            refine kj_iconst F dX8_join_60 (v := 0) (by decide) ?_
            refine kj_bipush F dX8_join_61 (v := 20) (by decide) ?_
            refine kj_cSv (As := [.ref (q 0), .int ((20 : Int32) * x1), .ref (q 4), .int (0 : Int32), .int (20 : Int32)]) (rest := []) F dX8_join_63 h (fun o h1 => cm_bring (by decide) (by decide) h1) (va_cwS 5 F.2.2.2.2.1 gX8_join_X8_bring rfl rfl rfl (by decide +kernel) ⟨Nat.le_of_ble_eq_true rfl, Nat.le_of_ble_eq_true rfl⟩) rfl rfl (Nat.le_of_ble_eq_true rfl) ⟨Nat.zero_le _, Nat.zero_le _⟩ (fun o6 h => ?_)
            refine kj_iconst F dX8_join_66 (v := 4) (by decide) ?_
            refine kj_istore F dX8_join_67 (lv' := [(5, .int (4 : Int32)), (0, .ref h0), (1, .int x1), (2, .int x2), (3, .int x3), (4, .int x4)]) (by decide) rfl ?_
            refine kj_J.sub [1, 3, 4, 5, 0] rfl ?_
            refine kj_bn h (fun r7 h1 h => ?_)
            refine jlm_join_69 F h1 ?_
            refine kj_aload_n F dX8_join_163 0 rfl rfl ?_
            refine kj_iload F dX8_join_164 1 rfl ?_
            refine kj_cVi (As := [.int (r7.1)]) (rest := []) F dX8_join_166 h (fun o h1 => cm_comes h1) (cwV 1 F.2.2.2.2.1 gX8_join_X8_comes rfl rfl rfl (by decide +kernel) ⟨Nat.le_of_ble_eq_true rfl, Nat.le_of_ble_eq_true rfl⟩) 0 rfl rfl rfl rfl rfl (Nat.le_of_ble_eq_true rfl) ⟨Nat.zero_le _, Nat.zero_le _⟩ (fun o8 h => ?_)
            exact kj_iret F dX8_join_169 h
theorem cm_join {l : Launch} {D : va_G} {cA : Nat → ClassId} {h0 : Nat} {q : Nat → Nat} {x1 : Int32} {x2 : Int32} {x3 : Int32} {x4 : Int32} {z : km_S} {o : (Int32 × km_S)} (h : fm_join x1 x2 x3 x4 z = some o) : kj_Mi l yX8_join wsX8_join rm_X8_join D (km_T cA) (km_w cA h0 q) z [.ref h0, .int x1, .int x2, .int x3, .int x4] o :=
  fun sz => kj_start (by decide) rfl (Nat.le_of_ble_eq_true rfl) rfl fun p e s m args below meth c hsz F => jm_join F h
/-! X8_drop -/
abbrev rm_X8_drop : Room := { frames := 3, cells := 0, slots := 0, locals := 63 }
theorem in_X8_drop : ∀ w ∈ u_ws RX8 TX8 29, w ∈ wsX8_drop := by decide +kernel
def fm_drop_29 (x1 : Int32) (x2 : Int32) (x3 : Int32) (z : km_S) : Option ((Int32 × Int32 × Int32 × km_S) ⊕ (Int32 × km_S)) :=
  if (20 : Int32) ≤ x3 then
  some (.inr (x2, z))
  else
  (km_wr z 0 (((20 : Int32) * x1) + x3) (0 : Int32)).bind fun z1 =>
  some (.inl (x1, x2, (x3 + 1), z1))
def lm_drop_29 (n : Nat) (x1 : Int32) (x2 : Int32) (x3 : Int32) (z : km_S) : Option (Int32 × km_S) :=
  kj_it (fun (s : (Int32 × Int32 × Int32 × km_S)) => fm_drop_29 (s.1) (s.2.1) (s.2.2.1) (s.2.2.2)) n (x1, x2, x3, z)
def fm_drop (x1 : Int32) (z : km_S) : Option (Int32 × km_S) :=
  (fm_isHeap x1 z).bind fun o1 =>
  if (o1.1) = 0 then
  some (((-1000001) : Int32), (o1.2))
  else
  (fm_notes (o1.2)).bind fun o2 =>
  (fm_volume 0 ((20 : Int32) * x1) o2).bind fun o3 =>
  (lm_drop_29 5000 x1 (o3.1) (0 : Int32) (o3.2)).bind fun r4 =>
  some ((r4.1), (r4.2))
set_option maxRecDepth 20000 in
theorem jm_drop_29 {p : Program} {l : Launch} {e : Env} {s : State} {m : MethodId} {args : Array Value} {below : List Frame} {meth : Method} {c : Code} {A : Nat → Prop} {D : va_G} {cA : Nat → ClassId} {h0 : Nat} {q : Nat → Nat} {Q : State → Prop} (F : kj_Fx p s m args meth c cX8_drop 4 wsX8_drop RX8 (some .int) D (km_T cA) A) {x1 : Int32} {x2 : Int32} {x3 : Int32} {z : km_S} {o : ((Int32 × Int32 × Int32 × km_S) ⊕ (Int32 × km_S))} (h : fm_drop_29 x1 x2 x3 z = some o) (kb : ∀ (a0' : Int32) (a1' : Int32) (a2' : Int32) (a3' : km_S), o = .inl (a0', a1', a2', a3') → kj_J p l e rm_X8_drop s m args below meth c 0 0 Q 4 D A ((km_w cA h0 q) a3') 29 [(0, .ref h0), (1, .int a0'), (2, .int a1'), (3, .int a2')] []) (ke0 : ∀ (a0' : Int32) (a1' : km_S), o = .inr (a0', a1') → kj_J p l e rm_X8_drop s m args below meth c 0 0 Q 4 D A ((km_w cA h0 q) a1') 53 [(2, .int a0')] []) : kj_J p l e rm_X8_drop s m args below meth c 0 0 Q 4 D A ((km_w cA h0 q) z) 29 [(0, .ref h0), (1, .int x1), (2, .int x2), (3, .int x3)] [] := by
  unfold fm_drop_29 at h
  refine kj_iload_n F dX8_drop_29 3 rfl rfl ?_
  refine kj_bipush F dX8_drop_30 (v := 20) (by decide) ?_
  refine kj_icmp_ge F dX8_drop_32 (tgt := 53) (by decide) h (fun hc h => ?_) (fun hc h => ?_)
  · refine kj_J.sub [2] rfl ?_
    exact ke0 x2 z (Option.some.inj h).symm
  · refine kj_aload_n F dX8_drop_35 0 rfl rfl ?_
    refine km_get F dX8_drop_36 in_X8_drop 0 (by decide) (by decide +kernel) rfl rfl ?_
    refine kj_bipush F dX8_drop_39 (v := 20) (by decide) ?_
    refine kj_iload_n F dX8_drop_41 1 rfl rfl ?_
    refine kj_imul F dX8_drop_42 ?_
    refine kj_iload_n F dX8_drop_43 3 rfl rfl ?_
    refine kj_iadd F dX8_drop_44 ?_
    refine kj_iconst F dX8_drop_45 (v := 0) (by decide) ?_
    refine km_iast F dX8_drop_46 0 (by decide) h (fun z1 h => ?_)
    refine kj_iinc F dX8_drop_47 3 rfl (v := 1) (by decide) (by decide) (lv' := [(3, .int (x3 + 1)), (0, .ref h0), (1, .int x1), (2, .int x2)]) rfl ?_
    refine kj_goto F dX8_drop_50 (tgt := 29) (by decide) ?_
    refine kj_J.sub [1, 2, 3, 0] rfl ?_
    exact kb x1 x2 (x3 + 1) z1 (Option.some.inj h).symm
theorem jlm_drop_29 {p : Program} {l : Launch} {e : Env} {s : State} {m : MethodId} {args : Array Value} {below : List Frame} {meth : Method} {c : Code} {A : Nat → Prop} {D : va_G} {cA : Nat → ClassId} {h0 : Nat} {q : Nat → Nat} {Q : State → Prop} (F : kj_Fx p s m args meth c cX8_drop 4 wsX8_drop RX8 (some .int) D (km_T cA) A) {n : Nat} {x1 : Int32} {x2 : Int32} {x3 : Int32} {z : km_S} {r : (Int32 × km_S)} (h : lm_drop_29 n x1 x2 x3 z = some r) (ke : kj_J p l e rm_X8_drop s m args below meth c 0 0 Q 4 D A ((km_w cA h0 q) (r.2)) 53 [(2, .int (r.1))] []) : kj_J p l e rm_X8_drop s m args below meth c 0 0 Q 4 D A ((km_w cA h0 q) z) 29 [(0, .ref h0), (1, .int x1), (2, .int x2), (3, .int x3)] [] :=
  kj_it_J (Wh := fun (u : (Int32 × Int32 × Int32 × km_S)) => kj_J p l e rm_X8_drop s m args below meth c 0 0 Q 4 D A ((km_w cA h0 q) (u.2.2.2)) 29 [(0, .ref h0), (1, .int (u.1)), (2, .int (u.2.1)), (3, .int (u.2.2.1))] []) (We := fun r => kj_J p l e rm_X8_drop s m args below meth c 0 0 Q 4 D A ((km_w cA h0 q) (r.2)) 53 [(2, .int (r.1))] []) (fun u o h kb ke => jm_drop_29 F h (fun a0' a1' a2' a3' e => kb (a0', a1', a2', a3') e) (fun a0' a1' e => ke (a0', a1') e)) n (x1, x2, x3, z) r h ke
set_option maxRecDepth 20000 in
theorem jm_drop {p : Program} {l : Launch} {e : Env} {s : State} {m : MethodId} {args : Array Value} {below : List Frame} {meth : Method} {c : Code} {A : Nat → Prop} {D : va_G} {cA : Nat → ClassId} {h0 : Nat} {q : Nat → Nat} (F : kj_Fx p s m args meth c cX8_drop 4 wsX8_drop RX8 (some .int) D (km_T cA) A) {x1 : Int32} {z : km_S} {o : (Int32 × km_S)} (h : fm_drop x1 z = some o) : kj_J p l e rm_X8_drop s m args below meth c 0 0 (MQ below (kj_Qi D (km_T cA) A (km_w cA h0 q) o) args s 0 0 A) 4 D A ((km_w cA h0 q) z) 0 [(0, .ref h0), (1, .int x1)] [] := by
  unfold fm_drop at h
  refine kj_aload_n F dX8_drop_0 0 rfl rfl ?_
  refine kj_iload_n F dX8_drop_1 1 rfl rfl ?_
  refine kj_cVi (As := [.int x1]) (rest := []) F dX8_drop_2 h (fun o h1 => cm_isHeap h1) (cwV 1 F.2.2.2.2.1 gX8_drop_X8_isHeap rfl rfl rfl (by decide +kernel) ⟨Nat.le_of_ble_eq_true rfl, Nat.le_of_ble_eq_true rfl⟩) 0 rfl rfl rfl rfl rfl (Nat.le_of_ble_eq_true rfl) ⟨Nat.zero_le _, Nat.zero_le _⟩ (fun o1 h => ?_)
  refine kj_if_ne F dX8_drop_5 (tgt := 11) (by decide) h (fun hc h => ?_) (fun hc h => ?_)
  · refine kj_ldc F dX8_drop_8 (v := (-1000001)) (by decide +kernel) ?_
    exact kj_iret F dX8_drop_10 h
  · refine kj_aload_n F dX8_drop_11 0 rfl rfl ?_
    refine kj_cVv (As := []) (rest := []) F dX8_drop_12 h (fun o h1 => cm_notes h1) (cwV 0 F.2.2.2.2.1 gX8_drop_X8_notes rfl rfl rfl (by decide +kernel) ⟨Nat.le_of_ble_eq_true rfl, Nat.le_of_ble_eq_true rfl⟩) 0 rfl rfl rfl rfl rfl (Nat.le_of_ble_eq_true rfl) ⟨Nat.zero_le _, Nat.zero_le _⟩ (fun o2 h => ?_)
    refine kj_aload_n F dX8_drop_15 0 rfl rfl ?_
    refine km_get F dX8_drop_16 in_X8_drop 0 (by decide) (by decide +kernel) rfl rfl ?_
    refine kj_bipush F dX8_drop_19 (v := 20) (by decide) ?_
    refine kj_iload_n F dX8_drop_21 1 rfl rfl ?_
    refine kj_imul F dX8_drop_22 ?_
    refine kj_cSi (As := [.ref (q 0), .int ((20 : Int32) * x1)]) (rest := []) F dX8_drop_23 h (fun o h1 => cm_volume (by decide) h1) (va_cwS 2 F.2.2.2.2.1 gX8_drop_X8_volume rfl rfl rfl (by decide +kernel) ⟨Nat.le_of_ble_eq_true rfl, Nat.le_of_ble_eq_true rfl⟩) rfl rfl (Nat.le_of_ble_eq_true rfl) ⟨Nat.zero_le _, Nat.zero_le _⟩ (fun o3 h => ?_)
    refine kj_istore_n F dX8_drop_26 (lv' := [(2, .int (o3.1)), (0, .ref h0), (1, .int x1)]) rfl (by decide) rfl ?_
    refine kj_iconst F dX8_drop_27 (v := 0) (by decide) ?_
    refine kj_istore_n F dX8_drop_28 (lv' := [(3, .int (0 : Int32)), (2, .int (o3.1)), (0, .ref h0), (1, .int x1)]) rfl (by decide) rfl ?_
    refine kj_J.sub [2, 3, 1, 0] rfl ?_
    refine kj_bn h (fun r4 h1 h => ?_)
    refine jlm_drop_29 F h1 ?_
    refine kj_iload_n F dX8_drop_53 0 rfl rfl ?_
    exact kj_iret F dX8_drop_54 h
theorem cm_drop {l : Launch} {D : va_G} {cA : Nat → ClassId} {h0 : Nat} {q : Nat → Nat} {x1 : Int32} {z : km_S} {o : (Int32 × km_S)} (h : fm_drop x1 z = some o) : kj_Mi l yX8_drop wsX8_drop rm_X8_drop D (km_T cA) (km_w cA h0 q) z [.ref h0, .int x1] o :=
  fun sz => kj_start (by decide) rfl (Nat.le_of_ble_eq_true rfl) rfl fun p e s m args below meth c hsz F => jm_drop F h
/-! X8_height -/
abbrev rm_X8_height : Room := { frames := 4, cells := 0, slots := 0, locals := 86 }
theorem in_X8_height : ∀ w ∈ u_ws RX8 TX8 29, w ∈ wsX8_height := by decide +kernel
def fm_height (x1 : Int32) (x2 : Int32) (x3 : Int32) (z : km_S) : Option (Int32 × km_S) :=
  (fm_isSpot x1 x2 x3 z).bind fun o1 =>
  if (o1.1) = 0 then
  some (((-1000001) : Int32), (o1.2))
  else
  (fm_at x2 x3).bind fun o2 =>
  (km_rd (o1.2) 0 (((20 : Int32) * x1) + o2)).bind fun v3 =>
  some (v3, (o1.2))
set_option maxRecDepth 20000 in
theorem jm_height {p : Program} {l : Launch} {e : Env} {s : State} {m : MethodId} {args : Array Value} {below : List Frame} {meth : Method} {c : Code} {A : Nat → Prop} {D : va_G} {cA : Nat → ClassId} {h0 : Nat} {q : Nat → Nat} (F : kj_Fx p s m args meth c cX8_height 4 wsX8_height RX8 (some .int) D (km_T cA) A) {x1 : Int32} {x2 : Int32} {x3 : Int32} {z : km_S} {o : (Int32 × km_S)} (h : fm_height x1 x2 x3 z = some o) : kj_J p l e rm_X8_height s m args below meth c 0 0 (MQ below (kj_Qi D (km_T cA) A (km_w cA h0 q) o) args s 0 0 A) 4 D A ((km_w cA h0 q) z) 0 [(0, .ref h0), (1, .int x1), (2, .int x2), (3, .int x3)] [] := by
  unfold fm_height at h
  refine kj_aload_n F dX8_height_0 0 rfl rfl ?_
  refine kj_iload_n F dX8_height_1 1 rfl rfl ?_
  refine kj_iload_n F dX8_height_2 2 rfl rfl ?_
  refine kj_iload_n F dX8_height_3 3 rfl rfl ?_
  refine kj_cVi (As := [.int x1, .int x2, .int x3]) (rest := []) F dX8_height_4 h (fun o h1 => cm_isSpot h1) (cwV 3 F.2.2.2.2.1 gX8_height_X8_isSpot rfl rfl rfl (by decide +kernel) ⟨Nat.le_of_ble_eq_true rfl, Nat.le_of_ble_eq_true rfl⟩) 0 rfl rfl rfl rfl rfl (Nat.le_of_ble_eq_true rfl) ⟨Nat.zero_le _, Nat.zero_le _⟩ (fun o1 h => ?_)
  refine kj_if_eq F dX8_height_7 (tgt := 28) (by decide) h (fun hc h => ?_) (fun hc h => ?_)
  · refine kj_ldc F dX8_height_28 (v := (-1000001)) (by decide +kernel) ?_
    exact kj_iret F dX8_height_30 h
  · refine kj_aload_n F dX8_height_10 0 rfl rfl ?_
    refine km_get F dX8_height_11 in_X8_height 0 (by decide) (by decide +kernel) rfl rfl ?_
    refine kj_bipush F dX8_height_14 (v := 20) (by decide) ?_
    refine kj_iload_n F dX8_height_16 1 rfl rfl ?_
    refine kj_imul F dX8_height_17 ?_
    refine kj_iload_n F dX8_height_18 2 rfl rfl ?_
    refine kj_iload_n F dX8_height_19 3 rfl rfl ?_
    refine kj_cSip (As := [.int x2, .int x3]) (rest := [.int ((20 : Int32) * x1), .ref (q 0)]) F dX8_height_20 h (fun o h1 => cm_at (w := (km_w cA h0 q)) h1) (va_cwS 2 F.2.2.2.2.1 gX8_height_X8_at rfl rfl rfl (by decide +kernel) ⟨Nat.le_of_ble_eq_true rfl, Nat.le_of_ble_eq_true rfl⟩) rfl rfl (Nat.le_of_ble_eq_true rfl) ⟨Nat.zero_le _, Nat.zero_le _⟩ (fun o2 h => ?_)
    refine kj_iadd F dX8_height_23 ?_
    refine km_iald F dX8_height_24 0 (by decide) h (fun v3 h => ?_)
    refine kj_goto F dX8_height_25 (tgt := 30) (by decide) ?_
    exact kj_iret F dX8_height_30 h
theorem cm_height {l : Launch} {D : va_G} {cA : Nat → ClassId} {h0 : Nat} {q : Nat → Nat} {x1 : Int32} {x2 : Int32} {x3 : Int32} {z : km_S} {o : (Int32 × km_S)} (h : fm_height x1 x2 x3 z = some o) : kj_Mi l yX8_height wsX8_height rm_X8_height D (km_T cA) (km_w cA h0 q) z [.ref h0, .int x1, .int x2, .int x3] o :=
  fun sz => kj_start (by decide) rfl (Nat.le_of_ble_eq_true rfl) rfl fun p e s m args below meth c hsz F => jm_height F h
/-! X8_trace -/
abbrev rm_X8_trace : Room := { frames := 1, cells := 0, slots := 0, locals := 21 }
theorem in_X8_trace : ∀ w ∈ u_ws RX8 TX8 29, w ∈ wsX8_trace := by decide +kernel
def fm_trace_4 (x1 : Int32) (x2 : Int32) (x3 : Int32) (z : km_S) : Option ((Int32 × Int32 × Int32 × km_S) ⊕ (Int32 × km_S)) :=
  if (4 : Int32) ≤ x3 then
  some (.inr (x2, z))
  else
  (fm_at x3 x3).bind fun o1 =>
  (km_rd z 0 (x1 + o1)).bind fun v2 =>
  some (.inl (x1, (x2 + v2), (x3 + 1), z))
def lm_trace_4 (n : Nat) (x1 : Int32) (x2 : Int32) (x3 : Int32) (z : km_S) : Option (Int32 × km_S) :=
  kj_it (fun (s : (Int32 × Int32 × Int32 × km_S)) => fm_trace_4 (s.1) (s.2.1) (s.2.2.1) (s.2.2.2)) n (x1, x2, x3, z)
def fm_trace (x1 : Int32) (z : km_S) : Option (Int32 × km_S) :=
  (lm_trace_4 5000 x1 (0 : Int32) (0 : Int32) z).bind fun r1 =>
  some ((r1.1), (r1.2))
set_option maxRecDepth 20000 in
theorem jm_trace_4 {p : Program} {l : Launch} {e : Env} {s : State} {m : MethodId} {args : Array Value} {below : List Frame} {meth : Method} {c : Code} {A : Nat → Prop} {D : va_G} {cA : Nat → ClassId} {h0 : Nat} {q : Nat → Nat} {Q : State → Prop} (F : kj_Fx p s m args meth c cX8_trace 4 wsX8_trace RX8 (some .int) D (km_T cA) A) {x1 : Int32} {x2 : Int32} {x3 : Int32} {z : km_S} {o : ((Int32 × Int32 × Int32 × km_S) ⊕ (Int32 × km_S))} (h : fm_trace_4 x1 x2 x3 z = some o) (kb : ∀ (a0' : Int32) (a1' : Int32) (a2' : Int32) (a3' : km_S), o = .inl (a0', a1', a2', a3') → kj_J p l e rm_X8_trace s m args below meth c 0 0 Q 4 D A ((km_w cA h0 q) a3') 4 [(0, .ref h0), (1, .int a0'), (2, .int a1'), (3, .int a2')] []) (ke0 : ∀ (a0' : Int32) (a1' : km_S), o = .inr (a0', a1') → kj_J p l e rm_X8_trace s m args below meth c 0 0 Q 4 D A ((km_w cA h0 q) a1') 30 [(2, .int a0')] []) : kj_J p l e rm_X8_trace s m args below meth c 0 0 Q 4 D A ((km_w cA h0 q) z) 4 [(0, .ref h0), (1, .int x1), (2, .int x2), (3, .int x3)] [] := by
  unfold fm_trace_4 at h
  refine kj_iload_n F dX8_trace_4 3 rfl rfl ?_
  refine kj_iconst F dX8_trace_5 (v := 4) (by decide) ?_
  refine kj_icmp_ge F dX8_trace_6 (tgt := 30) (by decide) h (fun hc h => ?_) (fun hc h => ?_)
  · refine kj_J.sub [2] rfl ?_
    exact ke0 x2 z (Option.some.inj h).symm
  · refine kj_iload_n F dX8_trace_9 2 rfl rfl ?_
    refine kj_aload_n F dX8_trace_10 0 rfl rfl ?_
    refine km_get F dX8_trace_11 in_X8_trace 0 (by decide) (by decide +kernel) rfl rfl ?_
    refine kj_iload_n F dX8_trace_14 1 rfl rfl ?_
    refine kj_iload_n F dX8_trace_15 3 rfl rfl ?_
    refine kj_iload_n F dX8_trace_16 3 rfl rfl ?_
    refine kj_cSip (As := [.int x3, .int x3]) (rest := [.int x1, .ref (q 0), .int x2]) F dX8_trace_17 h (fun o h1 => cm_at (w := (km_w cA h0 q)) h1) (va_cwS 2 F.2.2.2.2.1 gX8_trace_X8_at rfl rfl rfl (by decide +kernel) ⟨Nat.le_of_ble_eq_true rfl, Nat.le_of_ble_eq_true rfl⟩) rfl rfl (Nat.le_of_ble_eq_true rfl) ⟨Nat.zero_le _, Nat.zero_le _⟩ (fun o1 h => ?_)
    refine kj_iadd F dX8_trace_20 ?_
    refine km_iald F dX8_trace_21 0 (by decide) h (fun v2 h => ?_)
    refine kj_iadd F dX8_trace_22 ?_
    refine kj_istore_n F dX8_trace_23 (lv' := [(2, .int (x2 + v2)), (0, .ref h0), (1, .int x1), (3, .int x3)]) rfl (by decide) rfl ?_
    refine kj_iinc F dX8_trace_24 3 rfl (v := 1) (by decide) (by decide) (lv' := [(3, .int (x3 + 1)), (2, .int (x2 + v2)), (0, .ref h0), (1, .int x1)]) rfl ?_
    refine kj_goto F dX8_trace_27 (tgt := 4) (by decide) ?_
    refine kj_J.sub [2, 3, 1, 0] rfl ?_
    exact kb x1 (x2 + v2) (x3 + 1) z (Option.some.inj h).symm
theorem jlm_trace_4 {p : Program} {l : Launch} {e : Env} {s : State} {m : MethodId} {args : Array Value} {below : List Frame} {meth : Method} {c : Code} {A : Nat → Prop} {D : va_G} {cA : Nat → ClassId} {h0 : Nat} {q : Nat → Nat} {Q : State → Prop} (F : kj_Fx p s m args meth c cX8_trace 4 wsX8_trace RX8 (some .int) D (km_T cA) A) {n : Nat} {x1 : Int32} {x2 : Int32} {x3 : Int32} {z : km_S} {r : (Int32 × km_S)} (h : lm_trace_4 n x1 x2 x3 z = some r) (ke : kj_J p l e rm_X8_trace s m args below meth c 0 0 Q 4 D A ((km_w cA h0 q) (r.2)) 30 [(2, .int (r.1))] []) : kj_J p l e rm_X8_trace s m args below meth c 0 0 Q 4 D A ((km_w cA h0 q) z) 4 [(0, .ref h0), (1, .int x1), (2, .int x2), (3, .int x3)] [] :=
  kj_it_J (Wh := fun (u : (Int32 × Int32 × Int32 × km_S)) => kj_J p l e rm_X8_trace s m args below meth c 0 0 Q 4 D A ((km_w cA h0 q) (u.2.2.2)) 4 [(0, .ref h0), (1, .int (u.1)), (2, .int (u.2.1)), (3, .int (u.2.2.1))] []) (We := fun r => kj_J p l e rm_X8_trace s m args below meth c 0 0 Q 4 D A ((km_w cA h0 q) (r.2)) 30 [(2, .int (r.1))] []) (fun u o h kb ke => jm_trace_4 F h (fun a0' a1' a2' a3' e => kb (a0', a1', a2', a3') e) (fun a0' a1' e => ke (a0', a1') e)) n (x1, x2, x3, z) r h ke
set_option maxRecDepth 20000 in
theorem jm_trace {p : Program} {l : Launch} {e : Env} {s : State} {m : MethodId} {args : Array Value} {below : List Frame} {meth : Method} {c : Code} {A : Nat → Prop} {D : va_G} {cA : Nat → ClassId} {h0 : Nat} {q : Nat → Nat} (F : kj_Fx p s m args meth c cX8_trace 4 wsX8_trace RX8 (some .int) D (km_T cA) A) {x1 : Int32} {z : km_S} {o : (Int32 × km_S)} (h : fm_trace x1 z = some o) : kj_J p l e rm_X8_trace s m args below meth c 0 0 (MQ below (kj_Qi D (km_T cA) A (km_w cA h0 q) o) args s 0 0 A) 4 D A ((km_w cA h0 q) z) 0 [(0, .ref h0), (1, .int x1)] [] := by
  unfold fm_trace at h
  refine kj_iconst F dX8_trace_0 (v := 0) (by decide) ?_
  refine kj_istore_n F dX8_trace_1 (lv' := [(2, .int (0 : Int32)), (0, .ref h0), (1, .int x1)]) rfl (by decide) rfl ?_
  refine kj_iconst F dX8_trace_2 (v := 0) (by decide) ?_
  refine kj_istore_n F dX8_trace_3 (lv' := [(3, .int (0 : Int32)), (2, .int (0 : Int32)), (0, .ref h0), (1, .int x1)]) rfl (by decide) rfl ?_
  refine kj_J.sub [2, 3, 1, 0] rfl ?_
  refine kj_bn h (fun r1 h1 h => ?_)
  refine jlm_trace_4 F h1 ?_
  refine kj_iload_n F dX8_trace_30 0 rfl rfl ?_
  exact kj_iret F dX8_trace_31 h
theorem cm_trace {l : Launch} {D : va_G} {cA : Nat → ClassId} {h0 : Nat} {q : Nat → Nat} {x1 : Int32} {z : km_S} {o : (Int32 × km_S)} (h : fm_trace x1 z = some o) : kj_Mi l yX8_trace wsX8_trace rm_X8_trace D (km_T cA) (km_w cA h0 q) z [.ref h0, .int x1] o :=
  fun sz => kj_start (by decide) rfl (Nat.le_of_ble_eq_true rfl) rfl fun p e s m args below meth c hsz F => jm_trace F h
/-! X8_corners -/
abbrev rm_X8_corners : Room := { frames := 2, cells := 0, slots := 0, locals := 46 }
theorem in_X8_corners : ∀ w ∈ u_ws RX8 TX8 29, w ∈ wsX8_corners := by decide +kernel
def fm_corners_78 (x1 : Int32) (x2 : Int32) (x4 : Int32) (x5 : Int32) (t0 : Int32) (t1 : Int32) (z : km_S) : Option ((Int32 × Int32 × Int32 × Int32 × Int32 × km_S) ⊕ (Int32 × Int32 × Int32 × Int32 × km_S)) :=
  some (.inl (x1, x2, (t1 + t0), x4, (x5 + 1), z))
def fm_corners_65 (x1 : Int32) (x2 : Int32) (x3 : Int32) (x4 : Int32) (x5 : Int32) (t0 : Int32) (z : km_S) : Option ((Int32 × Int32 × Int32 × Int32 × Int32 × km_S) ⊕ (Int32 × Int32 × Int32 × Int32 × km_S)) :=
  if t0 = 0 then
  fm_corners_78 x1 x2 x4 x5 (0 : Int32) x3 z
  else
  fm_corners_78 x1 x2 x4 x5 (1 : Int32) x3 z
def fm_corners_21 (x1 : Int32) (x2 : Int32) (x3 : Int32) (x4 : Int32) (x5 : Int32) (z : km_S) : Option ((Int32 × Int32 × Int32 × Int32 × Int32 × km_S) ⊕ (Int32 × Int32 × Int32 × Int32 × km_S)) :=
  (km_rd z 0 (x1 + (2 : Int32))).bind fun v1 =>
  if v1 ≤ x5 then
  some (.inr (x1, x2, x3, x4, z))
  else
  if x2 = 0 then
  (fm_canTake 0 x1 x4 x5 z).bind fun o2 =>
  fm_corners_65 x1 x2 x3 x4 x5 (o2.1) (o2.2)
  else
  (fm_canLay 0 x1 x4 x5 z).bind fun o3 =>
  fm_corners_65 x1 x2 x3 x4 x5 (o3.1) (o3.2)
def lm_corners_21 (n : Nat) (x1 : Int32) (x2 : Int32) (x3 : Int32) (x4 : Int32) (x5 : Int32) (z : km_S) : Option (Int32 × Int32 × Int32 × Int32 × km_S) :=
  kj_it (fun (s : (Int32 × Int32 × Int32 × Int32 × Int32 × km_S)) => fm_corners_21 (s.1) (s.2.1) (s.2.2.1) (s.2.2.2.1) (s.2.2.2.2.1) (s.2.2.2.2.2)) n (x1, x2, x3, x4, x5, z)
def fm_corners_5 (x1 : Int32) (x2 : Int32) (x3 : Int32) (x4 : Int32) (z : km_S) : Option ((Int32 × Int32 × Int32 × Int32 × km_S) ⊕ (Int32 × km_S)) :=
  (km_rd z 0 (x1 + (1 : Int32))).bind fun v1 =>
  if v1 ≤ x4 then
  some (.inr (x3, z))
  else
  (lm_corners_21 5000 x1 x2 x3 x4 (0 : Int32) z).bind fun r2 =>
  some (.inl ((r2.1), (r2.2.1), (r2.2.2.1), ((r2.2.2.2.1) + 1), (r2.2.2.2.2)))
def lm_corners_5 (n : Nat) (x1 : Int32) (x2 : Int32) (x3 : Int32) (x4 : Int32) (z : km_S) : Option (Int32 × km_S) :=
  kj_it (fun (s : (Int32 × Int32 × Int32 × Int32 × km_S)) => fm_corners_5 (s.1) (s.2.1) (s.2.2.1) (s.2.2.2.1) (s.2.2.2.2)) n (x1, x2, x3, x4, z)
def fm_corners (x1 : Int32) (x2 : Int32) (z : km_S) : Option (Int32 × km_S) :=
  (lm_corners_5 5000 x1 x2 (0 : Int32) (0 : Int32) z).bind fun r1 =>
  some ((r1.1), (r1.2))
set_option maxRecDepth 20000 in
theorem jm_corners_78 {p : Program} {l : Launch} {e : Env} {s : State} {m : MethodId} {args : Array Value} {below : List Frame} {meth : Method} {c : Code} {A : Nat → Prop} {D : va_G} {cA : Nat → ClassId} {h0 : Nat} {q : Nat → Nat} {Q : State → Prop} (F : kj_Fx p s m args meth c cX8_corners 7 wsX8_corners RX8 (some .int) D (km_T cA) A) {x1 : Int32} {x2 : Int32} {x4 : Int32} {x5 : Int32} {t0 : Int32} {t1 : Int32} {z : km_S} {o : ((Int32 × Int32 × Int32 × Int32 × Int32 × km_S) ⊕ (Int32 × Int32 × Int32 × Int32 × km_S))} (h : fm_corners_78 x1 x2 x4 x5 t0 t1 z = some o) (kb : ∀ (a0' : Int32) (a1' : Int32) (a2' : Int32) (a3' : Int32) (a4' : Int32) (a5' : km_S), o = .inl (a0', a1', a2', a3', a4', a5') → kj_J p l e rm_X8_corners s m args below meth c 0 0 Q 7 D A ((km_w cA h0 q) a5') 21 [(0, .ref h0), (1, .int a0'), (2, .int a1'), (3, .int a2'), (4, .int a3'), (5, .int a4')] []) (ke0 : ∀ (a0' : Int32) (a1' : Int32) (a2' : Int32) (a3' : Int32) (a4' : km_S), o = .inr (a0', a1', a2', a3', a4') → kj_J p l e rm_X8_corners s m args below meth c 0 0 Q 7 D A ((km_w cA h0 q) a4') 86 [(0, .ref h0), (1, .int a0'), (2, .int a1'), (3, .int a2'), (4, .int a3')] []) : kj_J p l e rm_X8_corners s m args below meth c 0 0 Q 7 D A ((km_w cA h0 q) z) 78 [(0, .ref h0), (1, .int x1), (2, .int x2), (4, .int x4), (5, .int x5)] [.int t0, .int t1] := by
  unfold fm_corners_78 at h
  refine kj_iadd F dX8_corners_78 ?_
  refine kj_istore_n F dX8_corners_79 (lv' := [(3, .int (t1 + t0)), (0, .ref h0), (1, .int x1), (2, .int x2), (4, .int x4), (5, .int x5)]) rfl (by decide) rfl ?_
  refine kj_iinc F dX8_corners_80 5 rfl (v := 1) (by decide) (by decide) (lv' := [(5, .int (x5 + 1)), (3, .int (t1 + t0)), (0, .ref h0), (1, .int x1), (2, .int x2), (4, .int x4)]) rfl ?_
  refine kj_goto F dX8_corners_83 (tgt := 21) (by decide) ?_
  refine kj_J.sub [2, 3, 4, 1, 5, 0] rfl ?_
  exact kb x1 x2 (t1 + t0) x4 (x5 + 1) z (Option.some.inj h).symm
set_option maxRecDepth 20000 in
theorem jm_corners_65 {p : Program} {l : Launch} {e : Env} {s : State} {m : MethodId} {args : Array Value} {below : List Frame} {meth : Method} {c : Code} {A : Nat → Prop} {D : va_G} {cA : Nat → ClassId} {h0 : Nat} {q : Nat → Nat} {Q : State → Prop} (F : kj_Fx p s m args meth c cX8_corners 7 wsX8_corners RX8 (some .int) D (km_T cA) A) {x1 : Int32} {x2 : Int32} {x3 : Int32} {x4 : Int32} {x5 : Int32} {t0 : Int32} {z : km_S} {o : ((Int32 × Int32 × Int32 × Int32 × Int32 × km_S) ⊕ (Int32 × Int32 × Int32 × Int32 × km_S))} (h : fm_corners_65 x1 x2 x3 x4 x5 t0 z = some o) (kb : ∀ (a0' : Int32) (a1' : Int32) (a2' : Int32) (a3' : Int32) (a4' : Int32) (a5' : km_S), o = .inl (a0', a1', a2', a3', a4', a5') → kj_J p l e rm_X8_corners s m args below meth c 0 0 Q 7 D A ((km_w cA h0 q) a5') 21 [(0, .ref h0), (1, .int a0'), (2, .int a1'), (3, .int a2'), (4, .int a3'), (5, .int a4')] []) (ke0 : ∀ (a0' : Int32) (a1' : Int32) (a2' : Int32) (a3' : Int32) (a4' : km_S), o = .inr (a0', a1', a2', a3', a4') → kj_J p l e rm_X8_corners s m args below meth c 0 0 Q 7 D A ((km_w cA h0 q) a4') 86 [(0, .ref h0), (1, .int a0'), (2, .int a1'), (3, .int a2'), (4, .int a3')] []) : kj_J p l e rm_X8_corners s m args below meth c 0 0 Q 7 D A ((km_w cA h0 q) z) 65 [(0, .ref h0), (1, .int x1), (2, .int x2), (3, .int x3), (4, .int x4), (5, .int x5)] [.int t0] := by
  unfold fm_corners_65 at h
  refine kj_istore F dX8_corners_65 (lv' := [(6, .int t0), (0, .ref h0), (1, .int x1), (2, .int x2), (3, .int x3), (4, .int x4), (5, .int x5)]) (by decide) rfl ?_
  refine kj_iload_n F dX8_corners_67 4 rfl rfl ?_
  refine kj_iload F dX8_corners_68 0 rfl ?_
  refine kj_if_eq F dX8_corners_70 (tgt := 77) (by decide) h (fun hc h => ?_) (fun hc h => ?_)
  · refine kj_iconst F dX8_corners_77 (v := 0) (by decide) ?_
    refine kj_J.sub [1, 2, 3, 5, 6] rfl ?_
    exact jm_corners_78 F h kb ke0
  · refine kj_iconst F dX8_corners_73 (v := 1) (by decide) ?_
    refine kj_goto F dX8_corners_74 (tgt := 78) (by decide) ?_
    refine kj_J.sub [1, 2, 3, 5, 6] rfl ?_
    exact jm_corners_78 F h kb ke0
set_option maxRecDepth 20000 in
theorem jm_corners_21 {p : Program} {l : Launch} {e : Env} {s : State} {m : MethodId} {args : Array Value} {below : List Frame} {meth : Method} {c : Code} {A : Nat → Prop} {D : va_G} {cA : Nat → ClassId} {h0 : Nat} {q : Nat → Nat} {Q : State → Prop} (F : kj_Fx p s m args meth c cX8_corners 7 wsX8_corners RX8 (some .int) D (km_T cA) A) {x1 : Int32} {x2 : Int32} {x3 : Int32} {x4 : Int32} {x5 : Int32} {z : km_S} {o : ((Int32 × Int32 × Int32 × Int32 × Int32 × km_S) ⊕ (Int32 × Int32 × Int32 × Int32 × km_S))} (h : fm_corners_21 x1 x2 x3 x4 x5 z = some o) (kb : ∀ (a0' : Int32) (a1' : Int32) (a2' : Int32) (a3' : Int32) (a4' : Int32) (a5' : km_S), o = .inl (a0', a1', a2', a3', a4', a5') → kj_J p l e rm_X8_corners s m args below meth c 0 0 Q 7 D A ((km_w cA h0 q) a5') 21 [(0, .ref h0), (1, .int a0'), (2, .int a1'), (3, .int a2'), (4, .int a3'), (5, .int a4')] []) (ke0 : ∀ (a0' : Int32) (a1' : Int32) (a2' : Int32) (a3' : Int32) (a4' : km_S), o = .inr (a0', a1', a2', a3', a4') → kj_J p l e rm_X8_corners s m args below meth c 0 0 Q 7 D A ((km_w cA h0 q) a4') 86 [(0, .ref h0), (1, .int a0'), (2, .int a1'), (3, .int a2'), (4, .int a3')] []) : kj_J p l e rm_X8_corners s m args below meth c 0 0 Q 7 D A ((km_w cA h0 q) z) 21 [(0, .ref h0), (1, .int x1), (2, .int x2), (3, .int x3), (4, .int x4), (5, .int x5)] [] := by
  unfold fm_corners_21 at h
  refine kj_iload F dX8_corners_21 5 rfl ?_
  refine kj_aload_n F dX8_corners_23 0 rfl rfl ?_
  refine km_get F dX8_corners_24 in_X8_corners 0 (by decide) (by decide +kernel) rfl rfl ?_
  refine kj_iload_n F dX8_corners_27 1 rfl rfl ?_
  refine kj_iconst F dX8_corners_28 (v := 2) (by decide) ?_
  refine kj_iadd F dX8_corners_29 ?_
  refine km_iald F dX8_corners_30 0 (by decide) h (fun v1 h => ?_)
  refine kj_icmp_ge F dX8_corners_31 (tgt := 86) (by decide) h (fun hc h => ?_) (fun hc h => ?_)
  · refine kj_J.sub [0, 1, 2, 3, 4] rfl ?_
    exact ke0 x1 x2 x3 x4 z (Option.some.inj h).symm
  · refine kj_iload_n F dX8_corners_34 2 rfl rfl ?_
    refine kj_if_eq F dX8_corners_35 (tgt := 53) (by decide) h (fun hc h => ?_) (fun hc h => ?_)
    · refine kj_aload_n F dX8_corners_53 0 rfl rfl ?_
      refine km_get F dX8_corners_54 in_X8_corners 0 (by decide) (by decide +kernel) rfl rfl ?_
      refine kj_iload_n F dX8_corners_57 1 rfl rfl ?_
      refine kj_iload F dX8_corners_58 4 rfl ?_
      refine kj_iload F dX8_corners_60 5 rfl ?_
      refine kj_cSi (As := [.ref (q 0), .int x1, .int x4, .int x5]) (rest := []) F dX8_corners_62 h (fun o h1 => cm_canTake (by decide) h1) (va_cwS 4 F.2.2.2.2.1 gX8_corners_X8_canTake rfl rfl rfl (by decide +kernel) ⟨Nat.le_of_ble_eq_true rfl, Nat.le_of_ble_eq_true rfl⟩) rfl rfl (Nat.le_of_ble_eq_true rfl) ⟨Nat.zero_le _, Nat.zero_le _⟩ (fun o2 h => ?_)
      exact jm_corners_65 F h kb ke0
    · refine kj_aload_n F dX8_corners_38 0 rfl rfl ?_
      refine km_get F dX8_corners_39 in_X8_corners 0 (by decide) (by decide +kernel) rfl rfl ?_
      refine kj_iload_n F dX8_corners_42 1 rfl rfl ?_
      refine kj_iload F dX8_corners_43 4 rfl ?_
      refine kj_iload F dX8_corners_45 5 rfl ?_
      refine kj_cSi (As := [.ref (q 0), .int x1, .int x4, .int x5]) (rest := []) F dX8_corners_47 h (fun o h1 => cm_canLay (by decide) h1) (va_cwS 4 F.2.2.2.2.1 gX8_corners_X8_canLay rfl rfl rfl (by decide +kernel) ⟨Nat.le_of_ble_eq_true rfl, Nat.le_of_ble_eq_true rfl⟩) rfl rfl (Nat.le_of_ble_eq_true rfl) ⟨Nat.zero_le _, Nat.zero_le _⟩ (fun o3 h => ?_)
      refine kj_goto F dX8_corners_50 (tgt := 65) (by decide) ?_
      exact jm_corners_65 F h kb ke0
theorem jlm_corners_21 {p : Program} {l : Launch} {e : Env} {s : State} {m : MethodId} {args : Array Value} {below : List Frame} {meth : Method} {c : Code} {A : Nat → Prop} {D : va_G} {cA : Nat → ClassId} {h0 : Nat} {q : Nat → Nat} {Q : State → Prop} (F : kj_Fx p s m args meth c cX8_corners 7 wsX8_corners RX8 (some .int) D (km_T cA) A) {n : Nat} {x1 : Int32} {x2 : Int32} {x3 : Int32} {x4 : Int32} {x5 : Int32} {z : km_S} {r : (Int32 × Int32 × Int32 × Int32 × km_S)} (h : lm_corners_21 n x1 x2 x3 x4 x5 z = some r) (ke : kj_J p l e rm_X8_corners s m args below meth c 0 0 Q 7 D A ((km_w cA h0 q) (r.2.2.2.2)) 86 [(0, .ref h0), (1, .int (r.1)), (2, .int (r.2.1)), (3, .int (r.2.2.1)), (4, .int (r.2.2.2.1))] []) : kj_J p l e rm_X8_corners s m args below meth c 0 0 Q 7 D A ((km_w cA h0 q) z) 21 [(0, .ref h0), (1, .int x1), (2, .int x2), (3, .int x3), (4, .int x4), (5, .int x5)] [] :=
  kj_it_J (Wh := fun (u : (Int32 × Int32 × Int32 × Int32 × Int32 × km_S)) => kj_J p l e rm_X8_corners s m args below meth c 0 0 Q 7 D A ((km_w cA h0 q) (u.2.2.2.2.2)) 21 [(0, .ref h0), (1, .int (u.1)), (2, .int (u.2.1)), (3, .int (u.2.2.1)), (4, .int (u.2.2.2.1)), (5, .int (u.2.2.2.2.1))] []) (We := fun r => kj_J p l e rm_X8_corners s m args below meth c 0 0 Q 7 D A ((km_w cA h0 q) (r.2.2.2.2)) 86 [(0, .ref h0), (1, .int (r.1)), (2, .int (r.2.1)), (3, .int (r.2.2.1)), (4, .int (r.2.2.2.1))] []) (fun u o h kb ke => jm_corners_21 F h (fun a0' a1' a2' a3' a4' a5' e => kb (a0', a1', a2', a3', a4', a5') e) (fun a0' a1' a2' a3' a4' e => ke (a0', a1', a2', a3', a4') e)) n (x1, x2, x3, x4, x5, z) r h ke
set_option maxRecDepth 20000 in
theorem jm_corners_5 {p : Program} {l : Launch} {e : Env} {s : State} {m : MethodId} {args : Array Value} {below : List Frame} {meth : Method} {c : Code} {A : Nat → Prop} {D : va_G} {cA : Nat → ClassId} {h0 : Nat} {q : Nat → Nat} {Q : State → Prop} (F : kj_Fx p s m args meth c cX8_corners 7 wsX8_corners RX8 (some .int) D (km_T cA) A) {x1 : Int32} {x2 : Int32} {x3 : Int32} {x4 : Int32} {z : km_S} {o : ((Int32 × Int32 × Int32 × Int32 × km_S) ⊕ (Int32 × km_S))} (h : fm_corners_5 x1 x2 x3 x4 z = some o) (kb : ∀ (a0' : Int32) (a1' : Int32) (a2' : Int32) (a3' : Int32) (a4' : km_S), o = .inl (a0', a1', a2', a3', a4') → kj_J p l e rm_X8_corners s m args below meth c 0 0 Q 7 D A ((km_w cA h0 q) a4') 5 [(0, .ref h0), (1, .int a0'), (2, .int a1'), (3, .int a2'), (4, .int a3')] []) (ke0 : ∀ (a0' : Int32) (a1' : km_S), o = .inr (a0', a1') → kj_J p l e rm_X8_corners s m args below meth c 0 0 Q 7 D A ((km_w cA h0 q) a1') 92 [(3, .int a0')] []) : kj_J p l e rm_X8_corners s m args below meth c 0 0 Q 7 D A ((km_w cA h0 q) z) 5 [(0, .ref h0), (1, .int x1), (2, .int x2), (3, .int x3), (4, .int x4)] [] := by
  unfold fm_corners_5 at h
  refine kj_iload F dX8_corners_5 4 rfl ?_
  refine kj_aload_n F dX8_corners_7 0 rfl rfl ?_
  refine km_get F dX8_corners_8 in_X8_corners 0 (by decide) (by decide +kernel) rfl rfl ?_
  refine kj_iload_n F dX8_corners_11 1 rfl rfl ?_
  refine kj_iconst F dX8_corners_12 (v := 1) (by decide) ?_
  refine kj_iadd F dX8_corners_13 ?_
  refine km_iald F dX8_corners_14 0 (by decide) h (fun v1 h => ?_)
  refine kj_icmp_ge F dX8_corners_15 (tgt := 92) (by decide) h (fun hc h => ?_) (fun hc h => ?_)
  · refine kj_J.sub [3] rfl ?_
    exact ke0 x3 z (Option.some.inj h).symm
  · refine kj_iconst F dX8_corners_18 (v := 0) (by decide) ?_
    refine kj_istore F dX8_corners_19 (lv' := [(5, .int (0 : Int32)), (0, .ref h0), (1, .int x1), (2, .int x2), (3, .int x3), (4, .int x4)]) (by decide) rfl ?_
    refine kj_J.sub [1, 2, 3, 4, 5, 0] rfl ?_
    refine kj_bn h (fun r2 h1 h => ?_)
    refine jlm_corners_21 F h1 ?_
    refine kj_iinc F dX8_corners_86 4 rfl (v := 1) (by decide) (by decide) (lv' := [(4, .int ((r2.2.2.2.1) + 1)), (0, .ref h0), (1, .int (r2.1)), (2, .int (r2.2.1)), (3, .int (r2.2.2.1))]) rfl ?_
    refine kj_goto F dX8_corners_89 (tgt := 5) (by decide) ?_
    refine kj_J.sub [1, 2, 3, 4, 0] rfl ?_
    exact kb (r2.1) (r2.2.1) (r2.2.2.1) ((r2.2.2.2.1) + 1) (r2.2.2.2.2) (Option.some.inj h).symm
theorem jlm_corners_5 {p : Program} {l : Launch} {e : Env} {s : State} {m : MethodId} {args : Array Value} {below : List Frame} {meth : Method} {c : Code} {A : Nat → Prop} {D : va_G} {cA : Nat → ClassId} {h0 : Nat} {q : Nat → Nat} {Q : State → Prop} (F : kj_Fx p s m args meth c cX8_corners 7 wsX8_corners RX8 (some .int) D (km_T cA) A) {n : Nat} {x1 : Int32} {x2 : Int32} {x3 : Int32} {x4 : Int32} {z : km_S} {r : (Int32 × km_S)} (h : lm_corners_5 n x1 x2 x3 x4 z = some r) (ke : kj_J p l e rm_X8_corners s m args below meth c 0 0 Q 7 D A ((km_w cA h0 q) (r.2)) 92 [(3, .int (r.1))] []) : kj_J p l e rm_X8_corners s m args below meth c 0 0 Q 7 D A ((km_w cA h0 q) z) 5 [(0, .ref h0), (1, .int x1), (2, .int x2), (3, .int x3), (4, .int x4)] [] :=
  kj_it_J (Wh := fun (u : (Int32 × Int32 × Int32 × Int32 × km_S)) => kj_J p l e rm_X8_corners s m args below meth c 0 0 Q 7 D A ((km_w cA h0 q) (u.2.2.2.2)) 5 [(0, .ref h0), (1, .int (u.1)), (2, .int (u.2.1)), (3, .int (u.2.2.1)), (4, .int (u.2.2.2.1))] []) (We := fun r => kj_J p l e rm_X8_corners s m args below meth c 0 0 Q 7 D A ((km_w cA h0 q) (r.2)) 92 [(3, .int (r.1))] []) (fun u o h kb ke => jm_corners_5 F h (fun a0' a1' a2' a3' a4' e => kb (a0', a1', a2', a3', a4') e) (fun a0' a1' e => ke (a0', a1') e)) n (x1, x2, x3, x4, z) r h ke
set_option maxRecDepth 20000 in
theorem jm_corners {p : Program} {l : Launch} {e : Env} {s : State} {m : MethodId} {args : Array Value} {below : List Frame} {meth : Method} {c : Code} {A : Nat → Prop} {D : va_G} {cA : Nat → ClassId} {h0 : Nat} {q : Nat → Nat} (F : kj_Fx p s m args meth c cX8_corners 7 wsX8_corners RX8 (some .int) D (km_T cA) A) {x1 : Int32} {x2 : Int32} {z : km_S} {o : (Int32 × km_S)} (h : fm_corners x1 x2 z = some o) : kj_J p l e rm_X8_corners s m args below meth c 0 0 (MQ below (kj_Qi D (km_T cA) A (km_w cA h0 q) o) args s 0 0 A) 7 D A ((km_w cA h0 q) z) 0 [(0, .ref h0), (1, .int x1), (2, .int x2)] [] := by
  unfold fm_corners at h
  refine kj_iconst F dX8_corners_0 (v := 0) (by decide) ?_
  refine kj_istore_n F dX8_corners_1 (lv' := [(3, .int (0 : Int32)), (0, .ref h0), (1, .int x1), (2, .int x2)]) rfl (by decide) rfl ?_
  refine kj_iconst F dX8_corners_2 (v := 0) (by decide) ?_
  refine kj_istore F dX8_corners_3 (lv' := [(4, .int (0 : Int32)), (3, .int (0 : Int32)), (0, .ref h0), (1, .int x1), (2, .int x2)]) (by decide) rfl ?_
  refine kj_J.sub [2, 3, 4, 1, 0] rfl ?_
  refine kj_bn h (fun r1 h1 h => ?_)
  refine jlm_corners_5 F h1 ?_
  refine kj_iload_n F dX8_corners_92 0 rfl rfl ?_
  exact kj_iret F dX8_corners_93 h
theorem cm_corners {l : Launch} {D : va_G} {cA : Nat → ClassId} {h0 : Nat} {q : Nat → Nat} {x1 : Int32} {x2 : Int32} {z : km_S} {o : (Int32 × km_S)} (h : fm_corners x1 x2 z = some o) : kj_Mi l yX8_corners wsX8_corners rm_X8_corners D (km_T cA) (km_w cA h0 q) z [.ref h0, .int x1, .int x2] o :=
  fun sz => kj_start (by decide) rfl (Nat.le_of_ble_eq_true rfl) rfl fun p e s m args below meth c hsz F => jm_corners F h
/-! X8_symmetries -/
abbrev rm_X8_symmetries : Room := { frames := 3, cells := 0, slots := 0, locals := 75 }
theorem in_X8_symmetries : ∀ w ∈ u_ws RX8 TX8 29, w ∈ wsX8_symmetries := by decide +kernel
def fm_symmetries_46 (k0 : Nat) (x2 : Int32) (x4 : Int32) (t0 : Int32) (t1 : Int32) (z : km_S) : Option ((Int32 × Int32 × Int32 × km_S) ⊕ (Int32 × Int32 × km_S)) :=
  some (.inl (x2, (t1 ||| t0), (x4 + 1), z))
def fm_symmetries_5 (k0 : Nat) (x2 : Int32) (x3 : Int32) (x4 : Int32) (z : km_S) : Option ((Int32 × Int32 × Int32 × km_S) ⊕ (Int32 × Int32 × km_S)) :=
  if (3 : Int32) ≤ x4 then
  some (.inr (x2, x3, z))
  else
  (fm_turns k0 5 x2 x4 z).bind fun o1 =>
  (fm_isSame k0 5 x2 (0 : Int32) (20 : Int32) o1).bind fun o2 =>
  if (o2.1) = 0 then
  fm_symmetries_46 k0 x2 x4 (0 : Int32) x3 (o2.2)
  else
  fm_symmetries_46 k0 x2 x4 ((1 : Int32) <<< (x4 &&& 31)) x3 (o2.2)
def lm_symmetries_5 (k0 : Nat) (n : Nat) (x2 : Int32) (x3 : Int32) (x4 : Int32) (z : km_S) : Option (Int32 × Int32 × km_S) :=
  kj_it (fun (s : (Int32 × Int32 × Int32 × km_S)) => fm_symmetries_5 k0 (s.1) (s.2.1) (s.2.2.1) (s.2.2.2)) n (x2, x3, x4, z)
def fm_symmetries_99 (k0 : Nat) (t0 : Int32) (t1 : Int32) (z : km_S) : Option (Int32 × km_S) :=
  some ((t1 ||| t0), z)
def fm_symmetries (k0 : Nat) (x2 : Int32) (z : km_S) : Option (Int32 × km_S) :=
  (lm_symmetries_5 k0 5000 x2 (0 : Int32) (0 : Int32) z).bind fun r1 =>
  (fm_turns k0 5 (r1.1) (0 : Int32) (r1.2.2)).bind fun o2 =>
  (fm_turns 5 8 (0 : Int32) (2 : Int32) o2).bind fun o3 =>
  (fm_isSame k0 8 (r1.1) (0 : Int32) (20 : Int32) o3).bind fun o4 =>
  if (o4.1) = 0 then
  fm_symmetries_99 k0 (0 : Int32) (r1.2.1) (o4.2)
  else
  fm_symmetries_99 k0 (8 : Int32) (r1.2.1) (o4.2)
set_option maxRecDepth 20000 in
theorem jm_symmetries_46 {p : Program} {l : Launch} {e : Env} {s : State} {m : MethodId} {args : Array Value} {below : List Frame} {meth : Method} {c : Code} {A : Nat → Prop} {D : va_G} {cA : Nat → ClassId} {h0 : Nat} {q : Nat → Nat} {Q : State → Prop} (F : kj_Fx p s m args meth c cX8_symmetries 5 wsX8_symmetries RX8 (some .int) D (km_T cA) A) {k0 : Nat} (hk0 : k0 < 18) {x2 : Int32} {x4 : Int32} {t0 : Int32} {t1 : Int32} {z : km_S} {o : ((Int32 × Int32 × Int32 × km_S) ⊕ (Int32 × Int32 × km_S))} (h : fm_symmetries_46 k0 x2 x4 t0 t1 z = some o) (kb : ∀ (a0' : Int32) (a1' : Int32) (a2' : Int32) (a3' : km_S), o = .inl (a0', a1', a2', a3') → kj_J p l e rm_X8_symmetries s m args below meth c 0 0 Q 5 D A ((km_w cA h0 q) a3') 5 [(0, .ref h0), (1, .ref (q k0)), (2, .int a0'), (3, .int a1'), (4, .int a2')] []) (ke0 : ∀ (a0' : Int32) (a1' : Int32) (a2' : km_S), o = .inr (a0', a1', a2') → kj_J p l e rm_X8_symmetries s m args below meth c 0 0 Q 5 D A ((km_w cA h0 q) a2') 54 [(0, .ref h0), (1, .ref (q k0)), (2, .int a0'), (3, .int a1')] []) : kj_J p l e rm_X8_symmetries s m args below meth c 0 0 Q 5 D A ((km_w cA h0 q) z) 46 [(0, .ref h0), (1, .ref (q k0)), (2, .int x2), (4, .int x4)] [.int t0, .int t1] := by
  unfold fm_symmetries_46 at h
  refine kj_ior F dX8_symmetries_46 ?_
  refine kj_istore_n F dX8_symmetries_47 (lv' := [(3, .int (t1 ||| t0)), (0, .ref h0), (1, .ref (q k0)), (2, .int x2), (4, .int x4)]) rfl (by decide) rfl ?_
  refine kj_iinc F dX8_symmetries_48 4 rfl (v := 1) (by decide) (by decide) (lv' := [(4, .int (x4 + 1)), (3, .int (t1 ||| t0)), (0, .ref h0), (1, .ref (q k0)), (2, .int x2)]) rfl ?_
  refine kj_goto F dX8_symmetries_51 (tgt := 5) (by decide) ?_
  refine kj_J.sub [2, 3, 4, 1, 0] rfl ?_
  exact kb x2 (t1 ||| t0) (x4 + 1) z (Option.some.inj h).symm
set_option maxRecDepth 20000 in
theorem jm_symmetries_5 {p : Program} {l : Launch} {e : Env} {s : State} {m : MethodId} {args : Array Value} {below : List Frame} {meth : Method} {c : Code} {A : Nat → Prop} {D : va_G} {cA : Nat → ClassId} {h0 : Nat} {q : Nat → Nat} {Q : State → Prop} (F : kj_Fx p s m args meth c cX8_symmetries 5 wsX8_symmetries RX8 (some .int) D (km_T cA) A) {k0 : Nat} (hk0 : k0 < 18) {x2 : Int32} {x3 : Int32} {x4 : Int32} {z : km_S} {o : ((Int32 × Int32 × Int32 × km_S) ⊕ (Int32 × Int32 × km_S))} (h : fm_symmetries_5 k0 x2 x3 x4 z = some o) (kb : ∀ (a0' : Int32) (a1' : Int32) (a2' : Int32) (a3' : km_S), o = .inl (a0', a1', a2', a3') → kj_J p l e rm_X8_symmetries s m args below meth c 0 0 Q 5 D A ((km_w cA h0 q) a3') 5 [(0, .ref h0), (1, .ref (q k0)), (2, .int a0'), (3, .int a1'), (4, .int a2')] []) (ke0 : ∀ (a0' : Int32) (a1' : Int32) (a2' : km_S), o = .inr (a0', a1', a2') → kj_J p l e rm_X8_symmetries s m args below meth c 0 0 Q 5 D A ((km_w cA h0 q) a2') 54 [(0, .ref h0), (1, .ref (q k0)), (2, .int a0'), (3, .int a1')] []) : kj_J p l e rm_X8_symmetries s m args below meth c 0 0 Q 5 D A ((km_w cA h0 q) z) 5 [(0, .ref h0), (1, .ref (q k0)), (2, .int x2), (3, .int x3), (4, .int x4)] [] := by
  unfold fm_symmetries_5 at h
  refine kj_iload F dX8_symmetries_5 4 rfl ?_
  refine kj_iconst F dX8_symmetries_7 (v := 3) (by decide) ?_
  refine kj_icmp_ge F dX8_symmetries_8 (tgt := 54) (by decide) h (fun hc h => ?_) (fun hc h => ?_)
  · refine kj_J.sub [0, 1, 2, 3] rfl ?_
    exact ke0 x2 x3 z (Option.some.inj h).symm
  · refine kj_aload_n F dX8_symmetries_11 1 rfl rfl ?_
    refine kj_iload_n F dX8_symmetries_12 2 rfl rfl ?_
    refine kj_iload F dX8_symmetries_13 4 rfl ?_
    refine kj_aload_n F dX8_symmetries_15 0 rfl rfl ?_
    refine km_get F dX8_symmetries_16 in_X8_symmetries 9 (by decide) (by decide +kernel) rfl rfl ?_
    refine kj_cSv (As := [.ref (q k0), .int x2, .int x4, .ref (q 5)]) (rest := []) F dX8_symmetries_19 h (fun o h1 => cm_turns hk0 (by decide) h1) (va_cwS 4 F.2.2.2.2.1 gX8_symmetries_X8_turns rfl rfl rfl (by decide +kernel) ⟨Nat.le_of_ble_eq_true rfl, Nat.le_of_ble_eq_true rfl⟩) rfl rfl (Nat.le_of_ble_eq_true rfl) ⟨Nat.zero_le _, Nat.zero_le _⟩ (fun o1 h => ?_)
    refine kj_iload_n F dX8_symmetries_22 3 rfl rfl ?_
    refine kj_aload_n F dX8_symmetries_23 1 rfl rfl ?_
    refine kj_iload_n F dX8_symmetries_24 2 rfl rfl ?_
    refine kj_aload_n F dX8_symmetries_25 0 rfl rfl ?_
    refine km_get F dX8_symmetries_26 in_X8_symmetries 9 (by decide) (by decide +kernel) rfl rfl ?_
    refine kj_iconst F dX8_symmetries_29 (v := 0) (by decide) ?_
    refine kj_bipush F dX8_symmetries_30 (v := 20) (by decide) ?_
    refine kj_cSi (As := [.ref (q k0), .int x2, .ref (q 5), .int (0 : Int32), .int (20 : Int32)]) (rest := [.int x3]) F dX8_symmetries_32 h (fun o h1 => cm_isSame hk0 (by decide) h1) (va_cwS 5 F.2.2.2.2.1 gX8_symmetries_X8_isSame rfl rfl rfl (by decide +kernel) ⟨Nat.le_of_ble_eq_true rfl, Nat.le_of_ble_eq_true rfl⟩) rfl rfl (Nat.le_of_ble_eq_true rfl) ⟨Nat.zero_le _, Nat.zero_le _⟩ (fun o2 h => ?_)
    refine kj_if_eq F dX8_symmetries_35 (tgt := 45) (by decide) h (fun hc h => ?_) (fun hc h => ?_)
    · refine kj_iconst F dX8_symmetries_45 (v := 0) (by decide) ?_
      refine kj_J.sub [0, 1, 2, 4] rfl ?_
      exact jm_symmetries_46 F hk0 h kb ke0
    · refine kj_iconst F dX8_symmetries_38 (v := 1) (by decide) ?_
      refine kj_iload F dX8_symmetries_39 4 rfl ?_
      refine kj_ishl F dX8_symmetries_41 ?_
      refine kj_goto F dX8_symmetries_42 (tgt := 46) (by decide) ?_
      refine kj_J.sub [0, 1, 2, 4] rfl ?_
      exact jm_symmetries_46 F hk0 h kb ke0
theorem jlm_symmetries_5 {p : Program} {l : Launch} {e : Env} {s : State} {m : MethodId} {args : Array Value} {below : List Frame} {meth : Method} {c : Code} {A : Nat → Prop} {D : va_G} {cA : Nat → ClassId} {h0 : Nat} {q : Nat → Nat} {Q : State → Prop} (F : kj_Fx p s m args meth c cX8_symmetries 5 wsX8_symmetries RX8 (some .int) D (km_T cA) A) {k0 : Nat} (hk0 : k0 < 18) {n : Nat} {x2 : Int32} {x3 : Int32} {x4 : Int32} {z : km_S} {r : (Int32 × Int32 × km_S)} (h : lm_symmetries_5 k0 n x2 x3 x4 z = some r) (ke : kj_J p l e rm_X8_symmetries s m args below meth c 0 0 Q 5 D A ((km_w cA h0 q) (r.2.2)) 54 [(0, .ref h0), (1, .ref (q k0)), (2, .int (r.1)), (3, .int (r.2.1))] []) : kj_J p l e rm_X8_symmetries s m args below meth c 0 0 Q 5 D A ((km_w cA h0 q) z) 5 [(0, .ref h0), (1, .ref (q k0)), (2, .int x2), (3, .int x3), (4, .int x4)] [] :=
  kj_it_J (Wh := fun (u : (Int32 × Int32 × Int32 × km_S)) => kj_J p l e rm_X8_symmetries s m args below meth c 0 0 Q 5 D A ((km_w cA h0 q) (u.2.2.2)) 5 [(0, .ref h0), (1, .ref (q k0)), (2, .int (u.1)), (3, .int (u.2.1)), (4, .int (u.2.2.1))] []) (We := fun r => kj_J p l e rm_X8_symmetries s m args below meth c 0 0 Q 5 D A ((km_w cA h0 q) (r.2.2)) 54 [(0, .ref h0), (1, .ref (q k0)), (2, .int (r.1)), (3, .int (r.2.1))] []) (fun u o h kb ke => jm_symmetries_5 F hk0 h (fun a0' a1' a2' a3' e => kb (a0', a1', a2', a3') e) (fun a0' a1' a2' e => ke (a0', a1', a2') e)) n (x2, x3, x4, z) r h ke
set_option maxRecDepth 20000 in
theorem jm_symmetries_99 {p : Program} {l : Launch} {e : Env} {s : State} {m : MethodId} {args : Array Value} {below : List Frame} {meth : Method} {c : Code} {A : Nat → Prop} {D : va_G} {cA : Nat → ClassId} {h0 : Nat} {q : Nat → Nat} (F : kj_Fx p s m args meth c cX8_symmetries 5 wsX8_symmetries RX8 (some .int) D (km_T cA) A) {k0 : Nat} (hk0 : k0 < 18) {t0 : Int32} {t1 : Int32} {z : km_S} {o : (Int32 × km_S)} (h : fm_symmetries_99 k0 t0 t1 z = some o) : kj_J p l e rm_X8_symmetries s m args below meth c 0 0 (MQ below (kj_Qi D (km_T cA) A (km_w cA h0 q) o) args s 0 0 A) 5 D A ((km_w cA h0 q) z) 99 [] [.int t0, .int t1] := by
  unfold fm_symmetries_99 at h
  refine kj_ior F dX8_symmetries_99 ?_
  exact kj_iret F dX8_symmetries_100 h
set_option maxRecDepth 20000 in
theorem jm_symmetries {p : Program} {l : Launch} {e : Env} {s : State} {m : MethodId} {args : Array Value} {below : List Frame} {meth : Method} {c : Code} {A : Nat → Prop} {D : va_G} {cA : Nat → ClassId} {h0 : Nat} {q : Nat → Nat} (F : kj_Fx p s m args meth c cX8_symmetries 5 wsX8_symmetries RX8 (some .int) D (km_T cA) A) {k0 : Nat} (hk0 : k0 < 18) {x2 : Int32} {z : km_S} {o : (Int32 × km_S)} (h : fm_symmetries k0 x2 z = some o) : kj_J p l e rm_X8_symmetries s m args below meth c 0 0 (MQ below (kj_Qi D (km_T cA) A (km_w cA h0 q) o) args s 0 0 A) 5 D A ((km_w cA h0 q) z) 0 [(0, .ref h0), (1, .ref (q k0)), (2, .int x2)] [] := by
  unfold fm_symmetries at h
  refine kj_iconst F dX8_symmetries_0 (v := 0) (by decide) ?_
  refine kj_istore_n F dX8_symmetries_1 (lv' := [(3, .int (0 : Int32)), (0, .ref h0), (1, .ref (q k0)), (2, .int x2)]) rfl (by decide) rfl ?_
  refine kj_iconst F dX8_symmetries_2 (v := 0) (by decide) ?_
  refine kj_istore F dX8_symmetries_3 (lv' := [(4, .int (0 : Int32)), (3, .int (0 : Int32)), (0, .ref h0), (1, .ref (q k0)), (2, .int x2)]) (by decide) rfl ?_
  refine kj_J.sub [2, 3, 4, 1, 0] rfl ?_
  refine kj_bn h (fun r1 h1 h => ?_)
  refine jlm_symmetries_5 F hk0 h1 ?_
  refine kj_aload_n F dX8_symmetries_54 1 rfl rfl ?_
  refine kj_iload_n F dX8_symmetries_55 2 rfl rfl ?_
  refine kj_iconst F dX8_symmetries_56 (v := 0) (by decide) ?_
  refine kj_aload_n F dX8_symmetries_57 0 rfl rfl ?_
  refine km_get F dX8_symmetries_58 in_X8_symmetries 9 (by decide) (by decide +kernel) rfl rfl ?_
  refine kj_cSv (As := [.ref (q k0), .int (r1.1), .int (0 : Int32), .ref (q 5)]) (rest := []) F dX8_symmetries_61 h (fun o h1 => cm_turns hk0 (by decide) h1) (va_cwS 4 F.2.2.2.2.1 gX8_symmetries_X8_turns rfl rfl rfl (by decide +kernel) ⟨Nat.le_of_ble_eq_true rfl, Nat.le_of_ble_eq_true rfl⟩) rfl rfl (Nat.le_of_ble_eq_true rfl) ⟨Nat.zero_le _, Nat.zero_le _⟩ (fun o2 h => ?_)
  refine kj_aload_n F dX8_symmetries_64 0 rfl rfl ?_
  refine km_get F dX8_symmetries_65 in_X8_symmetries 9 (by decide) (by decide +kernel) rfl rfl ?_
  refine kj_iconst F dX8_symmetries_68 (v := 0) (by decide) ?_
  refine kj_iconst F dX8_symmetries_69 (v := 2) (by decide) ?_
  refine kj_aload_n F dX8_symmetries_70 0 rfl rfl ?_
  refine km_get F dX8_symmetries_71 in_X8_symmetries 16 (by decide) (by decide +kernel) rfl rfl ?_
  refine kj_cSv (As := [.ref (q 5), .int (0 : Int32), .int (2 : Int32), .ref (q 8)]) (rest := []) F dX8_symmetries_74 h (fun o h1 => cm_turns (by decide) (by decide) h1) (va_cwS 4 F.2.2.2.2.1 gX8_symmetries_X8_turns rfl rfl rfl (by decide +kernel) ⟨Nat.le_of_ble_eq_true rfl, Nat.le_of_ble_eq_true rfl⟩) rfl rfl (Nat.le_of_ble_eq_true rfl) ⟨Nat.zero_le _, Nat.zero_le _⟩ (fun o3 h => ?_)
  refine kj_iload_n F dX8_symmetries_77 3 rfl rfl ?_
  refine kj_aload_n F dX8_symmetries_78 1 rfl rfl ?_
  refine kj_iload_n F dX8_symmetries_79 2 rfl rfl ?_
  refine kj_aload_n F dX8_symmetries_80 0 rfl rfl ?_
  refine km_get F dX8_symmetries_81 in_X8_symmetries 16 (by decide) (by decide +kernel) rfl rfl ?_
  refine kj_iconst F dX8_symmetries_84 (v := 0) (by decide) ?_
  refine kj_bipush F dX8_symmetries_85 (v := 20) (by decide) ?_
  refine kj_cSi (As := [.ref (q k0), .int (r1.1), .ref (q 8), .int (0 : Int32), .int (20 : Int32)]) (rest := [.int (r1.2.1)]) F dX8_symmetries_87 h (fun o h1 => cm_isSame hk0 (by decide) h1) (va_cwS 5 F.2.2.2.2.1 gX8_symmetries_X8_isSame rfl rfl rfl (by decide +kernel) ⟨Nat.le_of_ble_eq_true rfl, Nat.le_of_ble_eq_true rfl⟩) rfl rfl (Nat.le_of_ble_eq_true rfl) ⟨Nat.zero_le _, Nat.zero_le _⟩ (fun o4 h => ?_)
  refine kj_if_eq F dX8_symmetries_90 (tgt := 98) (by decide) h (fun hc h => ?_) (fun hc h => ?_)
  · refine kj_iconst F dX8_symmetries_98 (v := 0) (by decide) ?_
    refine kj_J.sub [] rfl ?_
    exact jm_symmetries_99 F hk0 h
  · refine kj_bipush F dX8_symmetries_93 (v := 8) (by decide) ?_
    refine kj_goto F dX8_symmetries_95 (tgt := 99) (by decide) ?_
    refine kj_J.sub [] rfl ?_
    exact jm_symmetries_99 F hk0 h
theorem cm_symmetries {l : Launch} {D : va_G} {cA : Nat → ClassId} {h0 : Nat} {q : Nat → Nat} {k0 : Nat} (hk0 : k0 < 18) {x2 : Int32} {z : km_S} {o : (Int32 × km_S)} (h : fm_symmetries k0 x2 z = some o) : kj_Mi l yX8_symmetries wsX8_symmetries rm_X8_symmetries D (km_T cA) (km_w cA h0 q) z [.ref h0, .ref (q k0), .int x2] o :=
  fun sz => kj_start (by decide) rfl (Nat.le_of_ble_eq_true rfl) rfl fun p e s m args below meth c hsz F => jm_symmetries F hk0 h
/-! X8_laysKin -/
abbrev rm_X8_laysKin : Room := { frames := 3, cells := 0, slots := 0, locals := 75 }
theorem in_X8_laysKin : ∀ w ∈ u_ws RX8 TX8 29, w ∈ wsX8_laysKin := by decide +kernel
def fm_laysKin_113 (x2 : Int32) (x3 : Int32) (x5 : Int32) (t0 : Int32) (z : km_S) : Option ((Int32 × Int32 × Int32 × Int32 × km_S) ⊕ (Int32 × Int32 × Int32 × km_S)) :=
  some (.inl (x2, x3, t0, (x5 + 1), z))
def fm_laysKin_112 (x2 : Int32) (x3 : Int32) (x5 : Int32) (z : km_S) : Option ((Int32 × Int32 × Int32 × Int32 × km_S) ⊕ (Int32 × Int32 × Int32 × km_S)) :=
  fm_laysKin_113 x2 x3 x5 (0 : Int32) z
def fm_laysKin_72 (x2 : Int32) (x3 : Int32) (x4 : Int32) (x5 : Int32) (z : km_S) : Option ((Int32 × Int32 × Int32 × Int32 × km_S) ⊕ (Int32 × Int32 × Int32 × km_S)) :=
  if (z.1 6) ≤ x5 then
  some (.inr (x2, x3, x4, z))
  else
  if x4 = 0 then
  fm_laysKin_112 x2 x3 x5 z
  else
  (fm_isSame 9 5 ((20 : Int32) * x5) (0 : Int32) (20 : Int32) z).bind fun o1 =>
  if (o1.1) = 0 then
  fm_laysKin_113 x2 x3 x5 (1 : Int32) (o1.2)
  else
  fm_laysKin_112 x2 x3 x5 (o1.2)
def lm_laysKin_72 (n : Nat) (x2 : Int32) (x3 : Int32) (x4 : Int32) (x5 : Int32) (z : km_S) : Option (Int32 × Int32 × Int32 × km_S) :=
  kj_it (fun (s : (Int32 × Int32 × Int32 × Int32 × km_S)) => fm_laysKin_72 (s.1) (s.2.1) (s.2.2.1) (s.2.2.2.1) (s.2.2.2.2)) n (x2, x3, x4, x5, z)
def fm_laysKin_157 (x2 : Int32) (x3 : Int32) (z : km_S) : Option ((Int32 × Int32 × km_S) ⊕ (Int32 × km_S)) :=
  some (.inl (x2, (x3 + 1), z))
def fm_laysKin_67 (x2 : Int32) (x3 : Int32) (t0 : Int32) (z : km_S) : Option ((Int32 × Int32 × km_S) ⊕ (Int32 × km_S)) :=
  (lm_laysKin_72 5000 x2 x3 t0 (0 : Int32) z).bind fun r1 =>
  if (r1.2.2.1) = 0 then
  fm_laysKin_157 (r1.1) (r1.2.1) (r1.2.2.2)
  else
  (fm_bring 5 9 (0 : Int32) ((20 : Int32) * ((r1.2.2.2).1 6)) (20 : Int32) (r1.2.2.2)).bind fun o2 =>
  (km_pI o2 6 ((o2.1 6) + (1 : Int32))).bind fun z3 =>
  fm_laysKin_157 (r1.1) (r1.2.1) z3
def fm_laysKin_32 (x2 : Int32) (x3 : Int32) (z : km_S) : Option ((Int32 × Int32 × km_S) ⊕ (Int32 × km_S)) :=
  if (3 : Int32) ≤ x3 then
  some (.inr (x2, z))
  else
  (fm_turns 9 5 ((20 : Int32) * x2) x3 z).bind fun o1 =>
  if (12 : Int32) ≤ (o1.1 6) then
  fm_laysKin_67 x2 x3 (0 : Int32) o1
  else
  fm_laysKin_67 x2 x3 (1 : Int32) o1
def lm_laysKin_32 (n : Nat) (x2 : Int32) (x3 : Int32) (z : km_S) : Option (Int32 × km_S) :=
  kj_it (fun (s : (Int32 × Int32 × km_S)) => fm_laysKin_32 (s.1) (s.2.1) (s.2.2)) n (x2, x3, z)
def fm_laysKin_22 (x2 : Int32) (z : km_S) : Option ((Int32 × km_S) ⊕ km_S) :=
  if (z.1 6) ≤ x2 then
  some (.inr z)
  else
  (lm_laysKin_32 5000 x2 (0 : Int32) z).bind fun r1 =>
  some (.inl (((r1.1) + 1), (r1.2)))
def lm_laysKin_22 (n : Nat) (x2 : Int32) (z : km_S) : Option km_S :=
  kj_it (fun (s : (Int32 × km_S)) => fm_laysKin_22 (s.1) (s.2)) n (x2, z)
def fm_laysKin (x1 : Int32) (z : km_S) : Option km_S :=
  (fm_bring 0 9 x1 (0 : Int32) (20 : Int32) z).bind fun o1 =>
  (km_pI o1 6 (1 : Int32)).bind fun z2 =>
  (lm_laysKin_22 5000 (0 : Int32) z2).bind fun r3 =>
  some (r3)
set_option maxRecDepth 20000 in
theorem jm_laysKin_113 {p : Program} {l : Launch} {e : Env} {s : State} {m : MethodId} {args : Array Value} {below : List Frame} {meth : Method} {c : Code} {A : Nat → Prop} {D : va_G} {cA : Nat → ClassId} {h0 : Nat} {q : Nat → Nat} {Q : State → Prop} (F : kj_Fx p s m args meth c cX8_laysKin 6 wsX8_laysKin RX8 none D (km_T cA) A) {x2 : Int32} {x3 : Int32} {x5 : Int32} {t0 : Int32} {z : km_S} {o : ((Int32 × Int32 × Int32 × Int32 × km_S) ⊕ (Int32 × Int32 × Int32 × km_S))} (h : fm_laysKin_113 x2 x3 x5 t0 z = some o) (kb : ∀ (a0' : Int32) (a1' : Int32) (a2' : Int32) (a3' : Int32) (a4' : km_S), o = .inl (a0', a1', a2', a3', a4') → kj_J p l e rm_X8_laysKin s m args below meth c 0 0 Q 6 D A ((km_w cA h0 q) a4') 72 [(0, .ref h0), (2, .int a0'), (3, .int a1'), (4, .int a2'), (5, .int a3')] []) (ke0 : ∀ (a0' : Int32) (a1' : Int32) (a2' : Int32) (a3' : km_S), o = .inr (a0', a1', a2', a3') → kj_J p l e rm_X8_laysKin s m args below meth c 0 0 Q 6 D A ((km_w cA h0 q) a3') 121 [(0, .ref h0), (2, .int a0'), (3, .int a1'), (4, .int a2')] []) : kj_J p l e rm_X8_laysKin s m args below meth c 0 0 Q 6 D A ((km_w cA h0 q) z) 113 [(0, .ref h0), (2, .int x2), (3, .int x3), (5, .int x5)] [.int t0] := by
  unfold fm_laysKin_113 at h
  refine kj_istore F dX8_laysKin_113 (lv' := [(4, .int t0), (0, .ref h0), (2, .int x2), (3, .int x3), (5, .int x5)]) (by decide) rfl ?_
  refine kj_iinc F dX8_laysKin_115 4 rfl (v := 1) (by decide) (by decide) (lv' := [(5, .int (x5 + 1)), (4, .int t0), (0, .ref h0), (2, .int x2), (3, .int x3)]) rfl ?_
  refine kj_goto F dX8_laysKin_118 (tgt := 72) (by decide) ?_
  refine kj_J.sub [2, 3, 4, 1, 0] rfl ?_
  exact kb x2 x3 t0 (x5 + 1) z (Option.some.inj h).symm
set_option maxRecDepth 20000 in
theorem jm_laysKin_112 {p : Program} {l : Launch} {e : Env} {s : State} {m : MethodId} {args : Array Value} {below : List Frame} {meth : Method} {c : Code} {A : Nat → Prop} {D : va_G} {cA : Nat → ClassId} {h0 : Nat} {q : Nat → Nat} {Q : State → Prop} (F : kj_Fx p s m args meth c cX8_laysKin 6 wsX8_laysKin RX8 none D (km_T cA) A) {x2 : Int32} {x3 : Int32} {x5 : Int32} {z : km_S} {o : ((Int32 × Int32 × Int32 × Int32 × km_S) ⊕ (Int32 × Int32 × Int32 × km_S))} (h : fm_laysKin_112 x2 x3 x5 z = some o) (kb : ∀ (a0' : Int32) (a1' : Int32) (a2' : Int32) (a3' : Int32) (a4' : km_S), o = .inl (a0', a1', a2', a3', a4') → kj_J p l e rm_X8_laysKin s m args below meth c 0 0 Q 6 D A ((km_w cA h0 q) a4') 72 [(0, .ref h0), (2, .int a0'), (3, .int a1'), (4, .int a2'), (5, .int a3')] []) (ke0 : ∀ (a0' : Int32) (a1' : Int32) (a2' : Int32) (a3' : km_S), o = .inr (a0', a1', a2', a3') → kj_J p l e rm_X8_laysKin s m args below meth c 0 0 Q 6 D A ((km_w cA h0 q) a3') 121 [(0, .ref h0), (2, .int a0'), (3, .int a1'), (4, .int a2')] []) : kj_J p l e rm_X8_laysKin s m args below meth c 0 0 Q 6 D A ((km_w cA h0 q) z) 112 [(0, .ref h0), (2, .int x2), (3, .int x3), (5, .int x5)] [] := by
  unfold fm_laysKin_112 at h
  refine kj_iconst F dX8_laysKin_112 (v := 0) (by decide) ?_
  exact jm_laysKin_113 F h kb ke0
set_option maxRecDepth 20000 in
theorem jm_laysKin_72 {p : Program} {l : Launch} {e : Env} {s : State} {m : MethodId} {args : Array Value} {below : List Frame} {meth : Method} {c : Code} {A : Nat → Prop} {D : va_G} {cA : Nat → ClassId} {h0 : Nat} {q : Nat → Nat} {Q : State → Prop} (F : kj_Fx p s m args meth c cX8_laysKin 6 wsX8_laysKin RX8 none D (km_T cA) A) {x2 : Int32} {x3 : Int32} {x4 : Int32} {x5 : Int32} {z : km_S} {o : ((Int32 × Int32 × Int32 × Int32 × km_S) ⊕ (Int32 × Int32 × Int32 × km_S))} (h : fm_laysKin_72 x2 x3 x4 x5 z = some o) (kb : ∀ (a0' : Int32) (a1' : Int32) (a2' : Int32) (a3' : Int32) (a4' : km_S), o = .inl (a0', a1', a2', a3', a4') → kj_J p l e rm_X8_laysKin s m args below meth c 0 0 Q 6 D A ((km_w cA h0 q) a4') 72 [(0, .ref h0), (2, .int a0'), (3, .int a1'), (4, .int a2'), (5, .int a3')] []) (ke0 : ∀ (a0' : Int32) (a1' : Int32) (a2' : Int32) (a3' : km_S), o = .inr (a0', a1', a2', a3') → kj_J p l e rm_X8_laysKin s m args below meth c 0 0 Q 6 D A ((km_w cA h0 q) a3') 121 [(0, .ref h0), (2, .int a0'), (3, .int a1'), (4, .int a2')] []) : kj_J p l e rm_X8_laysKin s m args below meth c 0 0 Q 6 D A ((km_w cA h0 q) z) 72 [(0, .ref h0), (2, .int x2), (3, .int x3), (4, .int x4), (5, .int x5)] [] := by
  unfold fm_laysKin_72 at h
  refine kj_iload F dX8_laysKin_72 4 rfl ?_
  refine kj_aload_n F dX8_laysKin_74 0 rfl rfl ?_
  refine km_get F dX8_laysKin_75 in_X8_laysKin 18 (by decide) (by decide +kernel) rfl rfl ?_
  refine kj_icmp_ge F dX8_laysKin_78 (tgt := 121) (by decide) h (fun hc h => ?_) (fun hc h => ?_)
  · refine kj_J.sub [0, 1, 2, 3] rfl ?_
    exact ke0 x2 x3 x4 z (Option.some.inj h).symm
  · refine kj_iload F dX8_laysKin_81 3 rfl ?_
    refine kj_if_eq F dX8_laysKin_83 (tgt := 112) (by decide) h (fun hc h => ?_) (fun hc h => ?_)
    · refine kj_J.sub [0, 1, 2, 4] rfl ?_
      exact jm_laysKin_112 F h kb ke0
    · refine kj_aload_n F dX8_laysKin_86 0 rfl rfl ?_
      refine km_get F dX8_laysKin_87 in_X8_laysKin 17 (by decide) (by decide +kernel) rfl rfl ?_
      refine kj_bipush F dX8_laysKin_90 (v := 20) (by decide) ?_
      refine kj_iload F dX8_laysKin_92 4 rfl ?_
      refine kj_imul F dX8_laysKin_94 ?_
      refine kj_aload_n F dX8_laysKin_95 0 rfl rfl ?_
      refine km_get F dX8_laysKin_96 in_X8_laysKin 9 (by decide) (by decide +kernel) rfl rfl ?_
      refine kj_iconst F dX8_laysKin_99 (v := 0) (by decide) ?_
      refine kj_bipush F dX8_laysKin_100 (v := 20) (by decide) ?_
      refine kj_cSi (As := [.ref (q 9), .int ((20 : Int32) * x5), .ref (q 5), .int (0 : Int32), .int (20 : Int32)]) (rest := []) F dX8_laysKin_102 h (fun o h1 => cm_isSame (by decide) (by decide) h1) (va_cwS 5 F.2.2.2.2.1 gX8_laysKin_X8_isSame rfl rfl rfl (by decide +kernel) ⟨Nat.le_of_ble_eq_true rfl, Nat.le_of_ble_eq_true rfl⟩) rfl rfl (Nat.le_of_ble_eq_true rfl) ⟨Nat.zero_le _, Nat.zero_le _⟩ (fun o1 h => ?_)
      refine kj_if_ne F dX8_laysKin_105 (tgt := 112) (by decide) h (fun hc h => ?_) (fun hc h => ?_)
      · refine kj_iconst F dX8_laysKin_108 (v := 1) (by decide) ?_
        refine kj_goto F dX8_laysKin_109 (tgt := 113) (by decide) ?_
        refine kj_J.sub [0, 1, 2, 4] rfl ?_
        exact jm_laysKin_113 F h kb ke0
      · refine kj_J.sub [0, 1, 2, 4] rfl ?_
        exact jm_laysKin_112 F h kb ke0
theorem jlm_laysKin_72 {p : Program} {l : Launch} {e : Env} {s : State} {m : MethodId} {args : Array Value} {below : List Frame} {meth : Method} {c : Code} {A : Nat → Prop} {D : va_G} {cA : Nat → ClassId} {h0 : Nat} {q : Nat → Nat} {Q : State → Prop} (F : kj_Fx p s m args meth c cX8_laysKin 6 wsX8_laysKin RX8 none D (km_T cA) A) {n : Nat} {x2 : Int32} {x3 : Int32} {x4 : Int32} {x5 : Int32} {z : km_S} {r : (Int32 × Int32 × Int32 × km_S)} (h : lm_laysKin_72 n x2 x3 x4 x5 z = some r) (ke : kj_J p l e rm_X8_laysKin s m args below meth c 0 0 Q 6 D A ((km_w cA h0 q) (r.2.2.2)) 121 [(0, .ref h0), (2, .int (r.1)), (3, .int (r.2.1)), (4, .int (r.2.2.1))] []) : kj_J p l e rm_X8_laysKin s m args below meth c 0 0 Q 6 D A ((km_w cA h0 q) z) 72 [(0, .ref h0), (2, .int x2), (3, .int x3), (4, .int x4), (5, .int x5)] [] :=
  kj_it_J (Wh := fun (u : (Int32 × Int32 × Int32 × Int32 × km_S)) => kj_J p l e rm_X8_laysKin s m args below meth c 0 0 Q 6 D A ((km_w cA h0 q) (u.2.2.2.2)) 72 [(0, .ref h0), (2, .int (u.1)), (3, .int (u.2.1)), (4, .int (u.2.2.1)), (5, .int (u.2.2.2.1))] []) (We := fun r => kj_J p l e rm_X8_laysKin s m args below meth c 0 0 Q 6 D A ((km_w cA h0 q) (r.2.2.2)) 121 [(0, .ref h0), (2, .int (r.1)), (3, .int (r.2.1)), (4, .int (r.2.2.1))] []) (fun u o h kb ke => jm_laysKin_72 F h (fun a0' a1' a2' a3' a4' e => kb (a0', a1', a2', a3', a4') e) (fun a0' a1' a2' a3' e => ke (a0', a1', a2', a3') e)) n (x2, x3, x4, x5, z) r h ke
set_option maxRecDepth 20000 in
theorem jm_laysKin_157 {p : Program} {l : Launch} {e : Env} {s : State} {m : MethodId} {args : Array Value} {below : List Frame} {meth : Method} {c : Code} {A : Nat → Prop} {D : va_G} {cA : Nat → ClassId} {h0 : Nat} {q : Nat → Nat} {Q : State → Prop} (F : kj_Fx p s m args meth c cX8_laysKin 6 wsX8_laysKin RX8 none D (km_T cA) A) {x2 : Int32} {x3 : Int32} {z : km_S} {o : ((Int32 × Int32 × km_S) ⊕ (Int32 × km_S))} (h : fm_laysKin_157 x2 x3 z = some o) (kb : ∀ (a0' : Int32) (a1' : Int32) (a2' : km_S), o = .inl (a0', a1', a2') → kj_J p l e rm_X8_laysKin s m args below meth c 0 0 Q 6 D A ((km_w cA h0 q) a2') 32 [(0, .ref h0), (2, .int a0'), (3, .int a1')] []) (ke0 : ∀ (a0' : Int32) (a1' : km_S), o = .inr (a0', a1') → kj_J p l e rm_X8_laysKin s m args below meth c 0 0 Q 6 D A ((km_w cA h0 q) a1') 163 [(0, .ref h0), (2, .int a0')] []) : kj_J p l e rm_X8_laysKin s m args below meth c 0 0 Q 6 D A ((km_w cA h0 q) z) 157 [(0, .ref h0), (2, .int x2), (3, .int x3)] [] := by
  unfold fm_laysKin_157 at h
  refine kj_iinc F dX8_laysKin_157 2 rfl (v := 1) (by decide) (by decide) (lv' := [(3, .int (x3 + 1)), (0, .ref h0), (2, .int x2)]) rfl ?_
  refine kj_goto F dX8_laysKin_160 (tgt := 32) (by decide) ?_
  refine kj_J.sub [1, 2, 0] rfl ?_
  exact kb x2 (x3 + 1) z (Option.some.inj h).symm
set_option maxRecDepth 20000 in
theorem jm_laysKin_67 {p : Program} {l : Launch} {e : Env} {s : State} {m : MethodId} {args : Array Value} {below : List Frame} {meth : Method} {c : Code} {A : Nat → Prop} {D : va_G} {cA : Nat → ClassId} {h0 : Nat} {q : Nat → Nat} {Q : State → Prop} (F : kj_Fx p s m args meth c cX8_laysKin 6 wsX8_laysKin RX8 none D (km_T cA) A) {x2 : Int32} {x3 : Int32} {t0 : Int32} {z : km_S} {o : ((Int32 × Int32 × km_S) ⊕ (Int32 × km_S))} (h : fm_laysKin_67 x2 x3 t0 z = some o) (kb : ∀ (a0' : Int32) (a1' : Int32) (a2' : km_S), o = .inl (a0', a1', a2') → kj_J p l e rm_X8_laysKin s m args below meth c 0 0 Q 6 D A ((km_w cA h0 q) a2') 32 [(0, .ref h0), (2, .int a0'), (3, .int a1')] []) (ke0 : ∀ (a0' : Int32) (a1' : km_S), o = .inr (a0', a1') → kj_J p l e rm_X8_laysKin s m args below meth c 0 0 Q 6 D A ((km_w cA h0 q) a1') 163 [(0, .ref h0), (2, .int a0')] []) : kj_J p l e rm_X8_laysKin s m args below meth c 0 0 Q 6 D A ((km_w cA h0 q) z) 67 [(0, .ref h0), (2, .int x2), (3, .int x3)] [.int t0] := by
  unfold fm_laysKin_67 at h
  refine kj_istore F dX8_laysKin_67 (lv' := [(4, .int t0), (0, .ref h0), (2, .int x2), (3, .int x3)]) (by decide) rfl ?_
  refine kj_iconst F dX8_laysKin_69 (v := 0) (by decide) ?_
  refine kj_istore F dX8_laysKin_70 (lv' := [(5, .int (0 : Int32)), (4, .int t0), (0, .ref h0), (2, .int x2), (3, .int x3)]) (by decide) rfl ?_
  refine kj_J.sub [2, 3, 4, 1, 0] rfl ?_
  refine kj_bn h (fun r1 h1 h => ?_)
  refine jlm_laysKin_72 F h1 ?_
  refine kj_iload F dX8_laysKin_121 3 rfl ?_
  refine kj_if_eq F dX8_laysKin_123 (tgt := 157) (by decide) h (fun hc h => ?_) (fun hc h => ?_)
  · refine kj_J.sub [0, 1, 2] rfl ?_
    exact jm_laysKin_157 F h kb ke0
  · refine kj_aload_n F dX8_laysKin_126 0 rfl rfl ?_
    refine km_get F dX8_laysKin_127 in_X8_laysKin 9 (by decide) (by decide +kernel) rfl rfl ?_
    refine kj_iconst F dX8_laysKin_130 (v := 0) (by decide) ?_
    refine kj_aload_n F dX8_laysKin_131 0 rfl rfl ?_
    refine km_get F dX8_laysKin_132 in_X8_laysKin 17 (by decide) (by decide +kernel) rfl rfl ?_
    refine kj_bipush F dX8_laysKin_135 (v := 20) (by decide) ?_
    refine kj_aload_n F dX8_laysKin_137 0 rfl rfl ?_
    refine km_get F dX8_laysKin_138 in_X8_laysKin 18 (by decide) (by decide +kernel) rfl rfl ?_
    refine kj_imul F dX8_laysKin_141 ?_
    refine kj_bipush F dX8_laysKin_142 (v := 20) (by decide) ?_
    refine kj_cSv (As := [.ref (q 5), .int (0 : Int32), .ref (q 9), .int ((20 : Int32) * ((r1.2.2.2).1 6)), .int (20 : Int32)]) (rest := []) F dX8_laysKin_144 h (fun o h1 => cm_bring (by decide) (by decide) h1) (va_cwS 5 F.2.2.2.2.1 gX8_laysKin_X8_bring rfl rfl rfl (by decide +kernel) ⟨Nat.le_of_ble_eq_true rfl, Nat.le_of_ble_eq_true rfl⟩) rfl rfl (Nat.le_of_ble_eq_true rfl) ⟨Nat.zero_le _, Nat.zero_le _⟩ (fun o2 h => ?_)
    refine kj_aload_n F dX8_laysKin_147 0 rfl rfl ?_
    refine kj_dup F dX8_laysKin_148 rfl ?_
    refine km_get F dX8_laysKin_149 in_X8_laysKin 18 (by decide) (by decide +kernel) rfl rfl ?_
    refine kj_iconst F dX8_laysKin_152 (v := 1) (by decide) ?_
    refine kj_iadd F dX8_laysKin_153 ?_
    refine km_pt F dX8_laysKin_154 in_X8_laysKin 18 6 (by decide) (by decide +kernel) rfl rfl (by decide +kernel) (km_put6 cA h0 q _ _) h (fun z3 h => ?_)
    refine kj_J.sub [0, 1, 2] rfl ?_
    exact jm_laysKin_157 F h kb ke0
set_option maxRecDepth 20000 in
theorem jm_laysKin_32 {p : Program} {l : Launch} {e : Env} {s : State} {m : MethodId} {args : Array Value} {below : List Frame} {meth : Method} {c : Code} {A : Nat → Prop} {D : va_G} {cA : Nat → ClassId} {h0 : Nat} {q : Nat → Nat} {Q : State → Prop} (F : kj_Fx p s m args meth c cX8_laysKin 6 wsX8_laysKin RX8 none D (km_T cA) A) {x2 : Int32} {x3 : Int32} {z : km_S} {o : ((Int32 × Int32 × km_S) ⊕ (Int32 × km_S))} (h : fm_laysKin_32 x2 x3 z = some o) (kb : ∀ (a0' : Int32) (a1' : Int32) (a2' : km_S), o = .inl (a0', a1', a2') → kj_J p l e rm_X8_laysKin s m args below meth c 0 0 Q 6 D A ((km_w cA h0 q) a2') 32 [(0, .ref h0), (2, .int a0'), (3, .int a1')] []) (ke0 : ∀ (a0' : Int32) (a1' : km_S), o = .inr (a0', a1') → kj_J p l e rm_X8_laysKin s m args below meth c 0 0 Q 6 D A ((km_w cA h0 q) a1') 163 [(0, .ref h0), (2, .int a0')] []) : kj_J p l e rm_X8_laysKin s m args below meth c 0 0 Q 6 D A ((km_w cA h0 q) z) 32 [(0, .ref h0), (2, .int x2), (3, .int x3)] [] := by
  unfold fm_laysKin_32 at h
  refine kj_iload_n F dX8_laysKin_32 2 rfl rfl ?_
  refine kj_iconst F dX8_laysKin_33 (v := 3) (by decide) ?_
  refine kj_icmp_ge F dX8_laysKin_34 (tgt := 163) (by decide) h (fun hc h => ?_) (fun hc h => ?_)
  · refine kj_J.sub [0, 1] rfl ?_
    exact ke0 x2 z (Option.some.inj h).symm
  · refine kj_aload_n F dX8_laysKin_37 0 rfl rfl ?_
    refine km_get F dX8_laysKin_38 in_X8_laysKin 17 (by decide) (by decide +kernel) rfl rfl ?_
    refine kj_bipush F dX8_laysKin_41 (v := 20) (by decide) ?_
    refine kj_iload_n F dX8_laysKin_43 1 rfl rfl ?_
    refine kj_imul F dX8_laysKin_44 ?_
    refine kj_iload_n F dX8_laysKin_45 2 rfl rfl ?_
    refine kj_aload_n F dX8_laysKin_46 0 rfl rfl ?_
    refine km_get F dX8_laysKin_47 in_X8_laysKin 9 (by decide) (by decide +kernel) rfl rfl ?_
    refine kj_cSv (As := [.ref (q 9), .int ((20 : Int32) * x2), .int x3, .ref (q 5)]) (rest := []) F dX8_laysKin_50 h (fun o h1 => cm_turns (by decide) (by decide) h1) (va_cwS 4 F.2.2.2.2.1 gX8_laysKin_X8_turns rfl rfl rfl (by decide +kernel) ⟨Nat.le_of_ble_eq_true rfl, Nat.le_of_ble_eq_true rfl⟩) rfl rfl (Nat.le_of_ble_eq_true rfl) ⟨Nat.zero_le _, Nat.zero_le _⟩ (fun o1 h => ?_)
    refine kj_aload_n F dX8_laysKin_53 0 rfl rfl ?_
    refine km_get F dX8_laysKin_54 in_X8_laysKin 18 (by decide) (by decide +kernel) rfl rfl ?_
    refine kj_bipush F dX8_laysKin_57 (v := 12) (by decide) ?_
    refine kj_icmp_ge F dX8_laysKin_59 (tgt := 66) (by decide) h (fun hc h => ?_) (fun hc h => ?_)
    · refine kj_iconst F dX8_laysKin_66 (v := 0) (by decide) ?_
      exact jm_laysKin_67 F h kb ke0
    · refine kj_iconst F dX8_laysKin_62 (v := 1) (by decide) ?_
      refine kj_goto F dX8_laysKin_63 (tgt := 67) (by decide) ?_
      exact jm_laysKin_67 F h kb ke0
theorem jlm_laysKin_32 {p : Program} {l : Launch} {e : Env} {s : State} {m : MethodId} {args : Array Value} {below : List Frame} {meth : Method} {c : Code} {A : Nat → Prop} {D : va_G} {cA : Nat → ClassId} {h0 : Nat} {q : Nat → Nat} {Q : State → Prop} (F : kj_Fx p s m args meth c cX8_laysKin 6 wsX8_laysKin RX8 none D (km_T cA) A) {n : Nat} {x2 : Int32} {x3 : Int32} {z : km_S} {r : (Int32 × km_S)} (h : lm_laysKin_32 n x2 x3 z = some r) (ke : kj_J p l e rm_X8_laysKin s m args below meth c 0 0 Q 6 D A ((km_w cA h0 q) (r.2)) 163 [(0, .ref h0), (2, .int (r.1))] []) : kj_J p l e rm_X8_laysKin s m args below meth c 0 0 Q 6 D A ((km_w cA h0 q) z) 32 [(0, .ref h0), (2, .int x2), (3, .int x3)] [] :=
  kj_it_J (Wh := fun (u : (Int32 × Int32 × km_S)) => kj_J p l e rm_X8_laysKin s m args below meth c 0 0 Q 6 D A ((km_w cA h0 q) (u.2.2)) 32 [(0, .ref h0), (2, .int (u.1)), (3, .int (u.2.1))] []) (We := fun r => kj_J p l e rm_X8_laysKin s m args below meth c 0 0 Q 6 D A ((km_w cA h0 q) (r.2)) 163 [(0, .ref h0), (2, .int (r.1))] []) (fun u o h kb ke => jm_laysKin_32 F h (fun a0' a1' a2' e => kb (a0', a1', a2') e) (fun a0' a1' e => ke (a0', a1') e)) n (x2, x3, z) r h ke
set_option maxRecDepth 20000 in
theorem jm_laysKin_22 {p : Program} {l : Launch} {e : Env} {s : State} {m : MethodId} {args : Array Value} {below : List Frame} {meth : Method} {c : Code} {A : Nat → Prop} {D : va_G} {cA : Nat → ClassId} {h0 : Nat} {q : Nat → Nat} {Q : State → Prop} (F : kj_Fx p s m args meth c cX8_laysKin 6 wsX8_laysKin RX8 none D (km_T cA) A) {x2 : Int32} {z : km_S} {o : ((Int32 × km_S) ⊕ km_S)} (h : fm_laysKin_22 x2 z = some o) (kb : ∀ (a0' : Int32) (a1' : km_S), o = .inl (a0', a1') → kj_J p l e rm_X8_laysKin s m args below meth c 0 0 Q 6 D A ((km_w cA h0 q) a1') 22 [(0, .ref h0), (2, .int a0')] []) (ke0 : ∀ (a0' : km_S), o = .inr a0' → kj_J p l e rm_X8_laysKin s m args below meth c 0 0 Q 6 D A ((km_w cA h0 q) a0') 169 [] []) : kj_J p l e rm_X8_laysKin s m args below meth c 0 0 Q 6 D A ((km_w cA h0 q) z) 22 [(0, .ref h0), (2, .int x2)] [] := by
  unfold fm_laysKin_22 at h
  refine kj_iload_n F dX8_laysKin_22 1 rfl rfl ?_
  refine kj_aload_n F dX8_laysKin_23 0 rfl rfl ?_
  refine km_get F dX8_laysKin_24 in_X8_laysKin 18 (by decide) (by decide +kernel) rfl rfl ?_
  refine kj_icmp_ge F dX8_laysKin_27 (tgt := 169) (by decide) h (fun hc h => ?_) (fun hc h => ?_)
  · refine kj_J.sub [] rfl ?_
    exact ke0 z (Option.some.inj h).symm
  · refine kj_iconst F dX8_laysKin_30 (v := 0) (by decide) ?_
    refine kj_istore_n F dX8_laysKin_31 (lv' := [(3, .int (0 : Int32)), (0, .ref h0), (2, .int x2)]) rfl (by decide) rfl ?_
    refine kj_J.sub [1, 2, 0] rfl ?_
    refine kj_bn h (fun r1 h1 h => ?_)
    refine jlm_laysKin_32 F h1 ?_
    refine kj_iinc F dX8_laysKin_163 1 rfl (v := 1) (by decide) (by decide) (lv' := [(2, .int ((r1.1) + 1)), (0, .ref h0)]) rfl ?_
    refine kj_goto F dX8_laysKin_166 (tgt := 22) (by decide) ?_
    refine kj_J.sub [1, 0] rfl ?_
    exact kb ((r1.1) + 1) (r1.2) (Option.some.inj h).symm
theorem jlm_laysKin_22 {p : Program} {l : Launch} {e : Env} {s : State} {m : MethodId} {args : Array Value} {below : List Frame} {meth : Method} {c : Code} {A : Nat → Prop} {D : va_G} {cA : Nat → ClassId} {h0 : Nat} {q : Nat → Nat} {Q : State → Prop} (F : kj_Fx p s m args meth c cX8_laysKin 6 wsX8_laysKin RX8 none D (km_T cA) A) {n : Nat} {x2 : Int32} {z : km_S} {r : km_S} (h : lm_laysKin_22 n x2 z = some r) (ke : kj_J p l e rm_X8_laysKin s m args below meth c 0 0 Q 6 D A ((km_w cA h0 q) (r)) 169 [] []) : kj_J p l e rm_X8_laysKin s m args below meth c 0 0 Q 6 D A ((km_w cA h0 q) z) 22 [(0, .ref h0), (2, .int x2)] [] :=
  kj_it_J (Wh := fun (u : (Int32 × km_S)) => kj_J p l e rm_X8_laysKin s m args below meth c 0 0 Q 6 D A ((km_w cA h0 q) (u.2)) 22 [(0, .ref h0), (2, .int (u.1))] []) (We := fun r => kj_J p l e rm_X8_laysKin s m args below meth c 0 0 Q 6 D A ((km_w cA h0 q) (r)) 169 [] []) (fun u o h kb ke => jm_laysKin_22 F h (fun a0' a1' e => kb (a0', a1') e) (fun a0' e => ke a0' e)) n (x2, z) r h ke
set_option maxRecDepth 20000 in
theorem jm_laysKin {p : Program} {l : Launch} {e : Env} {s : State} {m : MethodId} {args : Array Value} {below : List Frame} {meth : Method} {c : Code} {A : Nat → Prop} {D : va_G} {cA : Nat → ClassId} {h0 : Nat} {q : Nat → Nat} (F : kj_Fx p s m args meth c cX8_laysKin 6 wsX8_laysKin RX8 none D (km_T cA) A) {x1 : Int32} {z : km_S} {o : km_S} (h : fm_laysKin x1 z = some o) : kj_J p l e rm_X8_laysKin s m args below meth c 0 0 (MQ below (kj_Qv D (km_T cA) A (km_w cA h0 q) o) args s 0 0 A) 6 D A ((km_w cA h0 q) z) 0 [(0, .ref h0), (1, .int x1)] [] := by
  unfold fm_laysKin at h
  refine kj_aload_n F dX8_laysKin_0 0 rfl rfl ?_
  refine km_get F dX8_laysKin_1 in_X8_laysKin 0 (by decide) (by decide +kernel) rfl rfl ?_
  refine kj_iload_n F dX8_laysKin_4 1 rfl rfl ?_
  refine kj_aload_n F dX8_laysKin_5 0 rfl rfl ?_
  refine km_get F dX8_laysKin_6 in_X8_laysKin 17 (by decide) (by decide +kernel) rfl rfl ?_
  refine kj_iconst F dX8_laysKin_9 (v := 0) (by decide) ?_
  refine kj_bipush F dX8_laysKin_10 (v := 20) (by decide) ?_
  refine kj_cSv (As := [.ref (q 0), .int x1, .ref (q 9), .int (0 : Int32), .int (20 : Int32)]) (rest := []) F dX8_laysKin_12 h (fun o h1 => cm_bring (by decide) (by decide) h1) (va_cwS 5 F.2.2.2.2.1 gX8_laysKin_X8_bring rfl rfl rfl (by decide +kernel) ⟨Nat.le_of_ble_eq_true rfl, Nat.le_of_ble_eq_true rfl⟩) rfl rfl (Nat.le_of_ble_eq_true rfl) ⟨Nat.zero_le _, Nat.zero_le _⟩ (fun o1 h => ?_)
  refine kj_aload_n F dX8_laysKin_15 0 rfl rfl ?_
  refine kj_iconst F dX8_laysKin_16 (v := 1) (by decide) ?_
  refine km_pt F dX8_laysKin_17 in_X8_laysKin 18 6 (by decide) (by decide +kernel) rfl rfl (by decide +kernel) (km_put6 cA h0 q _ _) h (fun z2 h => ?_)
  refine kj_iconst F dX8_laysKin_20 (v := 0) (by decide) ?_
  refine kj_istore_n F dX8_laysKin_21 (lv' := [(2, .int (0 : Int32)), (0, .ref h0), (1, .int x1)]) rfl (by decide) rfl ?_
  refine kj_J.sub [1, 0] rfl ?_
  refine kj_bn h (fun r3 h1 h => ?_)
  refine jlm_laysKin_22 F h1 ?_
  exact kj_vret F dX8_laysKin_169 h
theorem cm_laysKin {l : Launch} {D : va_G} {cA : Nat → ClassId} {h0 : Nat} {q : Nat → Nat} {x1 : Int32} {z : km_S} {o : km_S} (h : fm_laysKin x1 z = some o) : kj_Mv l yX8_laysKin wsX8_laysKin rm_X8_laysKin D (km_T cA) (km_w cA h0 q) z [.ref h0, .int x1] o :=
  fun sz => kj_start (by decide) rfl (Nat.le_of_ble_eq_true rfl) rfl fun p e s m args below meth c hsz F => jm_laysKin F h
/-! X8_isAhead -/
abbrev rm_X8_isAhead : Room := { frames := 0, cells := 0, slots := 0, locals := 0 }
theorem in_X8_isAhead : ∀ w ∈ u_ws RX8 TX8 29, w ∈ wsX8_isAhead := by decide +kernel
def fm_isAhead_2 (x1 : Int32) (x2 : Int32) (x3 : Int32) (z : km_S) : Option ((Int32 × Int32 × Int32 × km_S) ⊕ (Int32 × Int32 × Int32 × km_S)) :=
  if (19 : Int32) ≤ x3 then
  some (.inr (x1, x2, x3, z))
  else
  (km_rd z 9 (((20 : Int32) * x1) + x3)).bind fun v1 =>
  (km_rd z 9 (((20 : Int32) * x2) + x3)).bind fun v2 =>
  if v1 = v2 then
  some (.inl (x1, x2, (x3 + 1), z))
  else
  some (.inr (x1, x2, x3, z))
def lm_isAhead_2 (n : Nat) (x1 : Int32) (x2 : Int32) (x3 : Int32) (z : km_S) : Option (Int32 × Int32 × Int32 × km_S) :=
  kj_it (fun (s : (Int32 × Int32 × Int32 × km_S)) => fm_isAhead_2 (s.1) (s.2.1) (s.2.2.1) (s.2.2.2)) n (x1, x2, x3, z)
def fm_isAhead_39 (x1 : Int32) (x2 : Int32) (x3 : Int32) (z : km_S) : Option (Int32 × km_S) :=
  (km_rd z 9 (((20 : Int32) * x1) + x3)).bind fun v1 =>
  (km_rd z 9 (((20 : Int32) * x2) + x3)).bind fun v2 =>
  if v2 ≤ v1 then
  some ((0 : Int32), z)
  else
  some ((1 : Int32), z)
def fm_isAhead (x1 : Int32) (x2 : Int32) (z : km_S) : Option (Int32 × km_S) :=
  (lm_isAhead_2 5000 x1 x2 (0 : Int32) z).bind fun r1 =>
  fm_isAhead_39 (r1.1) (r1.2.1) (r1.2.2.1) (r1.2.2.2)
set_option maxRecDepth 20000 in
theorem jm_isAhead_2 {p : Program} {l : Launch} {e : Env} {s : State} {m : MethodId} {args : Array Value} {below : List Frame} {meth : Method} {c : Code} {A : Nat → Prop} {D : va_G} {cA : Nat → ClassId} {h0 : Nat} {q : Nat → Nat} {Q : State → Prop} (F : kj_Fx p s m args meth c cX8_isAhead 4 wsX8_isAhead RX8 (some .boolean) D (km_T cA) A) {x1 : Int32} {x2 : Int32} {x3 : Int32} {z : km_S} {o : ((Int32 × Int32 × Int32 × km_S) ⊕ (Int32 × Int32 × Int32 × km_S))} (h : fm_isAhead_2 x1 x2 x3 z = some o) (kb : ∀ (a0' : Int32) (a1' : Int32) (a2' : Int32) (a3' : km_S), o = .inl (a0', a1', a2', a3') → kj_J p l e rm_X8_isAhead s m args below meth c 0 0 Q 4 D A ((km_w cA h0 q) a3') 2 [(0, .ref h0), (1, .int a0'), (2, .int a1'), (3, .int a2')] []) (ke0 : ∀ (a0' : Int32) (a1' : Int32) (a2' : Int32) (a3' : km_S), o = .inr (a0', a1', a2', a3') → kj_J p l e rm_X8_isAhead s m args below meth c 0 0 Q 4 D A ((km_w cA h0 q) a3') 39 [(0, .ref h0), (1, .int a0'), (2, .int a1'), (3, .int a2')] []) : kj_J p l e rm_X8_isAhead s m args below meth c 0 0 Q 4 D A ((km_w cA h0 q) z) 2 [(0, .ref h0), (1, .int x1), (2, .int x2), (3, .int x3)] [] := by
  unfold fm_isAhead_2 at h
  refine kj_iload_n F dX8_isAhead_2 3 rfl rfl ?_
  refine kj_bipush F dX8_isAhead_3 (v := 19) (by decide) ?_
  refine kj_icmp_ge F dX8_isAhead_5 (tgt := 39) (by decide) h (fun hc h => ?_) (fun hc h => ?_)
  · exact ke0 x1 x2 x3 z (Option.some.inj h).symm
  · refine kj_aload_n F dX8_isAhead_8 0 rfl rfl ?_
    refine km_get F dX8_isAhead_9 in_X8_isAhead 17 (by decide) (by decide +kernel) rfl rfl ?_
    refine kj_bipush F dX8_isAhead_12 (v := 20) (by decide) ?_
    refine kj_iload_n F dX8_isAhead_14 1 rfl rfl ?_
    refine kj_imul F dX8_isAhead_15 ?_
    refine kj_iload_n F dX8_isAhead_16 3 rfl rfl ?_
    refine kj_iadd F dX8_isAhead_17 ?_
    refine km_iald F dX8_isAhead_18 9 (by decide) h (fun v1 h => ?_)
    refine kj_aload_n F dX8_isAhead_19 0 rfl rfl ?_
    refine km_get F dX8_isAhead_20 in_X8_isAhead 17 (by decide) (by decide +kernel) rfl rfl ?_
    refine kj_bipush F dX8_isAhead_23 (v := 20) (by decide) ?_
    refine kj_iload_n F dX8_isAhead_25 2 rfl rfl ?_
    refine kj_imul F dX8_isAhead_26 ?_
    refine kj_iload_n F dX8_isAhead_27 3 rfl rfl ?_
    refine kj_iadd F dX8_isAhead_28 ?_
    refine km_iald F dX8_isAhead_29 9 (by decide) h (fun v2 h => ?_)
    refine kj_icmp_ne F dX8_isAhead_30 (tgt := 39) (by decide) h (fun hc h => ?_) (fun hc h => ?_)
    · refine kj_iinc F dX8_isAhead_33 3 rfl (v := 1) (by decide) (by decide) (lv' := [(3, .int (x3 + 1)), (0, .ref h0), (1, .int x1), (2, .int x2)]) rfl ?_
      refine kj_goto F dX8_isAhead_36 (tgt := 2) (by decide) ?_
      refine kj_J.sub [1, 2, 3, 0] rfl ?_
      exact kb x1 x2 (x3 + 1) z (Option.some.inj h).symm
    · exact ke0 x1 x2 x3 z (Option.some.inj h).symm
theorem jlm_isAhead_2 {p : Program} {l : Launch} {e : Env} {s : State} {m : MethodId} {args : Array Value} {below : List Frame} {meth : Method} {c : Code} {A : Nat → Prop} {D : va_G} {cA : Nat → ClassId} {h0 : Nat} {q : Nat → Nat} {Q : State → Prop} (F : kj_Fx p s m args meth c cX8_isAhead 4 wsX8_isAhead RX8 (some .boolean) D (km_T cA) A) {n : Nat} {x1 : Int32} {x2 : Int32} {x3 : Int32} {z : km_S} {r : (Int32 × Int32 × Int32 × km_S)} (h : lm_isAhead_2 n x1 x2 x3 z = some r) (ke : kj_J p l e rm_X8_isAhead s m args below meth c 0 0 Q 4 D A ((km_w cA h0 q) (r.2.2.2)) 39 [(0, .ref h0), (1, .int (r.1)), (2, .int (r.2.1)), (3, .int (r.2.2.1))] []) : kj_J p l e rm_X8_isAhead s m args below meth c 0 0 Q 4 D A ((km_w cA h0 q) z) 2 [(0, .ref h0), (1, .int x1), (2, .int x2), (3, .int x3)] [] :=
  kj_it_J (Wh := fun (u : (Int32 × Int32 × Int32 × km_S)) => kj_J p l e rm_X8_isAhead s m args below meth c 0 0 Q 4 D A ((km_w cA h0 q) (u.2.2.2)) 2 [(0, .ref h0), (1, .int (u.1)), (2, .int (u.2.1)), (3, .int (u.2.2.1))] []) (We := fun r => kj_J p l e rm_X8_isAhead s m args below meth c 0 0 Q 4 D A ((km_w cA h0 q) (r.2.2.2)) 39 [(0, .ref h0), (1, .int (r.1)), (2, .int (r.2.1)), (3, .int (r.2.2.1))] []) (fun u o h kb ke => jm_isAhead_2 F h (fun a0' a1' a2' a3' e => kb (a0', a1', a2', a3') e) (fun a0' a1' a2' a3' e => ke (a0', a1', a2', a3') e)) n (x1, x2, x3, z) r h ke
set_option maxRecDepth 20000 in
theorem jm_isAhead_39 {p : Program} {l : Launch} {e : Env} {s : State} {m : MethodId} {args : Array Value} {below : List Frame} {meth : Method} {c : Code} {A : Nat → Prop} {D : va_G} {cA : Nat → ClassId} {h0 : Nat} {q : Nat → Nat} (F : kj_Fx p s m args meth c cX8_isAhead 4 wsX8_isAhead RX8 (some .boolean) D (km_T cA) A) {x1 : Int32} {x2 : Int32} {x3 : Int32} {z : km_S} {o : (Int32 × km_S)} (h : fm_isAhead_39 x1 x2 x3 z = some o) : kj_J p l e rm_X8_isAhead s m args below meth c 0 0 (MQ below (kj_Qi D (km_T cA) A (km_w cA h0 q) o) args s 0 0 A) 4 D A ((km_w cA h0 q) z) 39 [(0, .ref h0), (1, .int x1), (2, .int x2), (3, .int x3)] [] := by
  unfold fm_isAhead_39 at h
  refine kj_aload_n F dX8_isAhead_39 0 rfl rfl ?_
  refine km_get F dX8_isAhead_40 in_X8_isAhead 17 (by decide) (by decide +kernel) rfl rfl ?_
  refine kj_bipush F dX8_isAhead_43 (v := 20) (by decide) ?_
  refine kj_iload_n F dX8_isAhead_45 1 rfl rfl ?_
  refine kj_imul F dX8_isAhead_46 ?_
  refine kj_iload_n F dX8_isAhead_47 3 rfl rfl ?_
  refine kj_iadd F dX8_isAhead_48 ?_
  refine km_iald F dX8_isAhead_49 9 (by decide) h (fun v1 h => ?_)
  refine kj_aload_n F dX8_isAhead_50 0 rfl rfl ?_
  refine km_get F dX8_isAhead_51 in_X8_isAhead 17 (by decide) (by decide +kernel) rfl rfl ?_
  refine kj_bipush F dX8_isAhead_54 (v := 20) (by decide) ?_
  refine kj_iload_n F dX8_isAhead_56 2 rfl rfl ?_
  refine kj_imul F dX8_isAhead_57 ?_
  refine kj_iload_n F dX8_isAhead_58 3 rfl rfl ?_
  refine kj_iadd F dX8_isAhead_59 ?_
  refine km_iald F dX8_isAhead_60 9 (by decide) h (fun v2 h => ?_)
  refine kj_icmp_ge F dX8_isAhead_61 (tgt := 68) (by decide) h (fun hc h => ?_) (fun hc h => ?_)
  · refine kj_iconst F dX8_isAhead_68 (v := 0) (by decide) ?_
    exact kj_zret F dX8_isAhead_69 (by decide) h
  · refine kj_iconst F dX8_isAhead_64 (v := 1) (by decide) ?_
    refine kj_goto F dX8_isAhead_65 (tgt := 69) (by decide) ?_
    exact kj_zret F dX8_isAhead_69 (by decide) h
set_option maxRecDepth 20000 in
theorem jm_isAhead {p : Program} {l : Launch} {e : Env} {s : State} {m : MethodId} {args : Array Value} {below : List Frame} {meth : Method} {c : Code} {A : Nat → Prop} {D : va_G} {cA : Nat → ClassId} {h0 : Nat} {q : Nat → Nat} (F : kj_Fx p s m args meth c cX8_isAhead 4 wsX8_isAhead RX8 (some .boolean) D (km_T cA) A) {x1 : Int32} {x2 : Int32} {z : km_S} {o : (Int32 × km_S)} (h : fm_isAhead x1 x2 z = some o) : kj_J p l e rm_X8_isAhead s m args below meth c 0 0 (MQ below (kj_Qi D (km_T cA) A (km_w cA h0 q) o) args s 0 0 A) 4 D A ((km_w cA h0 q) z) 0 [(0, .ref h0), (1, .int x1), (2, .int x2)] [] := by
  unfold fm_isAhead at h
  refine kj_iconst F dX8_isAhead_0 (v := 0) (by decide) ?_
  refine kj_istore_n F dX8_isAhead_1 (lv' := [(3, .int (0 : Int32)), (0, .ref h0), (1, .int x1), (2, .int x2)]) rfl (by decide) rfl ?_
  refine kj_J.sub [1, 2, 3, 0] rfl ?_
  refine kj_bn h (fun r1 h1 h => ?_)
  refine jlm_isAhead_2 F h1 ?_
  exact jm_isAhead_39 F h
theorem cm_isAhead {l : Launch} {D : va_G} {cA : Nat → ClassId} {h0 : Nat} {q : Nat → Nat} {x1 : Int32} {x2 : Int32} {z : km_S} {o : (Int32 × km_S)} (h : fm_isAhead x1 x2 z = some o) : kj_Mi l yX8_isAhead wsX8_isAhead rm_X8_isAhead D (km_T cA) (km_w cA h0 q) z [.ref h0, .int x1, .int x2] o :=
  fun sz => kj_start (by decide) rfl (Nat.le_of_ble_eq_true rfl) rfl fun p e s m args below meth c hsz F => jm_isAhead F h
/-! X8_kin -/
abbrev rm_X8_kin : Room := { frames := 4, cells := 0, slots := 0, locals := 100 }
theorem in_X8_kin : ∀ w ∈ u_ws RX8 TX8 29, w ∈ wsX8_kin := by decide +kernel
def fm_kin_65 (x2 : Int32) (x3 : Int32) (x5 : Int32) (t0 : Int32) (t1 : Int32) (z : km_S) : Option ((Int32 × Int32 × Int32 × Int32 × km_S) ⊕ (Int32 × Int32 × Int32 × km_S)) :=
  some (.inl (x2, x3, (t1 + t0), (x5 + 1), z))
def fm_kin_39 (x2 : Int32) (x3 : Int32) (x4 : Int32) (x5 : Int32) (z : km_S) : Option ((Int32 × Int32 × Int32 × Int32 × km_S) ⊕ (Int32 × Int32 × Int32 × km_S)) :=
  if (z.1 6) ≤ x5 then
  some (.inr (x2, x3, x4, z))
  else
  (fm_isAhead x5 x3 z).bind fun o1 =>
  if (o1.1) = 0 then
  fm_kin_65 x2 x3 x5 (0 : Int32) x4 (o1.2)
  else
  fm_kin_65 x2 x3 x5 (1 : Int32) x4 (o1.2)
def lm_kin_39 (n : Nat) (x2 : Int32) (x3 : Int32) (x4 : Int32) (x5 : Int32) (z : km_S) : Option (Int32 × Int32 × Int32 × km_S) :=
  kj_it (fun (s : (Int32 × Int32 × Int32 × Int32 × km_S)) => fm_kin_39 (s.1) (s.2.1) (s.2.2.1) (s.2.2.2.1) (s.2.2.2.2)) n (x2, x3, x4, x5, z)
def fm_kin_25 (x2 : Int32) (x3 : Int32) (z : km_S) : Option ((Int32 × Int32 × km_S) ⊕ ((Int32 × km_S) ⊕ km_S)) :=
  if (z.1 6) ≤ x3 then
  some (.inr (.inr z))
  else
  (lm_kin_39 5000 x2 x3 (0 : Int32) (0 : Int32) z).bind fun r1 =>
  if (r1.2.2.1) = (r1.1) then
  some (.inr (.inl ((r1.2.1), (r1.2.2.2))))
  else
  some (.inl ((r1.1), ((r1.2.1) + 1), (r1.2.2.2)))
def lm_kin_25 (n : Nat) (x2 : Int32) (x3 : Int32) (z : km_S) : Option ((Int32 × km_S) ⊕ km_S) :=
  kj_it (fun (s : (Int32 × Int32 × km_S)) => fm_kin_25 (s.1) (s.2.1) (s.2.2)) n (x2, x3, z)
def fm_kin (x1 : Int32) (x2 : Int32) (z : km_S) : Option (Int32 × km_S) :=
  (fm_isHeap x1 z).bind fun o1 =>
  if (o1.1) = 0 then
  some (((-1000001) : Int32), (o1.2))
  else
  if 0 ≤ x2 then
  (fm_laysKin ((20 : Int32) * x1) (o1.2)).bind fun o2 =>
  (lm_kin_25 5000 x2 (0 : Int32) o2).bind fun r3 => kj_se r3 (fun a4 => (fm_numberOf 9 ((20 : Int32) * (a4.1)) (a4.2)).bind fun o6 =>
  some ((o6.1), (o6.2))) (fun b5 => some (((-1000000) : Int32), (b5)))
  else
  some (((-1000001) : Int32), (o1.2))
set_option maxRecDepth 20000 in
theorem jm_kin_65 {p : Program} {l : Launch} {e : Env} {s : State} {m : MethodId} {args : Array Value} {below : List Frame} {meth : Method} {c : Code} {A : Nat → Prop} {D : va_G} {cA : Nat → ClassId} {h0 : Nat} {q : Nat → Nat} {Q : State → Prop} (F : kj_Fx p s m args meth c cX8_kin 6 wsX8_kin RX8 (some .int) D (km_T cA) A) {x2 : Int32} {x3 : Int32} {x5 : Int32} {t0 : Int32} {t1 : Int32} {z : km_S} {o : ((Int32 × Int32 × Int32 × Int32 × km_S) ⊕ (Int32 × Int32 × Int32 × km_S))} (h : fm_kin_65 x2 x3 x5 t0 t1 z = some o) (kb : ∀ (a0' : Int32) (a1' : Int32) (a2' : Int32) (a3' : Int32) (a4' : km_S), o = .inl (a0', a1', a2', a3', a4') → kj_J p l e rm_X8_kin s m args below meth c 0 0 Q 6 D A ((km_w cA h0 q) a4') 39 [(0, .ref h0), (2, .int a0'), (3, .int a1'), (4, .int a2'), (5, .int a3')] []) (ke0 : ∀ (a0' : Int32) (a1' : Int32) (a2' : Int32) (a3' : km_S), o = .inr (a0', a1', a2', a3') → kj_J p l e rm_X8_kin s m args below meth c 0 0 Q 6 D A ((km_w cA h0 q) a3') 74 [(0, .ref h0), (2, .int a0'), (3, .int a1'), (4, .int a2')] []) : kj_J p l e rm_X8_kin s m args below meth c 0 0 Q 6 D A ((km_w cA h0 q) z) 65 [(0, .ref h0), (2, .int x2), (3, .int x3), (5, .int x5)] [.int t0, .int t1] := by
  unfold fm_kin_65 at h
  refine kj_iadd F dX8_kin_65 ?_
  refine kj_istore F dX8_kin_66 (lv' := [(4, .int (t1 + t0)), (0, .ref h0), (2, .int x2), (3, .int x3), (5, .int x5)]) (by decide) rfl ?_
  refine kj_iinc F dX8_kin_68 4 rfl (v := 1) (by decide) (by decide) (lv' := [(5, .int (x5 + 1)), (4, .int (t1 + t0)), (0, .ref h0), (2, .int x2), (3, .int x3)]) rfl ?_
  refine kj_goto F dX8_kin_71 (tgt := 39) (by decide) ?_
  refine kj_J.sub [2, 3, 4, 1, 0] rfl ?_
  exact kb x2 x3 (t1 + t0) (x5 + 1) z (Option.some.inj h).symm
set_option maxRecDepth 20000 in
theorem jm_kin_39 {p : Program} {l : Launch} {e : Env} {s : State} {m : MethodId} {args : Array Value} {below : List Frame} {meth : Method} {c : Code} {A : Nat → Prop} {D : va_G} {cA : Nat → ClassId} {h0 : Nat} {q : Nat → Nat} {Q : State → Prop} (F : kj_Fx p s m args meth c cX8_kin 6 wsX8_kin RX8 (some .int) D (km_T cA) A) {x2 : Int32} {x3 : Int32} {x4 : Int32} {x5 : Int32} {z : km_S} {o : ((Int32 × Int32 × Int32 × Int32 × km_S) ⊕ (Int32 × Int32 × Int32 × km_S))} (h : fm_kin_39 x2 x3 x4 x5 z = some o) (kb : ∀ (a0' : Int32) (a1' : Int32) (a2' : Int32) (a3' : Int32) (a4' : km_S), o = .inl (a0', a1', a2', a3', a4') → kj_J p l e rm_X8_kin s m args below meth c 0 0 Q 6 D A ((km_w cA h0 q) a4') 39 [(0, .ref h0), (2, .int a0'), (3, .int a1'), (4, .int a2'), (5, .int a3')] []) (ke0 : ∀ (a0' : Int32) (a1' : Int32) (a2' : Int32) (a3' : km_S), o = .inr (a0', a1', a2', a3') → kj_J p l e rm_X8_kin s m args below meth c 0 0 Q 6 D A ((km_w cA h0 q) a3') 74 [(0, .ref h0), (2, .int a0'), (3, .int a1'), (4, .int a2')] []) : kj_J p l e rm_X8_kin s m args below meth c 0 0 Q 6 D A ((km_w cA h0 q) z) 39 [(0, .ref h0), (2, .int x2), (3, .int x3), (4, .int x4), (5, .int x5)] [] := by
  unfold fm_kin_39 at h
  refine kj_iload F dX8_kin_39 4 rfl ?_
  refine kj_aload_n F dX8_kin_41 0 rfl rfl ?_
  refine km_get F dX8_kin_42 in_X8_kin 18 (by decide) (by decide +kernel) rfl rfl ?_
  refine kj_icmp_ge F dX8_kin_45 (tgt := 74) (by decide) h (fun hc h => ?_) (fun hc h => ?_)
  · refine kj_J.sub [0, 1, 2, 3] rfl ?_
    exact ke0 x2 x3 x4 z (Option.some.inj h).symm
  · refine kj_iload F dX8_kin_48 3 rfl ?_
    refine kj_aload_n F dX8_kin_50 0 rfl rfl ?_
    refine kj_iload F dX8_kin_51 4 rfl ?_
    refine kj_iload_n F dX8_kin_53 2 rfl rfl ?_
    refine kj_cVi (As := [.int x5, .int x3]) (rest := [.int x4]) F dX8_kin_54 h (fun o h1 => cm_isAhead h1) (cwV 2 F.2.2.2.2.1 gX8_kin_X8_isAhead rfl rfl rfl (by decide +kernel) ⟨Nat.le_of_ble_eq_true rfl, Nat.le_of_ble_eq_true rfl⟩) 0 rfl rfl rfl rfl rfl (Nat.le_of_ble_eq_true rfl) ⟨Nat.zero_le _, Nat.zero_le _⟩ (fun o1 h => ?_)
    refine kj_if_eq F dX8_kin_57 (tgt := 64) (by decide) h (fun hc h => ?_) (fun hc h => ?_)
    · refine kj_iconst F dX8_kin_64 (v := 0) (by decide) ?_
      refine kj_J.sub [0, 1, 2, 4] rfl ?_
      exact jm_kin_65 F h kb ke0
    · refine kj_iconst F dX8_kin_60 (v := 1) (by decide) ?_
      refine kj_goto F dX8_kin_61 (tgt := 65) (by decide) ?_
      refine kj_J.sub [0, 1, 2, 4] rfl ?_
      exact jm_kin_65 F h kb ke0
theorem jlm_kin_39 {p : Program} {l : Launch} {e : Env} {s : State} {m : MethodId} {args : Array Value} {below : List Frame} {meth : Method} {c : Code} {A : Nat → Prop} {D : va_G} {cA : Nat → ClassId} {h0 : Nat} {q : Nat → Nat} {Q : State → Prop} (F : kj_Fx p s m args meth c cX8_kin 6 wsX8_kin RX8 (some .int) D (km_T cA) A) {n : Nat} {x2 : Int32} {x3 : Int32} {x4 : Int32} {x5 : Int32} {z : km_S} {r : (Int32 × Int32 × Int32 × km_S)} (h : lm_kin_39 n x2 x3 x4 x5 z = some r) (ke : kj_J p l e rm_X8_kin s m args below meth c 0 0 Q 6 D A ((km_w cA h0 q) (r.2.2.2)) 74 [(0, .ref h0), (2, .int (r.1)), (3, .int (r.2.1)), (4, .int (r.2.2.1))] []) : kj_J p l e rm_X8_kin s m args below meth c 0 0 Q 6 D A ((km_w cA h0 q) z) 39 [(0, .ref h0), (2, .int x2), (3, .int x3), (4, .int x4), (5, .int x5)] [] :=
  kj_it_J (Wh := fun (u : (Int32 × Int32 × Int32 × Int32 × km_S)) => kj_J p l e rm_X8_kin s m args below meth c 0 0 Q 6 D A ((km_w cA h0 q) (u.2.2.2.2)) 39 [(0, .ref h0), (2, .int (u.1)), (3, .int (u.2.1)), (4, .int (u.2.2.1)), (5, .int (u.2.2.2.1))] []) (We := fun r => kj_J p l e rm_X8_kin s m args below meth c 0 0 Q 6 D A ((km_w cA h0 q) (r.2.2.2)) 74 [(0, .ref h0), (2, .int (r.1)), (3, .int (r.2.1)), (4, .int (r.2.2.1))] []) (fun u o h kb ke => jm_kin_39 F h (fun a0' a1' a2' a3' a4' e => kb (a0', a1', a2', a3', a4') e) (fun a0' a1' a2' a3' e => ke (a0', a1', a2', a3') e)) n (x2, x3, x4, x5, z) r h ke
set_option maxRecDepth 20000 in
theorem jm_kin_25 {p : Program} {l : Launch} {e : Env} {s : State} {m : MethodId} {args : Array Value} {below : List Frame} {meth : Method} {c : Code} {A : Nat → Prop} {D : va_G} {cA : Nat → ClassId} {h0 : Nat} {q : Nat → Nat} {Q : State → Prop} (F : kj_Fx p s m args meth c cX8_kin 6 wsX8_kin RX8 (some .int) D (km_T cA) A) {x2 : Int32} {x3 : Int32} {z : km_S} {o : ((Int32 × Int32 × km_S) ⊕ ((Int32 × km_S) ⊕ km_S))} (h : fm_kin_25 x2 x3 z = some o) (kb : ∀ (a0' : Int32) (a1' : Int32) (a2' : km_S), o = .inl (a0', a1', a2') → kj_J p l e rm_X8_kin s m args below meth c 0 0 Q 6 D A ((km_w cA h0 q) a2') 25 [(0, .ref h0), (2, .int a0'), (3, .int a1')] []) (ke0 : ∀ (a0' : Int32) (a1' : km_S), o = .inr (.inl (a0', a1')) → kj_J p l e rm_X8_kin s m args below meth c 0 0 Q 6 D A ((km_w cA h0 q) a1') 80 [(0, .ref h0), (3, .int a0')] []) (ke1 : ∀ (a0' : km_S), o = .inr (.inr a0') → kj_J p l e rm_X8_kin s m args below meth c 0 0 Q 6 D A ((km_w cA h0 q) a0') 99 [] []) : kj_J p l e rm_X8_kin s m args below meth c 0 0 Q 6 D A ((km_w cA h0 q) z) 25 [(0, .ref h0), (2, .int x2), (3, .int x3)] [] := by
  unfold fm_kin_25 at h
  refine kj_iload_n F dX8_kin_25 2 rfl rfl ?_
  refine kj_aload_n F dX8_kin_26 0 rfl rfl ?_
  refine km_get F dX8_kin_27 in_X8_kin 18 (by decide) (by decide +kernel) rfl rfl ?_
  refine kj_icmp_ge F dX8_kin_30 (tgt := 99) (by decide) h (fun hc h => ?_) (fun hc h => ?_)
  · refine kj_J.sub [] rfl ?_
    exact ke1 z (Option.some.inj h).symm
  · refine kj_iconst F dX8_kin_33 (v := 0) (by decide) ?_
    refine kj_istore F dX8_kin_34 (lv' := [(4, .int (0 : Int32)), (0, .ref h0), (2, .int x2), (3, .int x3)]) (by decide) rfl ?_
    refine kj_iconst F dX8_kin_36 (v := 0) (by decide) ?_
    refine kj_istore F dX8_kin_37 (lv' := [(5, .int (0 : Int32)), (4, .int (0 : Int32)), (0, .ref h0), (2, .int x2), (3, .int x3)]) (by decide) rfl ?_
    refine kj_J.sub [2, 3, 4, 1, 0] rfl ?_
    refine kj_bn h (fun r1 h1 h => ?_)
    refine jlm_kin_39 F h1 ?_
    refine kj_iload F dX8_kin_74 3 rfl ?_
    refine kj_iload_n F dX8_kin_76 1 rfl rfl ?_
    refine kj_icmp_ne F dX8_kin_77 (tgt := 93) (by decide) h (fun hc h => ?_) (fun hc h => ?_)
    · refine kj_J.sub [0, 2] rfl ?_
      exact ke0 (r1.2.1) (r1.2.2.2) (Option.some.inj h).symm
    · refine kj_iinc F dX8_kin_93 2 rfl (v := 1) (by decide) (by decide) (lv' := [(3, .int ((r1.2.1) + 1)), (0, .ref h0), (2, .int (r1.1)), (4, .int (r1.2.2.1))]) rfl ?_
      refine kj_goto F dX8_kin_96 (tgt := 25) (by decide) ?_
      refine kj_J.sub [1, 2, 0] rfl ?_
      exact kb (r1.1) ((r1.2.1) + 1) (r1.2.2.2) (Option.some.inj h).symm
theorem jlm_kin_25 {p : Program} {l : Launch} {e : Env} {s : State} {m : MethodId} {args : Array Value} {below : List Frame} {meth : Method} {c : Code} {A : Nat → Prop} {D : va_G} {cA : Nat → ClassId} {h0 : Nat} {q : Nat → Nat} {Q : State → Prop} (F : kj_Fx p s m args meth c cX8_kin 6 wsX8_kin RX8 (some .int) D (km_T cA) A) {n : Nat} {x2 : Int32} {x3 : Int32} {z : km_S} {r : ((Int32 × km_S) ⊕ km_S)} (h : lm_kin_25 n x2 x3 z = some r) (ke : (∀ a, r = (.inl a) → kj_J p l e rm_X8_kin s m args below meth c 0 0 Q 6 D A ((km_w cA h0 q) (a.2)) 80 [(0, .ref h0), (3, .int (a.1))] []) ∧ (∀ a, r = (.inr a) → kj_J p l e rm_X8_kin s m args below meth c 0 0 Q 6 D A ((km_w cA h0 q) (a)) 99 [] [])) : kj_J p l e rm_X8_kin s m args below meth c 0 0 Q 6 D A ((km_w cA h0 q) z) 25 [(0, .ref h0), (2, .int x2), (3, .int x3)] [] :=
  kj_it_J (Wh := fun (u : (Int32 × Int32 × km_S)) => kj_J p l e rm_X8_kin s m args below meth c 0 0 Q 6 D A ((km_w cA h0 q) (u.2.2)) 25 [(0, .ref h0), (2, .int (u.1)), (3, .int (u.2.1))] []) (We := fun r => (∀ a, r = (.inl a) → kj_J p l e rm_X8_kin s m args below meth c 0 0 Q 6 D A ((km_w cA h0 q) (a.2)) 80 [(0, .ref h0), (3, .int (a.1))] []) ∧ (∀ a, r = (.inr a) → kj_J p l e rm_X8_kin s m args below meth c 0 0 Q 6 D A ((km_w cA h0 q) (a)) 99 [] [])) (fun u o h kb ke => jm_kin_25 F h (fun a0' a1' a2' e => kb (a0', a1', a2') e) (fun a0' a1' e => (ke (.inl (a0', a1')) e).1 (a0', a1') rfl) (fun a0' e => (ke (.inr a0') e).2 a0' rfl)) n (x2, x3, z) r h ke
set_option maxRecDepth 20000 in
theorem jm_kin {p : Program} {l : Launch} {e : Env} {s : State} {m : MethodId} {args : Array Value} {below : List Frame} {meth : Method} {c : Code} {A : Nat → Prop} {D : va_G} {cA : Nat → ClassId} {h0 : Nat} {q : Nat → Nat} (F : kj_Fx p s m args meth c cX8_kin 6 wsX8_kin RX8 (some .int) D (km_T cA) A) {x1 : Int32} {x2 : Int32} {z : km_S} {o : (Int32 × km_S)} (h : fm_kin x1 x2 z = some o) : kj_J p l e rm_X8_kin s m args below meth c 0 0 (MQ below (kj_Qi D (km_T cA) A (km_w cA h0 q) o) args s 0 0 A) 6 D A ((km_w cA h0 q) z) 0 [(0, .ref h0), (1, .int x1), (2, .int x2)] [] := by
  unfold fm_kin at h
  refine kj_aload_n F dX8_kin_0 0 rfl rfl ?_
  refine kj_iload_n F dX8_kin_1 1 rfl rfl ?_
  refine kj_cVi (As := [.int x1]) (rest := []) F dX8_kin_2 h (fun o h1 => cm_isHeap h1) (cwV 1 F.2.2.2.2.1 gX8_kin_X8_isHeap rfl rfl rfl (by decide +kernel) ⟨Nat.le_of_ble_eq_true rfl, Nat.le_of_ble_eq_true rfl⟩) 0 rfl rfl rfl rfl rfl (Nat.le_of_ble_eq_true rfl) ⟨Nat.zero_le _, Nat.zero_le _⟩ (fun o1 h => ?_)
  refine kj_if_eq F dX8_kin_5 (tgt := 12) (by decide) h (fun hc h => ?_) (fun hc h => ?_)
  · refine kj_ldc F dX8_kin_12 (v := (-1000001)) (by decide +kernel) ?_
    exact kj_iret F dX8_kin_14 h
  · refine kj_iload_n F dX8_kin_8 2 rfl rfl ?_
    refine kj_if_ge F dX8_kin_9 (tgt := 15) (by decide) h (fun hc h => ?_) (fun hc h => ?_)
    · refine kj_aload_n F dX8_kin_15 0 rfl rfl ?_
      refine kj_bipush F dX8_kin_16 (v := 20) (by decide) ?_
      refine kj_iload_n F dX8_kin_18 1 rfl rfl ?_
      refine kj_imul F dX8_kin_19 ?_
      refine kj_cVv (As := [.int ((20 : Int32) * x1)]) (rest := []) F dX8_kin_20 h (fun o h1 => cm_laysKin h1) (cwV 1 F.2.2.2.2.1 gX8_kin_X8_laysKin rfl rfl rfl (by decide +kernel) ⟨Nat.le_of_ble_eq_true rfl, Nat.le_of_ble_eq_true rfl⟩) 0 rfl rfl rfl rfl rfl (Nat.le_of_ble_eq_true rfl) ⟨Nat.zero_le _, Nat.zero_le _⟩ (fun o2 h => ?_)
      refine kj_iconst F dX8_kin_23 (v := 0) (by decide) ?_
      refine kj_istore_n F dX8_kin_24 (lv' := [(3, .int (0 : Int32)), (0, .ref h0), (1, .int x1), (2, .int x2)]) rfl (by decide) rfl ?_
      refine kj_J.sub [1, 3, 0] rfl ?_
      refine kj_bn h (fun r3 h1 h => ?_)
      refine jlm_kin_25 F h1 ?_
      refine ⟨fun a4 e => ?_, fun b5 e => ?_⟩
      · subst e
        refine kj_seL h (fun h => ?_)
        refine kj_aload_n F dX8_kin_80 0 rfl rfl ?_
        refine kj_aload_n F dX8_kin_81 0 rfl rfl ?_
        refine km_get F dX8_kin_82 in_X8_kin 17 (by decide) (by decide +kernel) rfl rfl ?_
        refine kj_bipush F dX8_kin_85 (v := 20) (by decide) ?_
        refine kj_iload_n F dX8_kin_87 1 rfl rfl ?_
        refine kj_imul F dX8_kin_88 ?_
        refine kj_cVi (As := [.ref (q 9), .int ((20 : Int32) * (a4.1))]) (rest := []) F dX8_kin_89 h (fun o h1 => cm_numberOf (by decide) h1) (cwV 2 F.2.2.2.2.1 gX8_kin_X8_numberOf rfl rfl rfl (by decide +kernel) ⟨Nat.le_of_ble_eq_true rfl, Nat.le_of_ble_eq_true rfl⟩) 0 rfl rfl rfl rfl rfl (Nat.le_of_ble_eq_true rfl) ⟨Nat.zero_le _, Nat.zero_le _⟩ (fun o6 h => ?_)
        exact kj_iret F dX8_kin_92 h
      · subst e
        refine kj_seR h (fun h => ?_)
        refine kj_ldc F dX8_kin_99 (v := (-1000000)) (by decide +kernel) ?_
        exact kj_iret F dX8_kin_101 h
    · refine kj_ldc F dX8_kin_12 (v := (-1000001)) (by decide +kernel) ?_
      exact kj_iret F dX8_kin_14 h
theorem cm_kin {l : Launch} {D : va_G} {cA : Nat → ClassId} {h0 : Nat} {q : Nat → Nat} {x1 : Int32} {x2 : Int32} {z : km_S} {o : (Int32 × km_S)} (h : fm_kin x1 x2 z = some o) : kj_Mi l yX8_kin wsX8_kin rm_X8_kin D (km_T cA) (km_w cA h0 q) z [.ref h0, .int x1, .int x2] o :=
  fun sz => kj_start (by decide) rfl (Nat.le_of_ble_eq_true rfl) rfl fun p e s m args below meth c hsz F => jm_kin F h
