theorem kx_rastB {p : Program} {l : Launch} {e : Env} {R : Room} {s : State} {m : MethodId} {args : Array Value} {below : List Frame} {meth : Method} {c : Code} {cells slots : Nat} {Q : State → Prop} {cc : ByteArray} {nL : Nat} {Ts : List Cond} {own : String} {ret : Option FieldType} {D : va_G} {A : Nat → Prop} {pc : Nat} {lv : List (Nat × Value)} {rest : List Value} {cA : Nat → ClassId} {h0 : Nat} {q : Nat → Nat} {P : va_W} {z z1 : kx_S} {i : Int32} {x : Nat} (F : kj_Fx p s m args meth c cc nL Ts own ret D (kx_T cA) A) (hdg : decode cc pc = .ok (.aastore, 1)) (hp : ∃ (qr : Nat → Nat) (nr : Nat) (rr : kr_S) (Pa Pb : va_W), P = Pa ++ (kr_w cA x qr nr rr ++ Pb)) (h : kx_wq z 3 i (some x) = some z1) (k : kj_J p l e R s m args below meth c cells slots Q nL D A (kx_W cA h0 q P z1) (pc + 1) lv rest) : kj_J p l e R s m args below meth c cells slots Q nL D A (kx_W cA h0 q P z) pc lv (.ref x :: .int i :: .ref (q 14) :: rest) := by
  obtain ⟨qr, nr, rr, Pa, Pb, rfl⟩ := hp
  refine kj_ifn h fun hc h1 => ?_
  cases h1
  refine kj_aast (v := some x) F hdg 15 4 (kx_atB cA h0 q _ z) rfl hc (fun y e => ?_) (kx_setB cA h0 q _ z _) k
  cases e
  refine ⟨Pa.length + 17, 4, _, _, kx_pool (x := (x, .inr (4, kr_fs qr))) ?_, rfl, rfl⟩
  rw [List.getElem?_append_right (Nat.le_refl _), Nat.sub_self]
  rfl
/-- a turn of symmetric's loop -/
def sc_sym (ba bb bc x4 x6 : Int32) (v : Int32 × Int64 × Int32) : Option ((Int32 × Int64 × Int32) ⊕ Int32) :=
  if x6 ≤ v.2.2 then some (.inr v.1) else
  (fx_hasSymmetries ba bb bc v.2.1 x4).bind fun o1 =>
  (fx_following ba bb bc v.2.1).bind fun o2 =>
  some (.inl (if o1 = 0 then v.1 else v.1 + 1, o2, v.2.2 + 1))
/-! X7_rowsOf -/
abbrev rm_X7_rowsOf : Room := { frames := 4, cells := 11, slots := 572, locals := 102 }
theorem in_X7_rowsOf_X0 : ∀ w ∈ u_ws RX0 TX0 3, w ∈ wsX7_rowsOf := by decide +kernel
theorem in_X7_rowsOf_X4 : ∀ w ∈ u_ws RX4 TX4 4, w ∈ wsX7_rowsOf := by decide +kernel
theorem in_X7_rowsOf_X7 : ∀ w ∈ u_ws RX7 TX7 10, w ∈ wsX7_rowsOf := by decide +kernel
def vc_rowsOf (cA : Nat → ClassId) (x1 : Nat) (z : kx_S) (P : va_W) (K : Option Nat → kx_S → va_W → Prop) : Prop :=
  ∃ v1, kx_bx P x1 = some v1 ∧
  ∃ v2, kx_bx P x1 = some v2 ∧
  ∃ v3, kx_rr z 3 (((((v1.2.1) - (1 : Int32)) * (4 : Int32)) + (v2.2.2)) - (1 : Int32)) = some v3 ∧
  (v3 = none →
  ∀ q6, (∀ x ∈ P, x.1 ≠ q6) →
  ∃ v8, kx_bx (P ++ [((q6, .inr (4, [.null, .null, .null, .null])) : Nat × va_E)]) x1 = some v8 ∧
  ∃ v9, kx_bx (P ++ [((q6, .inr (4, [.null, .null, .null, .null])) : Nat × va_E)]) x1 = some v9 ∧
  ∃ oi10, fr_init (v8.2.1) (v9.2.2) = some oi10 ∧ ∀ (qri10 : Nat → Nat) (bxi10 : Nat),
  (∃ (qr : Nat → Nat) (nr : Nat) (rr : kr_S) (Pa Pb : va_W), (P ++ (kr_w cA q6 qri10 oi10.1 oi10.2 ++ [((bxi10, .inr (0, [.int 1, .int (v8.2.1), .int (v9.2.2)])) : Nat × va_E)])) = Pa ++ (kr_w cA q6 qr nr rr ++ Pb)) ∧ ∃ zi12, kx_wq z 3 (((((v1.2.1) - (1 : Int32)) * (4 : Int32)) + (v2.2.2)) - (1 : Int32)) (some q6) = some zi12 ∧
  K (some q6) zi12 (P ++ (kr_w cA q6 qri10 oi10.1 oi10.2 ++ [((bxi10, .inr (0, [.int 1, .int (v8.2.1), .int (v9.2.2)])) : Nat × va_E)]))) ∧ (∀ a4, v3 = some a4 →
  K (some a4) z P)
set_option maxRecDepth 20000 in
set_option maxHeartbeats 1000000 in
theorem ec_rowsOf {p : Program} {l : Launch} {e : Env} {s : State} {m : MethodId} {args : Array Value} {below : List Frame} {meth : Method} {c : Code} {A : Nat → Prop} {D : va_G} {cA : Nat → ClassId} {h0 : Nat} {q : Nat → Nat} {P : va_W} {z : kx_S} {x1 : Nat} {K : Option Nat → kx_S → va_W → Prop} (F : kj_Fx p s m args meth c cX7_rowsOf 4 wsX7_rowsOf RX7 (some (.object "CornerHeaps$Rows")) D (kx_T cA) A) (hN : kn_N s) (h : vc_rowsOf cA x1 z P K) : kj_J p l e rm_X7_rowsOf s m args below meth c 0 0 (MQ below (kn_Qq D (kx_T cA) A (kx_V cA h0 q) (fun r u => K r u.1 u.2)) args s 11 572 A) 4 D A (kx_W cA h0 q P z) 0 [(0, .ref h0), (1, .ref x1)] [] := by
  unfold vc_rowsOf at h
  refine kj_aload_n F dX7_rowsOf_0 1 rfl rfl ?_
  obtain ⟨v1, h17, h⟩ := h
  refine kx_gbb F dX7_rowsOf_1 in_X7_rowsOf_X0 (by decide +kernel) (kw_h h17) (kw_e ?_)
  refine kj_iconst F dX7_rowsOf_4 (v := 1) (by decide) ?_
  refine kj_isub F dX7_rowsOf_5 ?_
  refine kj_iconst F dX7_rowsOf_6 (v := 4) (by decide) ?_
  refine kj_imul F dX7_rowsOf_7 ?_
  refine kj_aload_n F dX7_rowsOf_8 1 rfl rfl ?_
  obtain ⟨v2, h16, h⟩ := h
  refine kx_gbc F dX7_rowsOf_9 in_X7_rowsOf_X0 (by decide +kernel) (kw_h h16) (kw_e ?_)
  refine kj_iadd F dX7_rowsOf_12 ?_
  refine kj_iconst F dX7_rowsOf_13 (v := 1) (by decide) ?_
  refine kj_isub F dX7_rowsOf_14 ?_
  refine kj_istore_n F dX7_rowsOf_15 (lv' := [(2, .int (((((v1.2.1) - (1 : Int32)) * (4 : Int32)) + (v2.2.2)) - (1 : Int32))), (0, .ref h0), (1, .ref x1)]) rfl (by decide) rfl ?_
  refine kj_aload_n F dX7_rowsOf_16 1 rfl rfl ?_
  refine kj_get F dX7_rowsOf_17 in_X7_rowsOf_X7 0 rfl rfl 5 (by decide) (by decide +kernel) rfl rfl ?_
  refine kj_iload_n F dX7_rowsOf_20 0 rfl rfl ?_
  obtain ⟨v3, h15, h⟩ := h
  refine kx_raldB F dX7_rowsOf_21 (kw_h h15) (kw_e ?_)
  refine kj_astoreq_n (i := 3) (v := v3) F dX7_rowsOf_22 (lv' := [(3, va_rf v3), (2, .int (((((v1.2.1) - (1 : Int32)) * (4 : Int32)) + (v2.2.2)) - (1 : Int32))), (0, .ref h0), (1, .ref x1)]) rfl (by decide) rfl ?_
  refine kj_aloadq_n F dX7_rowsOf_23 0 rfl rfl ?_
  refine kj_ifnonnull F dX7_rowsOf_24 (tgt := 50) (by decide) (fun e5 => ?_) (fun a4 e5 => ?_)
  · replace h := h.1 e5
    refine kn_new (fs := [.null, .null, .null, .null]) F dX7_rowsOf_27 in_X7_rowsOf_X4 tyX4 tyX4_ok (by decide +kernel) (by decide +kernel) (by decide +kernel) (ci := 4) rfl (fun j hj => by rcases (show j = 0 ∨ j = 1 ∨ j = 2 ∨ j = 3 by omega) with rfl | rfl | rfl | rfl <;> rfl) (Nat.le_of_ble_eq_true rfl) (Nat.le_of_ble_eq_true rfl) (fun q6 hq7 => ?_)
    replace h := h q6 (fun x hx => hq7 x (kx_inP hx))
    refine kj_cast (ww' := (kx_W cA h0 q (P ++ [((q6, .inr (4, [.null, .null, .null, .null])) : Nat × va_E)]) z)) (by simp [kx_W]) ?_
    refine kj_dup F dX7_rowsOf_30 rfl ?_
    refine kj_aload_n F dX7_rowsOf_31 3 rfl rfl ?_
    obtain ⟨v8, h14, h⟩ := h
    refine kx_gbb F dX7_rowsOf_32 in_X7_rowsOf_X0 (by decide +kernel) (kw_h h14) (kw_e ?_)
    refine kj_aload_n F dX7_rowsOf_35 3 rfl rfl ?_
    obtain ⟨v9, h13, h⟩ := h
    refine kx_gbc F dX7_rowsOf_36 in_X7_rowsOf_X0 (by decide +kernel) (kw_h h13) (kw_e ?_)
    obtain ⟨oi10, h1i10, h⟩ := h
    refine kj_cast (ww' := (kx_w cA h0 q z ++ P) ++ [((q6, .inr (4, [.null, .null, .null, .null])) : Nat × va_E)]) (by simp [kx_W]) ?_
    refine kn_cIv (As := [.int (v8.2.1), .int (v9.2.2)]) (rest := [.ref q6]) F hN dX7_rowsOf_39 (dr_init h1i10) (cwI 2 F.2.2.2.2.1 gX7_rowsOf_X4_init rfl rfl rfl (F.2.2.2.2.1 _ (by decide +kernel)) (F.2.2.2.2.1 _ (by decide +kernel)) (F.2.2.2.2.1 _ (by decide +kernel)) rfl (by decide +kernel) ⟨Nat.le_of_ble_eq_true rfl, Nat.le_of_ble_eq_true rfl⟩) rfl rfl (Nat.le_of_ble_eq_true rfl) ⟨(by exact Nat.le_of_ble_eq_true rfl), (by exact Nat.le_of_ble_eq_true rfl)⟩ (fun ui10 _ => ?_)
    obtain ⟨qri10, bxi10⟩ := ui10
    replace h := h qri10 bxi10
    refine kj_cast (ww' := kx_W cA h0 q (P ++ (kr_w cA q6 qri10 oi10.1 oi10.2 ++ [((bxi10, .inr (0, [.int 1, .int (v8.2.1), .int (v9.2.2)])) : Nat × va_E)])) z) (by simp [kx_W]) ?_
    refine kn_widen (k := 11) (n := 572) (Nat.le_of_ble_eq_true rfl) (Nat.le_of_ble_eq_true rfl) ?_
    refine kj_astore_n F dX7_rowsOf_42 (lv' := [(3, .ref q6), (2, .int (((((v1.2.1) - (1 : Int32)) * (4 : Int32)) + (v2.2.2)) - (1 : Int32))), (0, .ref h0), (1, .ref x1)]) rfl (by decide) rfl ?_
    refine kj_aload_n F dX7_rowsOf_43 2 rfl rfl ?_
    refine kj_get F dX7_rowsOf_44 in_X7_rowsOf_X7 0 rfl rfl 5 (by decide) (by decide +kernel) rfl rfl ?_
    refine kj_iload_n F dX7_rowsOf_47 1 rfl rfl ?_
    refine kj_aload_n F dX7_rowsOf_48 0 rfl rfl ?_
    obtain ⟨hpi12, zi12, h1i12, h⟩ := h
    refine kx_rastB F dX7_rowsOf_49 hpi12 h1i12 ?_
    refine kj_aload_n F dX7_rowsOf_50 0 rfl rfl ?_
    exact kn_aret (v := (some q6)) (z := ((zi12, (P ++ (kr_w cA q6 qri10 oi10.1 oi10.2 ++ [((bxi10, .inr (0, [.int 1, .int (v8.2.1), .int (v9.2.2)])) : Nat × va_E)]))) : kx_S × va_W)) F dX7_rowsOf_51 (Nat.le_of_ble_eq_true rfl) (Nat.le_of_ble_eq_true rfl) h
  · replace h := h.2 a4 e5
    refine kj_aloadq_n F dX7_rowsOf_50 0 rfl rfl ?_
    refine kj_deref e5 ?_
    exact kn_aret (v := (some a4)) (z := ((z, P) : kx_S × va_W)) F dX7_rowsOf_51 (Nat.le_of_ble_eq_true rfl) (Nat.le_of_ble_eq_true rfl) h
theorem dc_rowsOf {l : Launch} {D : va_G} {cA : Nat → ClassId} {h0 : Nat} {q : Nat → Nat} {P : va_W} {z : kx_S} {x1 : Nat} {K : Option Nat → kx_S → va_W → Prop} (h : vc_rowsOf cA x1 z P K) : kn_Mq l yX7_rowsOf wsX7_rowsOf rm_X7_rowsOf D (kx_T cA) (kx_V cA h0 q) (kx_W cA h0 q P z) [.ref h0, .ref x1] (fun r u => K r u.1 u.2) :=
  fun sz => kn_start (by decide) rfl (Nat.le_of_ble_eq_true rfl) rfl fun p e s m args below meth c hsz F hN _ => ec_rowsOf F hN h
/-! X7_numberOf -/
abbrev rm_X7_numberOf : Room := { frames := 5, cells := 11, slots := 572, locals := 125 }
theorem in_X7_numberOf_X0 : ∀ w ∈ u_ws RX0 TX0 3, w ∈ wsX7_numberOf := by decide +kernel
theorem in_X7_numberOf_X1 : ∀ w ∈ u_ws RX1 TX1 2, w ∈ wsX7_numberOf := by decide +kernel
def vc_numberOf (cA : Nat → ClassId) (x1 : Nat) (z : kx_S) (P : va_W) (K : Int32 → kx_S → va_W → Prop) : Prop :=
  ∃ v1, kx_hp P x1 = some v1 ∧
  vc_rowsOf cA (v1.1) z P (fun r3 u2z u2p =>
  ∃ v4, kx_hp u2p x1 = some v4 ∧
  ∃ v5, kx_bx u2p (v4.1) = some v5 ∧
  ∃ v6, kx_hp u2p x1 = some v6 ∧
  ∃ a7, r3 = some a7 ∧
  ∃ (qri9 : Nat → Nat) (nri9 : Nat) (rri9 : kr_S) (Pai9 Pbi9 : va_W), u2p = Pai9 ++ (kr_w cA a7 qri9 nri9 rri9 ++ Pbi9) ∧ ∃ oi9, fr_numberOf nri9 (v5.1) (v6.2) rri9 = some oi9 ∧
  K (oi9.1) u2z (Pai9 ++ (kr_w cA a7 qri9 nri9 oi9.2 ++ Pbi9)))
set_option maxRecDepth 20000 in
set_option maxHeartbeats 1000000 in
theorem ec_numberOf {p : Program} {l : Launch} {e : Env} {s : State} {m : MethodId} {args : Array Value} {below : List Frame} {meth : Method} {c : Code} {A : Nat → Prop} {D : va_G} {cA : Nat → ClassId} {h0 : Nat} {q : Nat → Nat} {P : va_W} {z : kx_S} {x1 : Nat} {K : Int32 → kx_S → va_W → Prop} (F : kj_Fx p s m args meth c cX7_numberOf 2 wsX7_numberOf RX7 (some .int) D (kx_T cA) A) (hN : kn_N s) (h : vc_numberOf cA x1 z P K) : kj_J p l e rm_X7_numberOf s m args below meth c 0 0 (MQ below (kn_Qi D (kx_T cA) A (kx_V cA h0 q) (fun r u => K r u.1 u.2)) args s 11 572 A) 2 D A (kx_W cA h0 q P z) 0 [(0, .ref h0), (1, .ref x1)] [] := by
  unfold vc_numberOf at h
  refine kj_aload_n F dX7_numberOf_0 0 rfl rfl ?_
  refine kj_aload_n F dX7_numberOf_1 1 rfl rfl ?_
  obtain ⟨v1, h13, h⟩ := h
  refine kx_gbox F dX7_numberOf_2 in_X7_numberOf_X1 (by decide +kernel) (kw_h h13) (kw_e ?_)
  refine kn_cVq (As := [.ref (v1.1)]) (rest := []) F hN dX7_numberOf_5 (dc_rowsOf h) (cwV 1 F.2.2.2.2.1 gX7_numberOf_X7_rowsOf rfl rfl rfl (by decide +kernel) ⟨Nat.le_of_ble_eq_true rfl, Nat.le_of_ble_eq_true rfl⟩) 0 rfl rfl rfl rfl rfl (Nat.le_of_ble_eq_true rfl) ⟨(by exact Nat.le_of_ble_eq_true rfl), (by exact Nat.le_of_ble_eq_true rfl)⟩ (fun r3 u2 h => ?_)
  refine kj_cast (ww' := kx_W cA h0 q u2.2 u2.1) rfl ?_
  refine kn_widen (k := 11) (n := 572) (Nat.le_of_ble_eq_true rfl) (Nat.le_of_ble_eq_true rfl) ?_
  refine kj_aload_n F dX7_numberOf_8 1 rfl rfl ?_
  obtain ⟨v4, h12, h⟩ := h
  refine kx_gbox F dX7_numberOf_9 in_X7_numberOf_X1 (by decide +kernel) (kw_h h12) (kw_e ?_)
  obtain ⟨v5, h11, h⟩ := h
  refine kx_gba F dX7_numberOf_12 in_X7_numberOf_X0 (by decide +kernel) (kw_h h11) (kw_e ?_)
  refine kj_aload_n F dX7_numberOf_15 1 rfl rfl ?_
  obtain ⟨v6, h10, h⟩ := h
  refine kx_gcubes F dX7_numberOf_16 in_X7_numberOf_X1 (by decide +kernel) (kw_h h10) (kw_e ?_)
  obtain ⟨a7, e8, h⟩ := h
  refine kj_steq (st' := [.long (v6.2), .int (v5.1), .ref a7]) (by rw [e8]; rfl) ?_
  obtain ⟨qri9, nri9, rri9, Pai9, Pbi9, hpi9, oi9, h1i9, h⟩ := h
  refine kj_cast (ww' := (kr_W cA a7 qri9 nri9 (kx_w cA h0 q (u2.1) ++ Pai9) Pbi9) rri9) (by rw [hpi9]; simp [kx_W, kr_W]) ?_
  refine kj_cVi (w := (kr_W cA a7 qri9 nri9 (kx_w cA h0 q (u2.1) ++ Pai9) Pbi9)) (As := [.int (v5.1), .long (v6.2)]) (rest := []) F dX7_numberOf_19 (kw_h h1i9) (fun o h1 => cr_numberOf h1) (cwV 2 F.2.2.2.2.1 gX7_numberOf_X4_numberOf rfl rfl rfl (by decide +kernel) ⟨Nat.le_of_ble_eq_true rfl, Nat.le_of_ble_eq_true rfl⟩) _ (kr_pos (j := 0) rfl) rfl rfl rfl rfl (Nat.le_of_ble_eq_true rfl) ⟨(by exact Nat.le_of_ble_eq_true rfl), (by exact Nat.le_of_ble_eq_true rfl)⟩ (kw_e ?_)
  refine kj_cast (ww' := (kx_W cA h0 q (Pai9 ++ (kr_w cA a7 qri9 nri9 oi9.2 ++ Pbi9)) (u2.1))) (by simp [kx_W, kr_W]) ?_
  exact kn_iret (z := (((u2.1), (Pai9 ++ (kr_w cA a7 qri9 nri9 oi9.2 ++ Pbi9))) : kx_S × va_W)) F dX7_numberOf_22 (Nat.le_of_ble_eq_true rfl) (Nat.le_of_ble_eq_true rfl) h
theorem dc_numberOf {l : Launch} {D : va_G} {cA : Nat → ClassId} {h0 : Nat} {q : Nat → Nat} {P : va_W} {z : kx_S} {x1 : Nat} {K : Int32 → kx_S → va_W → Prop} (h : vc_numberOf cA x1 z P K) : kn_Mi l yX7_numberOf wsX7_numberOf rm_X7_numberOf D (kx_T cA) (kx_V cA h0 q) (kx_W cA h0 q P z) [.ref h0, .ref x1] (fun r u => K r u.1 u.2) :=
  fun sz => kn_start (by decide) rfl (Nat.le_of_ble_eq_true rfl) rfl fun p e s m args below meth c hsz F hN _ => ec_numberOf F hN h
/-! X7_take -/
abbrev rm_X7_take : Room := { frames := 5, cells := 13, slots := 577, locals := 125 }
theorem in_X7_take_X1 : ∀ w ∈ u_ws RX1 TX1 2, w ∈ wsX7_take := by decide +kernel
def vc_take (cA : Nat → ClassId) (x1 : Int32) (x2 : Int32) (x3 : Int32) (x4 : Int32) (x5 : Int32) (z : kx_S) (P : va_W) (K : Int32 → kx_S → va_W → Prop) : Prop :=
  vx_of cA x1 x2 x3 z P (fun r2 u1z u1p =>
  (r2 = none →
  K ((-1000001) : Int32) u1z u1p) ∧ (∀ a3, r2 = some a3 →
  ∃ o5, fc_isPlace x5 = some o5 ∧
  (o5 = 0 →
  K ((-1000001) : Int32) u1z u1p) ∧ (¬ o5 = 0 →
  (0 ≤ x4 →
  vc_rowsOf cA a3 u1z u1p (fun r8 u7z u7p =>
  ∃ a9, r8 = some a9 ∧
  ∃ (qri11 : Nat → Nat) (nri11 : Nat) (rri11 : kr_S) (Pai11 Pbi11 : va_W), u7p = Pai11 ++ (kr_w cA a9 qri11 nri11 rri11 ++ Pbi11) ∧ ∃ oi11, fr_heapsWith nri11 x1 rri11 = some oi11 ∧
  (x4 < (oi11.1) →
  ∀ q12, (∀ x ∈ (Pai11 ++ (kr_w cA a9 qri11 nri11 oi11.2 ++ Pbi11)), x.1 ≠ q12) →
  ∃ (qri14 : Nat → Nat) (nri14 : Nat) (rri14 : kr_S) (Pai14 Pbi14 : va_W), (Pai11 ++ (kr_w cA a9 qri11 nri11 oi11.2 ++ Pbi11)) = Pai14 ++ (kr_w cA a9 qri14 nri14 rri14 ++ Pbi14) ∧ ∃ oi14, fr_cubesOf nri14 x1 x4 rri14 = some oi14 ∧
  vc_put cA (some q12) x5 u7z ((Pai14 ++ (kr_w cA a9 qri14 nri14 oi14.2 ++ Pbi14)) ++ [((q12, .inr (1, [.ref a3, .long (oi14.1)])) : Nat × va_E)]) (fun r16 u15z u15p =>
  K r16 u15z u15p)) ∧ (¬ x4 < (oi11.1) →
  K ((-1000001) : Int32) u7z (Pai11 ++ (kr_w cA a9 qri11 nri11 oi11.2 ++ Pbi11))))) ∧ (¬ 0 ≤ x4 →
  K ((-1000001) : Int32) u1z u1p))))
set_option maxRecDepth 20000 in
set_option maxHeartbeats 1000000 in
theorem ec_take {p : Program} {l : Launch} {e : Env} {s : State} {m : MethodId} {args : Array Value} {below : List Frame} {meth : Method} {c : Code} {A : Nat → Prop} {D : va_G} {cA : Nat → ClassId} {h0 : Nat} {q : Nat → Nat} {P : va_W} {z : kx_S} {x1 : Int32} {x2 : Int32} {x3 : Int32} {x4 : Int32} {x5 : Int32} {K : Int32 → kx_S → va_W → Prop} (F : kj_Fx p s m args meth c cX7_take 8 wsX7_take RX7 (some .int) D (kx_T cA) A) (hN : kn_N s) (h : vc_take cA x1 x2 x3 x4 x5 z P K) : kj_J p l e rm_X7_take s m args below meth c 0 0 (MQ below (kn_Qi D (kx_T cA) A (kx_V cA h0 q) (fun r u => K r u.1 u.2)) args s 13 577 A) 8 D A (kx_W cA h0 q P z) 0 [(0, .ref h0), (1, .int x1), (2, .int x2), (3, .int x3), (4, .int x4), (5, .int x5)] [] := by
  unfold vc_take at h
  refine kj_iload_n F dX7_take_0 1 rfl rfl ?_
  refine kj_iload_n F dX7_take_1 2 rfl rfl ?_
  refine kj_iload_n F dX7_take_2 3 rfl rfl ?_
  refine kn_cSq (As := [.int x1, .int x2, .int x3]) (rest := []) F hN dX7_take_3 (dx_of h) (va_cwS 3 F.2.2.2.2.1 gX7_take_X0_of rfl rfl rfl (by decide +kernel) ⟨Nat.le_of_ble_eq_true rfl, Nat.le_of_ble_eq_true rfl⟩) rfl rfl (Nat.le_of_ble_eq_true rfl) ⟨(by exact Nat.le_of_ble_eq_true rfl), (by exact Nat.le_of_ble_eq_true rfl)⟩ (fun r2 u1 h => ?_)
  refine kj_cast (ww' := kx_W cA h0 q u1.2 u1.1) rfl ?_
  refine kn_widen (k := 1) (n := 3) (Nat.le_of_ble_eq_true rfl) (Nat.le_of_ble_eq_true rfl) ?_
  refine kj_astoreq (i := 6) (v := r2) F dX7_take_6 (lv' := [(6, va_rf r2), (0, .ref h0), (1, .int x1), (2, .int x2), (3, .int x3), (4, .int x4), (5, .int x5)]) (by decide) rfl ?_
  refine kj_aloadq F dX7_take_8 0 rfl ?_
  refine kj_ifnull F dX7_take_10 (tgt := 26) (by decide) (fun e4 => ?_) (fun a3 e4 => ?_)
  · replace h := h.1 e4
    refine kj_ldc F dX7_take_26 (v := (-1000001)) (by decide +kernel) ?_
    exact kn_iret (z := (((u1.1), (u1.2)) : kx_S × va_W)) F dX7_take_28 (Nat.le_of_ble_eq_true rfl) (Nat.le_of_ble_eq_true rfl) h
  · replace h := h.2 a3 e4
    refine kj_iload F dX7_take_13 6 rfl ?_
    obtain ⟨o5, h6, h⟩ := h
    refine kj_cSip (w := (kx_W cA h0 q (u1.2))) (As := [.int x5]) (rest := []) F dX7_take_15 (kw_h h6) (fun o h1 => cc_isPlace (w := (kx_W cA h0 q (u1.2))) h1) (va_cwS 1 F.2.2.2.2.1 gX7_take_X7_isPlace rfl rfl rfl (by decide +kernel) ⟨Nat.le_of_ble_eq_true rfl, Nat.le_of_ble_eq_true rfl⟩) rfl rfl (Nat.le_of_ble_eq_true rfl) ⟨(by exact Nat.le_of_ble_eq_true rfl), (by exact Nat.le_of_ble_eq_true rfl)⟩ (kw_e ?_)
    refine kw_if_eq F dX7_take_18 (tgt := 26) (by decide) (fun hc => ?_) (fun hc => ?_)
    · replace h := h.1 hc
      refine kj_ldc F dX7_take_26 (v := (-1000001)) (by decide +kernel) ?_
      exact kn_iret (z := (((u1.1), (u1.2)) : kx_S × va_W)) F dX7_take_28 (Nat.le_of_ble_eq_true rfl) (Nat.le_of_ble_eq_true rfl) h
    · replace h := h.2 hc
      refine kj_iload F dX7_take_21 5 rfl ?_
      refine kw_if_ge F dX7_take_23 (tgt := 29) (by decide) (fun hc => ?_) (fun hc => ?_)
      · replace h := h.1 hc
        refine kj_aload_n F dX7_take_29 1 rfl rfl ?_
        refine kj_aloadq F dX7_take_30 0 rfl ?_
        refine kj_deref e4 ?_
        refine kn_cVq (As := [.ref a3]) (rest := []) F hN dX7_take_32 (dc_rowsOf h) (cwV 1 F.2.2.2.2.1 gX7_take_X7_rowsOf rfl rfl rfl (by decide +kernel) ⟨Nat.le_of_ble_eq_true rfl, Nat.le_of_ble_eq_true rfl⟩) 0 rfl rfl rfl rfl rfl (Nat.le_of_ble_eq_true rfl) ⟨(by exact Nat.le_of_ble_eq_true rfl), (by exact Nat.le_of_ble_eq_true rfl)⟩ (fun r8 u7 h => ?_)
        refine kj_cast (ww' := kx_W cA h0 q u7.2 u7.1) rfl ?_
        refine kn_widen (k := 12) (n := 575) (Nat.le_of_ble_eq_true rfl) (Nat.le_of_ble_eq_true rfl) ?_
        refine kj_astoreq (i := 7) (v := r8) F dX7_take_35 (lv' := [(7, va_rf r8), (6, va_rf r2), (0, .ref h0), (1, .int x1), (2, .int x2), (3, .int x3), (4, .int x4), (5, .int x5)]) (by decide) (by simp [kj_cat]) ?_
        refine kj_iload F dX7_take_37 6 rfl ?_
        refine kj_aloadq F dX7_take_39 0 rfl ?_
        refine kj_iload_n F dX7_take_41 3 rfl rfl ?_
        obtain ⟨a9, e10, h⟩ := h
        refine kj_steq (st' := [.int x1, .ref a9, .int x4]) (by rw [e10]; rfl) ?_
        obtain ⟨qri11, nri11, rri11, Pai11, Pbi11, hpi11, oi11, h1i11, h⟩ := h
        refine kj_cast (ww' := (kr_W cA a9 qri11 nri11 (kx_w cA h0 q (u7.1) ++ Pai11) Pbi11) rri11) (by rw [hpi11]; simp [kx_W, kr_W]) ?_
        refine kj_cVi (w := (kr_W cA a9 qri11 nri11 (kx_w cA h0 q (u7.1) ++ Pai11) Pbi11)) (As := [.int x1]) (rest := [.int x4]) F dX7_take_42 (kw_h h1i11) (fun o h1 => cr_heapsWith h1) (cwV 1 F.2.2.2.2.1 gX7_take_X4_heapsWith rfl rfl rfl (by decide +kernel) ⟨Nat.le_of_ble_eq_true rfl, Nat.le_of_ble_eq_true rfl⟩) _ (kr_pos (j := 0) rfl) rfl rfl rfl rfl (Nat.le_of_ble_eq_true rfl) ⟨(by exact Nat.le_of_ble_eq_true rfl), (by exact Nat.le_of_ble_eq_true rfl)⟩ (kw_e ?_)
        refine kj_cast (ww' := (kx_W cA h0 q (Pai11 ++ (kr_w cA a9 qri11 nri11 oi11.2 ++ Pbi11)) (u7.1))) (by simp [kx_W, kr_W]) ?_
        refine kw_icmp_lt F dX7_take_45 (tgt := 51) (by decide) (fun hc => ?_) (fun hc => ?_)
        · replace h := h.1 hc
          refine kj_aload_n F dX7_take_51 2 rfl rfl ?_
          refine kn_new (fs := [.null, .long 0]) F dX7_take_52 in_X7_take_X1 tyX1 tyX1_ok (by decide +kernel) (by decide +kernel) (by decide +kernel) (ci := 1) rfl (fun j hj => by rcases (show j = 0 ∨ j = 1 by omega) with rfl | rfl <;> rfl) (Nat.le_of_ble_eq_true rfl) (Nat.le_of_ble_eq_true rfl) (fun q12 hq13 => ?_)
          replace h := h q12 (fun x hx => hq13 x (kx_inP hx))
          refine kj_cast (ww' := (kx_W cA h0 q ((Pai11 ++ (kr_w cA a9 qri11 nri11 oi11.2 ++ Pbi11)) ++ [((q12, .inr (1, [.null, .long 0])) : Nat × va_E)]) (u7.1))) (by simp [kx_W]) ?_
          refine kj_dup F dX7_take_55 rfl ?_
          refine kj_aloadq F dX7_take_56 1 rfl ?_
          refine kj_deref e4 ?_
          refine kj_aloadq F dX7_take_58 0 rfl ?_
          refine kj_deref e10 ?_
          refine kj_iload_n F dX7_take_60 3 rfl rfl ?_
          refine kj_iload F dX7_take_61 6 rfl ?_
          obtain ⟨qri14, nri14, rri14, Pai14, Pbi14, hpi14, oi14, h1i14, h⟩ := h
          refine kj_cast (ww' := (kr_W cA a9 qri14 nri14 (kx_w cA h0 q (u7.1) ++ Pai14) (Pbi14 ++ [((q12, .inr (1, [.null, .long 0])) : Nat × va_E)])) rri14) (by rw [hpi14]; simp [kx_W, kr_W]) ?_
          refine kj_cVl (w := (kr_W cA a9 qri14 nri14 (kx_w cA h0 q (u7.1) ++ Pai14) (Pbi14 ++ [((q12, .inr (1, [.null, .long 0])) : Nat × va_E)]))) (As := [.int x1, .int x4]) (rest := [.ref a3, .ref q12, .ref q12, .ref h0]) F dX7_take_63 (kw_h h1i14) (fun o h1 => cr_cubesOf h1) (cwV 2 F.2.2.2.2.1 gX7_take_X4_cubesOf rfl rfl rfl (by decide +kernel) ⟨Nat.le_of_ble_eq_true rfl, Nat.le_of_ble_eq_true rfl⟩) _ (kr_pos (j := 0) rfl) rfl rfl rfl rfl (Nat.le_of_ble_eq_true rfl) ⟨(by exact Nat.le_of_ble_eq_true rfl), (by exact Nat.le_of_ble_eq_true rfl)⟩ (kw_e ?_)
          refine kj_cast (ww' := (kx_W cA h0 q ((Pai14 ++ (kr_w cA a9 qri14 nri14 oi14.2 ++ Pbi14)) ++ [((q12, .inr (1, [.null, .long 0])) : Nat × va_E)]) (u7.1))) (by simp [kx_W, kr_W]) ?_
          refine kj_cast (ww' := (fun (v : Value × Int64) => kx_W cA h0 q ((Pai14 ++ (kr_w cA a9 qri14 nri14 oi14.2 ++ Pbi14)) ++ (([] : va_W) ++ (fun (v : Value × Int64) => ((q12, .inr (1, [v.1, .long v.2])) : Nat × va_E)) v :: [])) (u7.1)) (.null, 0)) rfl ?_
          refine kj_cIv (w := (fun (v : Value × Int64) => kx_W cA h0 q ((Pai14 ++ (kr_w cA a9 qri14 nri14 oi14.2 ++ Pbi14)) ++ (([] : va_W) ++ (fun (v : Value × Int64) => ((q12, .inr (1, [v.1, .long v.2])) : Nat × va_E)) v :: [])) (u7.1))) (z := (.null, 0)) (o := (.ref a3, (oi14.1))) (As := [.ref a3, .long (oi14.1)]) (rest := [.ref q12, .ref h0]) F dX7_take_66 (ch_init (kx_lensP cA h0 q (u7.1) (Pai14 ++ (kr_w cA a9 qri14 nri14 oi14.2 ++ Pbi14)) [] [] (fun (v : Value × Int64) => ((q12, .inr (1, [v.1, .long v.2])) : Nat × va_E))).1 (kx_lensP cA h0 q (u7.1) (Pai14 ++ (kr_w cA a9 qri14 nri14 oi14.2 ++ Pbi14)) [] [] (fun (v : Value × Int64) => ((q12, .inr (1, [v.1, .long v.2])) : Nat × va_E))).2) (cwI 2 F.2.2.2.2.1 gX7_take_X1_init rfl rfl rfl (F.2.2.2.2.1 _ (by decide +kernel)) (F.2.2.2.2.1 _ (by decide +kernel)) (F.2.2.2.2.1 _ (by decide +kernel)) rfl (by decide +kernel) ⟨Nat.le_of_ble_eq_true rfl, Nat.le_of_ble_eq_true rfl⟩) rfl rfl (Nat.le_of_ble_eq_true rfl) ⟨(by exact Nat.le_of_ble_eq_true rfl), (by exact Nat.le_of_ble_eq_true rfl)⟩ ?_
          refine kj_cast (ww' := (kx_W cA h0 q ((Pai14 ++ (kr_w cA a9 qri14 nri14 oi14.2 ++ Pbi14)) ++ [((q12, .inr (1, [.ref a3, .long (oi14.1)])) : Nat × va_E)]) (u7.1))) rfl ?_
          refine kj_iload F dX7_take_69 7 rfl ?_
          refine kn_cVi (As := [.ref q12, .int x5]) (rest := []) F hN dX7_take_71 (dc_put h) (cwV 2 F.2.2.2.2.1 gX7_take_X7_put rfl rfl rfl (by decide +kernel) ⟨Nat.le_of_ble_eq_true rfl, Nat.le_of_ble_eq_true rfl⟩) 0 rfl rfl rfl rfl rfl (Nat.le_of_ble_eq_true rfl) ⟨(by exact Nat.le_of_ble_eq_true rfl), (by exact Nat.le_of_ble_eq_true rfl)⟩ (fun r16 u15 h => ?_)
          refine kj_cast (ww' := kx_W cA h0 q u15.2 u15.1) rfl ?_
          refine kn_widen (k := 13) (n := 577) (Nat.le_of_ble_eq_true rfl) (Nat.le_of_ble_eq_true rfl) ?_
          exact kn_iret (z := (((u15.1), (u15.2)) : kx_S × va_W)) F dX7_take_74 (Nat.le_of_ble_eq_true rfl) (Nat.le_of_ble_eq_true rfl) h
        · replace h := h.2 hc
          refine kj_ldc F dX7_take_48 (v := (-1000001)) (by decide +kernel) ?_
          exact kn_iret (z := (((u7.1), (Pai11 ++ (kr_w cA a9 qri11 nri11 oi11.2 ++ Pbi11))) : kx_S × va_W)) F dX7_take_50 (Nat.le_of_ble_eq_true rfl) (Nat.le_of_ble_eq_true rfl) h
      · replace h := h.2 hc
        refine kj_ldc F dX7_take_26 (v := (-1000001)) (by decide +kernel) ?_
        exact kn_iret (z := (((u1.1), (u1.2)) : kx_S × va_W)) F dX7_take_28 (Nat.le_of_ble_eq_true rfl) (Nat.le_of_ble_eq_true rfl) h
theorem dc_take {l : Launch} {D : va_G} {cA : Nat → ClassId} {h0 : Nat} {q : Nat → Nat} {P : va_W} {z : kx_S} {x1 : Int32} {x2 : Int32} {x3 : Int32} {x4 : Int32} {x5 : Int32} {K : Int32 → kx_S → va_W → Prop} (h : vc_take cA x1 x2 x3 x4 x5 z P K) : kn_Mi l yX7_take wsX7_take rm_X7_take D (kx_T cA) (kx_V cA h0 q) (kx_W cA h0 q P z) [.ref h0, .int x1, .int x2, .int x3, .int x4, .int x5] (fun r u => K r u.1 u.2) :=
  fun sz => kn_start (by decide) rfl (Nat.le_of_ble_eq_true rfl) rfl fun p e s m args below meth c hsz F hN _ => ec_take F hN h
/-! X7_drawn -/
abbrev rm_X7_drawn : Room := { frames := 5, cells := 13, slots := 577, locals := 125 }
theorem in_X7_drawn_X1 : ∀ w ∈ u_ws RX1 TX1 2, w ∈ wsX7_drawn := by decide +kernel
def vc_drawn (cA : Nat → ClassId) (x1 : Int32) (x2 : Int32) (x3 : Int32) (x4 : Int32) (x5 : Int32) (z : kx_S) (P : va_W) (K : Int32 → kx_S → va_W → Prop) : Prop :=
  vx_of cA x1 x2 x3 z P (fun r2 u1z u1p =>
  (r2 = none →
  K ((-1000001) : Int32) u1z u1p) ∧ (∀ a3, r2 = some a3 →
  (x4 < (1 : Int32) →
  K ((-1000001) : Int32) u1z u1p) ∧ (¬ x4 < (1 : Int32) →
  (((999999) : Int32) < x4 →
  K ((-1000001) : Int32) u1z u1p) ∧ (¬ ((999999) : Int32) < x4 →
  ∃ o5, fc_isPlace x5 = some o5 ∧
  (o5 = 0 →
  K ((-1000001) : Int32) u1z u1p) ∧ (¬ o5 = 0 →
  vc_rowsOf cA a3 u1z u1p (fun r8 u7z u7p =>
  ∃ a9, r8 = some a9 ∧
  ∃ (qri11 : Nat → Nat) (nri11 : Nat) (rri11 : kr_S) (Pai11 Pbi11 : va_W), u7p = Pai11 ++ (kr_w cA a9 qri11 nri11 rri11 ++ Pbi11) ∧ ∃ oi11, fr_heapsWith nri11 x1 rri11 = some oi11 ∧
  (¬ ((2147483647) : Int64) = 0) ∧
  (¬ ((if (1 : Int32) < (oi11.1) then (oi11.1) else (1 : Int32))).toInt64 = 0) ∧
  ∀ q12, (∀ x ∈ (Pai11 ++ (kr_w cA a9 qri11 nri11 oi11.2 ++ Pbi11)), x.1 ≠ q12) →
  ∃ (qri14 : Nat → Nat) (nri14 : Nat) (rri14 : kr_S) (Pai14 Pbi14 : va_W), (Pai11 ++ (kr_w cA a9 qri11 nri11 oi11.2 ++ Pbi11)) = Pai14 ++ (kr_w cA a9 qri14 nri14 rri14 ++ Pbi14) ∧ ∃ oi14, fr_cubesOf nri14 x1 (((((x4).toInt64 * ((16807) : Int64)) - ((x4).toInt64 * ((16807) : Int64)) / ((2147483647) : Int64) * ((2147483647) : Int64)) - (((x4).toInt64 * ((16807) : Int64)) - ((x4).toInt64 * ((16807) : Int64)) / ((2147483647) : Int64) * ((2147483647) : Int64)) / ((if (1 : Int32) < (oi11.1) then (oi11.1) else (1 : Int32))).toInt64 * ((if (1 : Int32) < (oi11.1) then (oi11.1) else (1 : Int32))).toInt64)).toInt32 rri14 = some oi14 ∧
  vc_put cA (some q12) x5 u7z ((Pai14 ++ (kr_w cA a9 qri14 nri14 oi14.2 ++ Pbi14)) ++ [((q12, .inr (1, [.ref a3, .long (oi14.1)])) : Nat × va_E)]) (fun r16 u15z u15p =>
  K (((((x4).toInt64 * ((16807) : Int64)) - ((x4).toInt64 * ((16807) : Int64)) / ((2147483647) : Int64) * ((2147483647) : Int64)) - (((x4).toInt64 * ((16807) : Int64)) - ((x4).toInt64 * ((16807) : Int64)) / ((2147483647) : Int64) * ((2147483647) : Int64)) / ((if (1 : Int32) < (oi11.1) then (oi11.1) else (1 : Int32))).toInt64 * ((if (1 : Int32) < (oi11.1) then (oi11.1) else (1 : Int32))).toInt64)).toInt32 u15z u15p)))))))
set_option maxRecDepth 20000 in
set_option maxHeartbeats 1000000 in
theorem ec_drawn {p : Program} {l : Launch} {e : Env} {s : State} {m : MethodId} {args : Array Value} {below : List Frame} {meth : Method} {c : Code} {A : Nat → Prop} {D : va_G} {cA : Nat → ClassId} {h0 : Nat} {q : Nat → Nat} {P : va_W} {z : kx_S} {x1 : Int32} {x2 : Int32} {x3 : Int32} {x4 : Int32} {x5 : Int32} {K : Int32 → kx_S → va_W → Prop} (F : kj_Fx p s m args meth c cX7_drawn 10 wsX7_drawn RX7 (some .int) D (kx_T cA) A) (hN : kn_N s) (h : vc_drawn cA x1 x2 x3 x4 x5 z P K) : kj_J p l e rm_X7_drawn s m args below meth c 0 0 (MQ below (kn_Qi D (kx_T cA) A (kx_V cA h0 q) (fun r u => K r u.1 u.2)) args s 13 577 A) 10 D A (kx_W cA h0 q P z) 0 [(0, .ref h0), (1, .int x1), (2, .int x2), (3, .int x3), (4, .int x4), (5, .int x5)] [] := by
  unfold vc_drawn at h
  refine kj_iload_n F dX7_drawn_0 1 rfl rfl ?_
  refine kj_iload_n F dX7_drawn_1 2 rfl rfl ?_
  refine kj_iload_n F dX7_drawn_2 3 rfl rfl ?_
  refine kn_cSq (As := [.int x1, .int x2, .int x3]) (rest := []) F hN dX7_drawn_3 (dx_of h) (va_cwS 3 F.2.2.2.2.1 gX7_drawn_X0_of rfl rfl rfl (by decide +kernel) ⟨Nat.le_of_ble_eq_true rfl, Nat.le_of_ble_eq_true rfl⟩) rfl rfl (Nat.le_of_ble_eq_true rfl) ⟨(by exact Nat.le_of_ble_eq_true rfl), (by exact Nat.le_of_ble_eq_true rfl)⟩ (fun r2 u1 h => ?_)
  refine kj_cast (ww' := kx_W cA h0 q u1.2 u1.1) rfl ?_
  refine kn_widen (k := 1) (n := 3) (Nat.le_of_ble_eq_true rfl) (Nat.le_of_ble_eq_true rfl) ?_
  refine kj_astoreq (i := 6) (v := r2) F dX7_drawn_6 (lv' := [(6, va_rf r2), (0, .ref h0), (1, .int x1), (2, .int x2), (3, .int x3), (4, .int x4), (5, .int x5)]) (by decide) rfl ?_
  refine kj_aloadq F dX7_drawn_8 0 rfl ?_
  refine kj_ifnull F dX7_drawn_10 (tgt := 34) (by decide) (fun e4 => ?_) (fun a3 e4 => ?_)
  · replace h := h.1 e4
    refine kj_ldc F dX7_drawn_34 (v := (-1000001)) (by decide +kernel) ?_
    exact kn_iret (z := (((u1.1), (u1.2)) : kx_S × va_W)) F dX7_drawn_36 (Nat.le_of_ble_eq_true rfl) (Nat.le_of_ble_eq_true rfl) h
  · replace h := h.2 a3 e4
    refine kj_iload F dX7_drawn_13 5 rfl ?_
    refine kj_iconst F dX7_drawn_15 (v := 1) (by decide) ?_
    refine kw_icmp_lt F dX7_drawn_16 (tgt := 34) (by decide) (fun hc => ?_) (fun hc => ?_)
    · replace h := h.1 hc
      refine kj_ldc F dX7_drawn_34 (v := (-1000001)) (by decide +kernel) ?_
      exact kn_iret (z := (((u1.1), (u1.2)) : kx_S × va_W)) F dX7_drawn_36 (Nat.le_of_ble_eq_true rfl) (Nat.le_of_ble_eq_true rfl) h
    · replace h := h.2 hc
      refine kj_iload F dX7_drawn_19 5 rfl ?_
      refine kj_ldc F dX7_drawn_21 (v := (999999)) (by decide +kernel) ?_
      refine kw_icmp_gt F dX7_drawn_23 (tgt := 34) (by decide) (fun hc => ?_) (fun hc => ?_)
      · replace h := h.1 hc
        refine kj_ldc F dX7_drawn_34 (v := (-1000001)) (by decide +kernel) ?_
        exact kn_iret (z := (((u1.1), (u1.2)) : kx_S × va_W)) F dX7_drawn_36 (Nat.le_of_ble_eq_true rfl) (Nat.le_of_ble_eq_true rfl) h
      · replace h := h.2 hc
        refine kj_iload F dX7_drawn_26 6 rfl ?_
        obtain ⟨o5, h6, h⟩ := h
        refine kj_cSip (w := (kx_W cA h0 q (u1.2))) (As := [.int x5]) (rest := []) F dX7_drawn_28 (kw_h h6) (fun o h1 => cc_isPlace (w := (kx_W cA h0 q (u1.2))) h1) (va_cwS 1 F.2.2.2.2.1 gX7_drawn_X7_isPlace rfl rfl rfl (by decide +kernel) ⟨Nat.le_of_ble_eq_true rfl, Nat.le_of_ble_eq_true rfl⟩) rfl rfl (Nat.le_of_ble_eq_true rfl) ⟨(by exact Nat.le_of_ble_eq_true rfl), (by exact Nat.le_of_ble_eq_true rfl)⟩ (kw_e ?_)
        refine kw_if_ne F dX7_drawn_31 (tgt := 37) (by decide) (fun hc => ?_) (fun hc => ?_)
        · replace h := h.1 hc
          refine kj_ldc F dX7_drawn_34 (v := (-1000001)) (by decide +kernel) ?_
          exact kn_iret (z := (((u1.1), (u1.2)) : kx_S × va_W)) F dX7_drawn_36 (Nat.le_of_ble_eq_true rfl) (Nat.le_of_ble_eq_true rfl) h
        · replace h := h.2 hc
          refine kj_aload_n F dX7_drawn_37 1 rfl rfl ?_
          refine kj_aloadq F dX7_drawn_38 0 rfl ?_
          refine kj_deref e4 ?_
          refine kn_cVq (As := [.ref a3]) (rest := []) F hN dX7_drawn_40 (dc_rowsOf h) (cwV 1 F.2.2.2.2.1 gX7_drawn_X7_rowsOf rfl rfl rfl (by decide +kernel) ⟨Nat.le_of_ble_eq_true rfl, Nat.le_of_ble_eq_true rfl⟩) 0 rfl rfl rfl rfl rfl (Nat.le_of_ble_eq_true rfl) ⟨(by exact Nat.le_of_ble_eq_true rfl), (by exact Nat.le_of_ble_eq_true rfl)⟩ (fun r8 u7 h => ?_)
          refine kj_cast (ww' := kx_W cA h0 q u7.2 u7.1) rfl ?_
          refine kn_widen (k := 12) (n := 575) (Nat.le_of_ble_eq_true rfl) (Nat.le_of_ble_eq_true rfl) ?_
          refine kj_astoreq (i := 7) (v := r8) F dX7_drawn_43 (lv' := [(7, va_rf r8), (6, va_rf r2), (0, .ref h0), (1, .int x1), (2, .int x2), (3, .int x3), (4, .int x4), (5, .int x5)]) (by decide) (by simp [kj_cat]) ?_
          refine kj_iconst F dX7_drawn_45 (v := 1) (by decide) ?_
          refine kj_aloadq F dX7_drawn_46 0 rfl ?_
          refine kj_iload_n F dX7_drawn_48 3 rfl rfl ?_
          obtain ⟨a9, e10, h⟩ := h
          refine kj_steq (st' := [.int x1, .ref a9, .int (1 : Int32)]) (by rw [e10]; rfl) ?_
          obtain ⟨qri11, nri11, rri11, Pai11, Pbi11, hpi11, oi11, h1i11, h⟩ := h
          refine kj_cast (ww' := (kr_W cA a9 qri11 nri11 (kx_w cA h0 q (u7.1) ++ Pai11) Pbi11) rri11) (by rw [hpi11]; simp [kx_W, kr_W]) ?_
          refine kj_cVi (w := (kr_W cA a9 qri11 nri11 (kx_w cA h0 q (u7.1) ++ Pai11) Pbi11)) (As := [.int x1]) (rest := [.int (1 : Int32)]) F dX7_drawn_49 (kw_h h1i11) (fun o h1 => cr_heapsWith h1) (cwV 1 F.2.2.2.2.1 gX7_drawn_X4_heapsWith rfl rfl rfl (by decide +kernel) ⟨Nat.le_of_ble_eq_true rfl, Nat.le_of_ble_eq_true rfl⟩) _ (kr_pos (j := 0) rfl) rfl rfl rfl rfl (Nat.le_of_ble_eq_true rfl) ⟨(by exact Nat.le_of_ble_eq_true rfl), (by exact Nat.le_of_ble_eq_true rfl)⟩ (kw_e ?_)
          refine kj_cast (ww' := (kx_W cA h0 q (Pai11 ++ (kr_w cA a9 qri11 nri11 oi11.2 ++ Pbi11)) (u7.1))) (by simp [kx_W, kr_W]) ?_
          refine kj_mmax F dX7_drawn_52 (by decide +kernel) (by decide +kernel) (by decide +kernel) (by decide +kernel) (Nat.le_of_ble_eq_true rfl) (Nat.le_of_ble_eq_true rfl) ⟨(by exact Nat.le_of_ble_eq_true rfl), (by exact Nat.le_of_ble_eq_true rfl)⟩ ?_
          refine kj_istore (i := 8) F dX7_drawn_55 (lv' := [(8, .int (if (1 : Int32) < (oi11.1) then (oi11.1) else (1 : Int32))), (7, va_rf r8), (6, va_rf r2), (0, .ref h0), (1, .int x1), (2, .int x2), (3, .int x3), (4, .int x4), (5, .int x5)]) (by decide) (by simp [kj_cat]) ?_
          refine kj_iload F dX7_drawn_57 7 rfl ?_
          refine kj_i2l F dX7_drawn_59 ?_
          refine kj_ldc2 F dX7_drawn_60 (v := (16807)) (by decide +kernel) ?_
          refine kj_lmul F dX7_drawn_63 ?_
          refine kj_ldc2 F dX7_drawn_64 (v := (2147483647)) (by decide +kernel) ?_
          obtain ⟨hz18, h⟩ := h
          refine kj_lremK F dX7_drawn_67 hz18 ?_
          refine kj_iload F dX7_drawn_68 0 rfl ?_
          refine kj_i2l F dX7_drawn_70 ?_
          obtain ⟨hz17, h⟩ := h
          refine kj_lremK F dX7_drawn_71 hz17 ?_
          refine kj_l2i F dX7_drawn_72 ?_
          refine kj_istore F dX7_drawn_73 (lv' := [(9, .int (((((x4).toInt64 * ((16807) : Int64)) - ((x4).toInt64 * ((16807) : Int64)) / ((2147483647) : Int64) * ((2147483647) : Int64)) - (((x4).toInt64 * ((16807) : Int64)) - ((x4).toInt64 * ((16807) : Int64)) / ((2147483647) : Int64) * ((2147483647) : Int64)) / ((if (1 : Int32) < (oi11.1) then (oi11.1) else (1 : Int32))).toInt64 * ((if (1 : Int32) < (oi11.1) then (oi11.1) else (1 : Int32))).toInt64)).toInt32), (8, .int (if (1 : Int32) < (oi11.1) then (oi11.1) else (1 : Int32))), (7, va_rf r8), (6, va_rf r2), (0, .ref h0), (1, .int x1), (2, .int x2), (3, .int x3), (4, .int x4), (5, .int x5)]) (by decide) rfl ?_
          refine kj_aload_n F dX7_drawn_75 4 rfl rfl ?_
          refine kn_new (fs := [.null, .long 0]) F dX7_drawn_76 in_X7_drawn_X1 tyX1 tyX1_ok (by decide +kernel) (by decide +kernel) (by decide +kernel) (ci := 1) rfl (fun j hj => by rcases (show j = 0 ∨ j = 1 by omega) with rfl | rfl <;> rfl) (Nat.le_of_ble_eq_true rfl) (Nat.le_of_ble_eq_true rfl) (fun q12 hq13 => ?_)
          replace h := h q12 (fun x hx => hq13 x (kx_inP hx))
          refine kj_cast (ww' := (kx_W cA h0 q ((Pai11 ++ (kr_w cA a9 qri11 nri11 oi11.2 ++ Pbi11)) ++ [((q12, .inr (1, [.null, .long 0])) : Nat × va_E)]) (u7.1))) (by simp [kx_W]) ?_
          refine kj_dup F dX7_drawn_79 rfl ?_
          refine kj_aloadq F dX7_drawn_80 3 rfl ?_
          refine kj_deref e4 ?_
          refine kj_aloadq F dX7_drawn_82 2 rfl ?_
          refine kj_deref e10 ?_
          refine kj_iload_n F dX7_drawn_84 5 rfl rfl ?_
          refine kj_iload F dX7_drawn_85 0 rfl ?_
          obtain ⟨qri14, nri14, rri14, Pai14, Pbi14, hpi14, oi14, h1i14, h⟩ := h
          refine kj_cast (ww' := (kr_W cA a9 qri14 nri14 (kx_w cA h0 q (u7.1) ++ Pai14) (Pbi14 ++ [((q12, .inr (1, [.null, .long 0])) : Nat × va_E)])) rri14) (by rw [hpi14]; simp [kx_W, kr_W]) ?_
          refine kj_cVl (w := (kr_W cA a9 qri14 nri14 (kx_w cA h0 q (u7.1) ++ Pai14) (Pbi14 ++ [((q12, .inr (1, [.null, .long 0])) : Nat × va_E)]))) (As := [.int x1, .int (((((x4).toInt64 * ((16807) : Int64)) - ((x4).toInt64 * ((16807) : Int64)) / ((2147483647) : Int64) * ((2147483647) : Int64)) - (((x4).toInt64 * ((16807) : Int64)) - ((x4).toInt64 * ((16807) : Int64)) / ((2147483647) : Int64) * ((2147483647) : Int64)) / ((if (1 : Int32) < (oi11.1) then (oi11.1) else (1 : Int32))).toInt64 * ((if (1 : Int32) < (oi11.1) then (oi11.1) else (1 : Int32))).toInt64)).toInt32]) (rest := [.ref a3, .ref q12, .ref q12, .ref h0]) F dX7_drawn_87 (kw_h h1i14) (fun o h1 => cr_cubesOf h1) (cwV 2 F.2.2.2.2.1 gX7_drawn_X4_cubesOf rfl rfl rfl (by decide +kernel) ⟨Nat.le_of_ble_eq_true rfl, Nat.le_of_ble_eq_true rfl⟩) _ (kr_pos (j := 0) rfl) rfl rfl rfl rfl (Nat.le_of_ble_eq_true rfl) ⟨(by exact Nat.le_of_ble_eq_true rfl), (by exact Nat.le_of_ble_eq_true rfl)⟩ (kw_e ?_)
          refine kj_cast (ww' := (kx_W cA h0 q ((Pai14 ++ (kr_w cA a9 qri14 nri14 oi14.2 ++ Pbi14)) ++ [((q12, .inr (1, [.null, .long 0])) : Nat × va_E)]) (u7.1))) (by simp [kx_W, kr_W]) ?_
          refine kj_cast (ww' := (fun (v : Value × Int64) => kx_W cA h0 q ((Pai14 ++ (kr_w cA a9 qri14 nri14 oi14.2 ++ Pbi14)) ++ (([] : va_W) ++ (fun (v : Value × Int64) => ((q12, .inr (1, [v.1, .long v.2])) : Nat × va_E)) v :: [])) (u7.1)) (.null, 0)) rfl ?_
          refine kj_cIv (w := (fun (v : Value × Int64) => kx_W cA h0 q ((Pai14 ++ (kr_w cA a9 qri14 nri14 oi14.2 ++ Pbi14)) ++ (([] : va_W) ++ (fun (v : Value × Int64) => ((q12, .inr (1, [v.1, .long v.2])) : Nat × va_E)) v :: [])) (u7.1))) (z := (.null, 0)) (o := (.ref a3, (oi14.1))) (As := [.ref a3, .long (oi14.1)]) (rest := [.ref q12, .ref h0]) F dX7_drawn_90 (ch_init (kx_lensP cA h0 q (u7.1) (Pai14 ++ (kr_w cA a9 qri14 nri14 oi14.2 ++ Pbi14)) [] [] (fun (v : Value × Int64) => ((q12, .inr (1, [v.1, .long v.2])) : Nat × va_E))).1 (kx_lensP cA h0 q (u7.1) (Pai14 ++ (kr_w cA a9 qri14 nri14 oi14.2 ++ Pbi14)) [] [] (fun (v : Value × Int64) => ((q12, .inr (1, [v.1, .long v.2])) : Nat × va_E))).2) (cwI 2 F.2.2.2.2.1 gX7_drawn_X1_init rfl rfl rfl (F.2.2.2.2.1 _ (by decide +kernel)) (F.2.2.2.2.1 _ (by decide +kernel)) (F.2.2.2.2.1 _ (by decide +kernel)) rfl (by decide +kernel) ⟨Nat.le_of_ble_eq_true rfl, Nat.le_of_ble_eq_true rfl⟩) rfl rfl (Nat.le_of_ble_eq_true rfl) ⟨(by exact Nat.le_of_ble_eq_true rfl), (by exact Nat.le_of_ble_eq_true rfl)⟩ ?_
          refine kj_cast (ww' := (kx_W cA h0 q ((Pai14 ++ (kr_w cA a9 qri14 nri14 oi14.2 ++ Pbi14)) ++ [((q12, .inr (1, [.ref a3, .long (oi14.1)])) : Nat × va_E)]) (u7.1))) rfl ?_
          refine kj_iload F dX7_drawn_93 9 rfl ?_
          refine kn_cVi (As := [.ref q12, .int x5]) (rest := []) F hN dX7_drawn_95 (dc_put h) (cwV 2 F.2.2.2.2.1 gX7_drawn_X7_put rfl rfl rfl (by decide +kernel) ⟨Nat.le_of_ble_eq_true rfl, Nat.le_of_ble_eq_true rfl⟩) 0 rfl rfl rfl rfl rfl (Nat.le_of_ble_eq_true rfl) ⟨(by exact Nat.le_of_ble_eq_true rfl), (by exact Nat.le_of_ble_eq_true rfl)⟩ (fun r16 u15 h => ?_)
          refine kj_cast (ww' := kx_W cA h0 q u15.2 u15.1) rfl ?_
          refine kn_widen (k := 13) (n := 577) (Nat.le_of_ble_eq_true rfl) (Nat.le_of_ble_eq_true rfl) ?_
          refine kj_pop F dX7_drawn_98 rfl ?_
          refine kj_iload F dX7_drawn_99 0 rfl ?_
          exact kn_iret (z := (((u15.1), (u15.2)) : kx_S × va_W)) F dX7_drawn_101 (Nat.le_of_ble_eq_true rfl) (Nat.le_of_ble_eq_true rfl) h
theorem dc_drawn {l : Launch} {D : va_G} {cA : Nat → ClassId} {h0 : Nat} {q : Nat → Nat} {P : va_W} {z : kx_S} {x1 : Int32} {x2 : Int32} {x3 : Int32} {x4 : Int32} {x5 : Int32} {K : Int32 → kx_S → va_W → Prop} (h : vc_drawn cA x1 x2 x3 x4 x5 z P K) : kn_Mi l yX7_drawn wsX7_drawn rm_X7_drawn D (kx_T cA) (kx_V cA h0 q) (kx_W cA h0 q P z) [.ref h0, .int x1, .int x2, .int x3, .int x4, .int x5] (fun r u => K r u.1 u.2) :=
  fun sz => kn_start (by decide) rfl (Nat.le_of_ble_eq_true rfl) rfl fun p e s m args below meth c hsz F hN _ => ec_drawn F hN h
/-! X7_many -/
abbrev rm_X7_many : Room := { frames := 5, cells := 12, slots := 575, locals := 125 }
def vc_many (cA : Nat → ClassId) (x1 : Int32) (x2 : Int32) (x3 : Int32) (z : kx_S) (P : va_W) (K : Int32 → kx_S → va_W → Prop) : Prop :=
  vx_of cA x1 x2 x3 z P (fun r2 u1z u1p =>
  (r2 = none →
  K ((-1000001) : Int32) u1z u1p) ∧ (∀ a3, r2 = some a3 →
  vc_rowsOf cA a3 u1z u1p (fun r6 u5z u5p =>
  ∃ a7, r6 = some a7 ∧
  ∃ (qri9 : Nat → Nat) (nri9 : Nat) (rri9 : kr_S) (Pai9 Pbi9 : va_W), u5p = Pai9 ++ (kr_w cA a7 qri9 nri9 rri9 ++ Pbi9) ∧ ∃ oi9, fr_heapsWith nri9 x1 rri9 = some oi9 ∧
  K (oi9.1) u5z (Pai9 ++ (kr_w cA a7 qri9 nri9 oi9.2 ++ Pbi9)))))
set_option maxRecDepth 20000 in
set_option maxHeartbeats 1000000 in
theorem ec_many {p : Program} {l : Launch} {e : Env} {s : State} {m : MethodId} {args : Array Value} {below : List Frame} {meth : Method} {c : Code} {A : Nat → Prop} {D : va_G} {cA : Nat → ClassId} {h0 : Nat} {q : Nat → Nat} {P : va_W} {z : kx_S} {x1 : Int32} {x2 : Int32} {x3 : Int32} {K : Int32 → kx_S → va_W → Prop} (F : kj_Fx p s m args meth c cX7_many 5 wsX7_many RX7 (some .int) D (kx_T cA) A) (hN : kn_N s) (h : vc_many cA x1 x2 x3 z P K) : kj_J p l e rm_X7_many s m args below meth c 0 0 (MQ below (kn_Qi D (kx_T cA) A (kx_V cA h0 q) (fun r u => K r u.1 u.2)) args s 12 575 A) 5 D A (kx_W cA h0 q P z) 0 [(0, .ref h0), (1, .int x1), (2, .int x2), (3, .int x3)] [] := by
  unfold vc_many at h
  refine kj_iload_n F dX7_many_0 1 rfl rfl ?_
  refine kj_iload_n F dX7_many_1 2 rfl rfl ?_
  refine kj_iload_n F dX7_many_2 3 rfl rfl ?_
  refine kn_cSq (As := [.int x1, .int x2, .int x3]) (rest := []) F hN dX7_many_3 (dx_of h) (va_cwS 3 F.2.2.2.2.1 gX7_many_X0_of rfl rfl rfl (by decide +kernel) ⟨Nat.le_of_ble_eq_true rfl, Nat.le_of_ble_eq_true rfl⟩) rfl rfl (Nat.le_of_ble_eq_true rfl) ⟨(by exact Nat.le_of_ble_eq_true rfl), (by exact Nat.le_of_ble_eq_true rfl)⟩ (fun r2 u1 h => ?_)
  refine kj_cast (ww' := kx_W cA h0 q u1.2 u1.1) rfl ?_
  refine kn_widen (k := 1) (n := 3) (Nat.le_of_ble_eq_true rfl) (Nat.le_of_ble_eq_true rfl) ?_
  refine kj_astoreq (i := 4) (v := r2) F dX7_many_6 (lv' := [(4, va_rf r2), (0, .ref h0), (1, .int x1), (2, .int x2), (3, .int x3)]) (by decide) rfl ?_
  refine kj_aloadq F dX7_many_8 0 rfl ?_
  refine kj_ifnonnull F dX7_many_10 (tgt := 18) (by decide) (fun e4 => ?_) (fun a3 e4 => ?_)
  · replace h := h.1 e4
    refine kj_ldc F dX7_many_13 (v := (-1000001)) (by decide +kernel) ?_
    refine kj_goto F dX7_many_15 (tgt := 28) (by decide) ?_
    exact kn_iret (z := (((u1.1), (u1.2)) : kx_S × va_W)) F dX7_many_28 (Nat.le_of_ble_eq_true rfl) (Nat.le_of_ble_eq_true rfl) h
  · replace h := h.2 a3 e4
    refine kj_aload_n F dX7_many_18 1 rfl rfl ?_
    refine kj_aloadq F dX7_many_19 0 rfl ?_
    refine kj_deref e4 ?_
    refine kn_cVq (As := [.ref a3]) (rest := []) F hN dX7_many_21 (dc_rowsOf h) (cwV 1 F.2.2.2.2.1 gX7_many_X7_rowsOf rfl rfl rfl (by decide +kernel) ⟨Nat.le_of_ble_eq_true rfl, Nat.le_of_ble_eq_true rfl⟩) 0 rfl rfl rfl rfl rfl (Nat.le_of_ble_eq_true rfl) ⟨(by exact Nat.le_of_ble_eq_true rfl), (by exact Nat.le_of_ble_eq_true rfl)⟩ (fun r6 u5 h => ?_)
    refine kj_cast (ww' := kx_W cA h0 q u5.2 u5.1) rfl ?_
    refine kn_widen (k := 12) (n := 575) (Nat.le_of_ble_eq_true rfl) (Nat.le_of_ble_eq_true rfl) ?_
    refine kj_iload_n F dX7_many_24 2 rfl rfl ?_
    obtain ⟨a7, e8, h⟩ := h
    refine kj_steq (st' := [.int x1, .ref a7]) (by rw [e8]; rfl) ?_
    obtain ⟨qri9, nri9, rri9, Pai9, Pbi9, hpi9, oi9, h1i9, h⟩ := h
    refine kj_cast (ww' := (kr_W cA a7 qri9 nri9 (kx_w cA h0 q (u5.1) ++ Pai9) Pbi9) rri9) (by rw [hpi9]; simp [kx_W, kr_W]) ?_
    refine kj_cVi (w := (kr_W cA a7 qri9 nri9 (kx_w cA h0 q (u5.1) ++ Pai9) Pbi9)) (As := [.int x1]) (rest := []) F dX7_many_25 (kw_h h1i9) (fun o h1 => cr_heapsWith h1) (cwV 1 F.2.2.2.2.1 gX7_many_X4_heapsWith rfl rfl rfl (by decide +kernel) ⟨Nat.le_of_ble_eq_true rfl, Nat.le_of_ble_eq_true rfl⟩) _ (kr_pos (j := 0) rfl) rfl rfl rfl rfl (Nat.le_of_ble_eq_true rfl) ⟨(by exact Nat.le_of_ble_eq_true rfl), (by exact Nat.le_of_ble_eq_true rfl)⟩ (kw_e ?_)
    refine kj_cast (ww' := (kx_W cA h0 q (Pai9 ++ (kr_w cA a7 qri9 nri9 oi9.2 ++ Pbi9)) (u5.1))) (by simp [kx_W, kr_W]) ?_
    exact kn_iret (z := (((u5.1), (Pai9 ++ (kr_w cA a7 qri9 nri9 oi9.2 ++ Pbi9))) : kx_S × va_W)) F dX7_many_28 (Nat.le_of_ble_eq_true rfl) (Nat.le_of_ble_eq_true rfl) h
theorem dc_many {l : Launch} {D : va_G} {cA : Nat → ClassId} {h0 : Nat} {q : Nat → Nat} {P : va_W} {z : kx_S} {x1 : Int32} {x2 : Int32} {x3 : Int32} {K : Int32 → kx_S → va_W → Prop} (h : vc_many cA x1 x2 x3 z P K) : kn_Mi l yX7_many wsX7_many rm_X7_many D (kx_T cA) (kx_V cA h0 q) (kx_W cA h0 q P z) [.ref h0, .int x1, .int x2, .int x3] (fun r u => K r u.1 u.2) :=
  fun sz => kn_start (by decide) rfl (Nat.le_of_ble_eq_true rfl) rfl fun p e s m args below meth c hsz F hN _ => ec_many F hN h
/-! X7_weighed -/
abbrev rm_X7_weighed : Room := { frames := 5, cells := 12, slots := 575, locals := 125 }
def vc_weighed (cA : Nat → ClassId) (x1 : Int32) (x2 : Int32) (x3 : Int32) (x4 : Int32) (x5 : Int32) (z : kx_S) (P : va_W) (K : Int32 → kx_S → va_W → Prop) : Prop :=
  vx_of cA x1 x2 x3 z P (fun r2 u1z u1p =>
  (r2 = none →
  K ((-1000001) : Int32) u1z u1p) ∧ (∀ a3, r2 = some a3 →
  (x4 < 0 →
  K ((-1000001) : Int32) u1z u1p) ∧ (¬ x4 < 0 →
  ((4 : Int32) < x4 →
  K ((-1000001) : Int32) u1z u1p) ∧ (¬ (4 : Int32) < x4 →
  (x5 < (1 : Int32) →
  K ((-1000001) : Int32) u1z u1p) ∧ (¬ x5 < (1 : Int32) →
  (x5 ≤ (9 : Int32) →
  vc_rowsOf cA a3 u1z u1p (fun r6 u5z u5p =>
  ∃ a7, r6 = some a7 ∧
  ∃ (qri9 : Nat → Nat) (nri9 : Nat) (rri9 : kr_S) (Pai9 Pbi9 : va_W), u5p = Pai9 ++ (kr_w cA a7 qri9 nri9 rri9 ++ Pbi9) ∧ ∃ oi9, fr_sumOfWeights nri9 x1 x4 x5 rri9 = some oi9 ∧
  K (oi9.1) u5z (Pai9 ++ (kr_w cA a7 qri9 nri9 oi9.2 ++ Pbi9)))) ∧ (¬ x5 ≤ (9 : Int32) →
  K ((-1000001) : Int32) u1z u1p))))))
set_option maxRecDepth 20000 in
set_option maxHeartbeats 1000000 in
theorem ec_weighed {p : Program} {l : Launch} {e : Env} {s : State} {m : MethodId} {args : Array Value} {below : List Frame} {meth : Method} {c : Code} {A : Nat → Prop} {D : va_G} {cA : Nat → ClassId} {h0 : Nat} {q : Nat → Nat} {P : va_W} {z : kx_S} {x1 : Int32} {x2 : Int32} {x3 : Int32} {x4 : Int32} {x5 : Int32} {K : Int32 → kx_S → va_W → Prop} (F : kj_Fx p s m args meth c cX7_weighed 7 wsX7_weighed RX7 (some .int) D (kx_T cA) A) (hN : kn_N s) (h : vc_weighed cA x1 x2 x3 x4 x5 z P K) : kj_J p l e rm_X7_weighed s m args below meth c 0 0 (MQ below (kn_Qi D (kx_T cA) A (kx_V cA h0 q) (fun r u => K r u.1 u.2)) args s 12 575 A) 7 D A (kx_W cA h0 q P z) 0 [(0, .ref h0), (1, .int x1), (2, .int x2), (3, .int x3), (4, .int x4), (5, .int x5)] [] := by
  unfold vc_weighed at h
  refine kj_iload_n F dX7_weighed_0 1 rfl rfl ?_
  refine kj_iload_n F dX7_weighed_1 2 rfl rfl ?_
  refine kj_iload_n F dX7_weighed_2 3 rfl rfl ?_
  refine kn_cSq (As := [.int x1, .int x2, .int x3]) (rest := []) F hN dX7_weighed_3 (dx_of h) (va_cwS 3 F.2.2.2.2.1 gX7_weighed_X0_of rfl rfl rfl (by decide +kernel) ⟨Nat.le_of_ble_eq_true rfl, Nat.le_of_ble_eq_true rfl⟩) rfl rfl (Nat.le_of_ble_eq_true rfl) ⟨(by exact Nat.le_of_ble_eq_true rfl), (by exact Nat.le_of_ble_eq_true rfl)⟩ (fun r2 u1 h => ?_)
  refine kj_cast (ww' := kx_W cA h0 q u1.2 u1.1) rfl ?_
  refine kn_widen (k := 1) (n := 3) (Nat.le_of_ble_eq_true rfl) (Nat.le_of_ble_eq_true rfl) ?_
  refine kj_astoreq (i := 6) (v := r2) F dX7_weighed_6 (lv' := [(6, va_rf r2), (0, .ref h0), (1, .int x1), (2, .int x2), (3, .int x3), (4, .int x4), (5, .int x5)]) (by decide) rfl ?_
  refine kj_aloadq F dX7_weighed_8 0 rfl ?_
  refine kj_ifnull F dX7_weighed_10 (tgt := 37) (by decide) (fun e4 => ?_) (fun a3 e4 => ?_)
  · replace h := h.1 e4
    refine kj_ldc F dX7_weighed_37 (v := (-1000001)) (by decide +kernel) ?_
    exact kn_iret (z := (((u1.1), (u1.2)) : kx_S × va_W)) F dX7_weighed_39 (Nat.le_of_ble_eq_true rfl) (Nat.le_of_ble_eq_true rfl) h
  · replace h := h.2 a3 e4
    refine kj_iload F dX7_weighed_13 5 rfl ?_
    refine kw_if_lt F dX7_weighed_15 (tgt := 37) (by decide) (fun hc => ?_) (fun hc => ?_)
    · replace h := h.1 hc
      refine kj_ldc F dX7_weighed_37 (v := (-1000001)) (by decide +kernel) ?_
      exact kn_iret (z := (((u1.1), (u1.2)) : kx_S × va_W)) F dX7_weighed_39 (Nat.le_of_ble_eq_true rfl) (Nat.le_of_ble_eq_true rfl) h
    · replace h := h.2 hc
      refine kj_iload F dX7_weighed_18 5 rfl ?_
      refine kj_iconst F dX7_weighed_20 (v := 4) (by decide) ?_
      refine kw_icmp_gt F dX7_weighed_21 (tgt := 37) (by decide) (fun hc => ?_) (fun hc => ?_)
      · replace h := h.1 hc
        refine kj_ldc F dX7_weighed_37 (v := (-1000001)) (by decide +kernel) ?_
        exact kn_iret (z := (((u1.1), (u1.2)) : kx_S × va_W)) F dX7_weighed_39 (Nat.le_of_ble_eq_true rfl) (Nat.le_of_ble_eq_true rfl) h
      · replace h := h.2 hc
        refine kj_iload F dX7_weighed_24 6 rfl ?_
        refine kj_iconst F dX7_weighed_26 (v := 1) (by decide) ?_
        refine kw_icmp_lt F dX7_weighed_27 (tgt := 37) (by decide) (fun hc => ?_) (fun hc => ?_)
        · replace h := h.1 hc
          refine kj_ldc F dX7_weighed_37 (v := (-1000001)) (by decide +kernel) ?_
          exact kn_iret (z := (((u1.1), (u1.2)) : kx_S × va_W)) F dX7_weighed_39 (Nat.le_of_ble_eq_true rfl) (Nat.le_of_ble_eq_true rfl) h
        · replace h := h.2 hc
          refine kj_iload F dX7_weighed_30 6 rfl ?_
          refine kj_bipush F dX7_weighed_32 (v := 9) (by decide) ?_
          refine kw_icmp_le F dX7_weighed_34 (tgt := 40) (by decide) (fun hc => ?_) (fun hc => ?_)
          · replace h := h.1 hc
            refine kj_aload_n F dX7_weighed_40 1 rfl rfl ?_
            refine kj_aloadq F dX7_weighed_41 0 rfl ?_
            refine kj_deref e4 ?_
            refine kn_cVq (As := [.ref a3]) (rest := []) F hN dX7_weighed_43 (dc_rowsOf h) (cwV 1 F.2.2.2.2.1 gX7_weighed_X7_rowsOf rfl rfl rfl (by decide +kernel) ⟨Nat.le_of_ble_eq_true rfl, Nat.le_of_ble_eq_true rfl⟩) 0 rfl rfl rfl rfl rfl (Nat.le_of_ble_eq_true rfl) ⟨(by exact Nat.le_of_ble_eq_true rfl), (by exact Nat.le_of_ble_eq_true rfl)⟩ (fun r6 u5 h => ?_)
            refine kj_cast (ww' := kx_W cA h0 q u5.2 u5.1) rfl ?_
            refine kn_widen (k := 12) (n := 575) (Nat.le_of_ble_eq_true rfl) (Nat.le_of_ble_eq_true rfl) ?_
            refine kj_iload_n F dX7_weighed_46 2 rfl rfl ?_
            refine kj_iload F dX7_weighed_47 5 rfl ?_
            refine kj_iload F dX7_weighed_49 6 rfl ?_
            obtain ⟨a7, e8, h⟩ := h
            refine kj_steq (st' := [.int x5, .int x4, .int x1, .ref a7]) (by rw [e8]; rfl) ?_
            obtain ⟨qri9, nri9, rri9, Pai9, Pbi9, hpi9, oi9, h1i9, h⟩ := h
            refine kj_cast (ww' := (kr_W cA a7 qri9 nri9 (kx_w cA h0 q (u5.1) ++ Pai9) Pbi9) rri9) (by rw [hpi9]; simp [kx_W, kr_W]) ?_
            refine kj_cVi (w := (kr_W cA a7 qri9 nri9 (kx_w cA h0 q (u5.1) ++ Pai9) Pbi9)) (As := [.int x1, .int x4, .int x5]) (rest := []) F dX7_weighed_51 (kw_h h1i9) (fun o h1 => cr_sumOfWeights h1) (cwV 3 F.2.2.2.2.1 gX7_weighed_X4_sumOfWeights rfl rfl rfl (by decide +kernel) ⟨Nat.le_of_ble_eq_true rfl, Nat.le_of_ble_eq_true rfl⟩) _ (kr_pos (j := 0) rfl) rfl rfl rfl rfl (Nat.le_of_ble_eq_true rfl) ⟨(by exact Nat.le_of_ble_eq_true rfl), (by exact Nat.le_of_ble_eq_true rfl)⟩ (kw_e ?_)
            refine kj_cast (ww' := (kx_W cA h0 q (Pai9 ++ (kr_w cA a7 qri9 nri9 oi9.2 ++ Pbi9)) (u5.1))) (by simp [kx_W, kr_W]) ?_
            exact kn_iret (z := (((u5.1), (Pai9 ++ (kr_w cA a7 qri9 nri9 oi9.2 ++ Pbi9))) : kx_S × va_W)) F dX7_weighed_54 (Nat.le_of_ble_eq_true rfl) (Nat.le_of_ble_eq_true rfl) h
          · replace h := h.2 hc
            refine kj_ldc F dX7_weighed_37 (v := (-1000001)) (by decide +kernel) ?_
            exact kn_iret (z := (((u1.1), (u1.2)) : kx_S × va_W)) F dX7_weighed_39 (Nat.le_of_ble_eq_true rfl) (Nat.le_of_ble_eq_true rfl) h
theorem dc_weighed {l : Launch} {D : va_G} {cA : Nat → ClassId} {h0 : Nat} {q : Nat → Nat} {P : va_W} {z : kx_S} {x1 : Int32} {x2 : Int32} {x3 : Int32} {x4 : Int32} {x5 : Int32} {K : Int32 → kx_S → va_W → Prop} (h : vc_weighed cA x1 x2 x3 x4 x5 z P K) : kn_Mi l yX7_weighed wsX7_weighed rm_X7_weighed D (kx_T cA) (kx_V cA h0 q) (kx_W cA h0 q P z) [.ref h0, .int x1, .int x2, .int x3, .int x4, .int x5] (fun r u => K r u.1 u.2) :=
  fun sz => kn_start (by decide) rfl (Nat.le_of_ble_eq_true rfl) rfl fun p e s m args below meth c hsz F hN _ => ec_weighed F hN h
/-! X7_series -/
abbrev rm_X7_series : Room := { frames := 3, cells := 1, slots := 3, locals := 65 }
def vc_series (cA : Nat → ClassId) (x1 : Int32) (x2 : Int32) (x3 : Int32) (x4 : Int32) (z : kx_S) (P : va_W) (K : Int32 → kx_S → va_W → Prop) : Prop :=
  vx_of cA x1 x2 x3 z P (fun r2 u1z u1p =>
  (r2 = none →
  K ((-1000001) : Int32) u1z u1p) ∧ (∀ a3, r2 = some a3 →
  (0 ≤ x4 →
  (x4 ≤ ((x1 * x2) * x3) →
  ∃ u5, kx_bx u1p a3 = some u5 ∧
  ∃ o8, fc_heapsOfVolume u1p u5.1 u5.2.1 u5.2.2 x4 u1z = some o8 ∧
  K (o8.1) (o8.2) u1p) ∧ (¬ x4 ≤ ((x1 * x2) * x3) →
  K (0 : Int32) u1z u1p)) ∧ (¬ 0 ≤ x4 →
  K ((-1000001) : Int32) u1z u1p)))
set_option maxRecDepth 20000 in
set_option maxHeartbeats 1000000 in
theorem ec_series {p : Program} {l : Launch} {e : Env} {s : State} {m : MethodId} {args : Array Value} {below : List Frame} {meth : Method} {c : Code} {A : Nat → Prop} {D : va_G} {cA : Nat → ClassId} {h0 : Nat} {q : Nat → Nat} {P : va_W} {z : kx_S} {x1 : Int32} {x2 : Int32} {x3 : Int32} {x4 : Int32} {K : Int32 → kx_S → va_W → Prop} (F : kj_Fx p s m args meth c cX7_series 6 wsX7_series RX7 (some .int) D (kx_T cA) A) (hN : kn_N s) (h : vc_series cA x1 x2 x3 x4 z P K) : kj_J p l e rm_X7_series s m args below meth c 0 0 (MQ below (kn_Qi D (kx_T cA) A (kx_V cA h0 q) (fun r u => K r u.1 u.2)) args s 1 3 A) 6 D A (kx_W cA h0 q P z) 0 [(0, .ref h0), (1, .int x1), (2, .int x2), (3, .int x3), (4, .int x4)] [] := by
  unfold vc_series at h
  refine kj_iload_n F dX7_series_0 1 rfl rfl ?_
  refine kj_iload_n F dX7_series_1 2 rfl rfl ?_
  refine kj_iload_n F dX7_series_2 3 rfl rfl ?_
  refine kn_cSq (As := [.int x1, .int x2, .int x3]) (rest := []) F hN dX7_series_3 (dx_of h) (va_cwS 3 F.2.2.2.2.1 gX7_series_X0_of rfl rfl rfl (by decide +kernel) ⟨Nat.le_of_ble_eq_true rfl, Nat.le_of_ble_eq_true rfl⟩) rfl rfl (Nat.le_of_ble_eq_true rfl) ⟨(by exact Nat.le_of_ble_eq_true rfl), (by exact Nat.le_of_ble_eq_true rfl)⟩ (fun r2 u1 h => ?_)
  refine kj_cast (ww' := kx_W cA h0 q u1.2 u1.1) rfl ?_
  refine kn_widen (k := 1) (n := 3) (Nat.le_of_ble_eq_true rfl) (Nat.le_of_ble_eq_true rfl) ?_
  refine kj_astoreq (i := 5) (v := r2) F dX7_series_6 (lv' := [(5, va_rf r2), (0, .ref h0), (1, .int x1), (2, .int x2), (3, .int x3), (4, .int x4)]) (by decide) rfl ?_
  refine kj_aloadq F dX7_series_8 0 rfl ?_
  refine kj_ifnull F dX7_series_10 (tgt := 18) (by decide) (fun e4 => ?_) (fun a3 e4 => ?_)
  · replace h := h.1 e4
    refine kj_ldc F dX7_series_18 (v := (-1000001)) (by decide +kernel) ?_
    exact kn_iret (z := (((u1.1), (u1.2)) : kx_S × va_W)) F dX7_series_20 (Nat.le_of_ble_eq_true rfl) (Nat.le_of_ble_eq_true rfl) h
  · replace h := h.2 a3 e4
    refine kj_iload F dX7_series_13 5 rfl ?_
    refine kw_if_ge F dX7_series_15 (tgt := 21) (by decide) (fun hc => ?_) (fun hc => ?_)
    · replace h := h.1 hc
      refine kj_iload F dX7_series_21 5 rfl ?_
      refine kj_iload_n F dX7_series_23 2 rfl rfl ?_
      refine kj_iload_n F dX7_series_24 3 rfl rfl ?_
      refine kj_imul F dX7_series_25 ?_
      refine kj_iload_n F dX7_series_26 4 rfl rfl ?_
      refine kj_imul F dX7_series_27 ?_
      refine kw_icmp_le F dX7_series_28 (tgt := 35) (by decide) (fun hc => ?_) (fun hc => ?_)
      · replace h := h.1 hc
        refine kj_aload_n F dX7_series_35 1 rfl rfl ?_
        refine kj_aloadq F dX7_series_36 0 rfl ?_
        refine kj_deref e4 ?_
        refine kj_iload F dX7_series_38 5 rfl ?_
        obtain ⟨u5, hu6, h⟩ := h
        obtain ⟨iu7, hu6⟩ := kx_bx_at hu6
        obtain ⟨o8, h9, h⟩ := h
        refine kj_cVi (w := (kx_W cA h0 q (u1.2))) (As := [.ref a3, .int x4]) (rest := []) F dX7_series_40 (kw_h h9) (fun o h1 => cc_heapsOfVolume hu6 h1) (cwV 2 F.2.2.2.2.1 gX7_series_X7_heapsOfVolume rfl rfl rfl (by decide +kernel) ⟨Nat.le_of_ble_eq_true rfl, Nat.le_of_ble_eq_true rfl⟩) 0 rfl rfl rfl rfl rfl (Nat.le_of_ble_eq_true rfl) ⟨(by exact Nat.le_of_ble_eq_true rfl), (by exact Nat.le_of_ble_eq_true rfl)⟩ (kw_e ?_)
        exact kn_iret (z := (((o8.2), (u1.2)) : kx_S × va_W)) F dX7_series_43 (Nat.le_of_ble_eq_true rfl) (Nat.le_of_ble_eq_true rfl) h
      · replace h := h.2 hc
        refine kj_iconst F dX7_series_31 (v := 0) (by decide) ?_
        refine kj_goto F dX7_series_32 (tgt := 43) (by decide) ?_
        exact kn_iret (z := (((u1.1), (u1.2)) : kx_S × va_W)) F dX7_series_43 (Nat.le_of_ble_eq_true rfl) (Nat.le_of_ble_eq_true rfl) h
    · replace h := h.2 hc
      refine kj_ldc F dX7_series_18 (v := (-1000001)) (by decide +kernel) ?_
      exact kn_iret (z := (((u1.1), (u1.2)) : kx_S × va_W)) F dX7_series_20 (Nat.le_of_ble_eq_true rfl) (Nat.le_of_ble_eq_true rfl) h
theorem dc_series {l : Launch} {D : va_G} {cA : Nat → ClassId} {h0 : Nat} {q : Nat → Nat} {P : va_W} {z : kx_S} {x1 : Int32} {x2 : Int32} {x3 : Int32} {x4 : Int32} {K : Int32 → kx_S → va_W → Prop} (h : vc_series cA x1 x2 x3 x4 z P K) : kn_Mi l yX7_series wsX7_series rm_X7_series D (kx_T cA) (kx_V cA h0 q) (kx_W cA h0 q P z) [.ref h0, .int x1, .int x2, .int x3, .int x4] (fun r u => K r u.1 u.2) :=
  fun sz => kn_start (by decide) rfl (Nat.le_of_ble_eq_true rfl) rfl fun p e s m args below meth c hsz F hN _ => ec_series F hN h
/-! X7_between -/
abbrev rm_X7_between : Room := { frames := 5, cells := 11, slots := 572, locals := 125 }
theorem in_X7_between_X0 : ∀ w ∈ u_ws RX0 TX0 3, w ∈ wsX7_between := by decide +kernel
theorem in_X7_between_X1 : ∀ w ∈ u_ws RX1 TX1 2, w ∈ wsX7_between := by decide +kernel
def vc_between (cA : Nat → ClassId) (x1 : Int32) (x2 : Int32) (z : kx_S) (P : va_W) (K : Int32 → kx_S → va_W → Prop) : Prop :=
  ∃ o1, fc_heapAt P x1 z = some o1 ∧
  ∃ o3, fc_heapAt P x2 (o1.2) = some o3 ∧
  ((o1.1) = none →
  K ((-1000001) : Int32) (o3.2) P) ∧ (∀ a5, (o1.1) = some a5 →
  ((o3.1) = none →
  K ((-1000001) : Int32) (o3.2) P) ∧ (∀ a7, (o3.1) = some a7 →
  ∃ v9, kx_hp P a5 = some v9 ∧
  ∃ v10, kx_hp P a7 = some v10 ∧
  ∃ u11, kx_bx P (v9.1) = some u11 ∧
  ∃ u14, kx_bx P (v10.1) = some u14 ∧
  ∃ o17, fx_sameAs u11.1 u11.2.1 u11.2.2 u14.1 u14.2.1 u14.2.2 = some o17 ∧
  (o17 = 0 →
  K ((-1000002) : Int32) (o3.2) P) ∧ (¬ o17 = 0 →
  ∃ v19, kx_hp P a5 = some v19 ∧
  vc_rowsOf cA (v19.1) (o3.2) P (fun r21 u20z u20p =>
  ∃ v22, kx_hp u20p a5 = some v22 ∧
  ∃ v23, kx_bx u20p (v22.1) = some v23 ∧
  ∃ v24, kx_hp u20p a5 = some v24 ∧
  ∃ v25, kx_hp u20p a7 = some v25 ∧
  ∃ a26, r21 = some a26 ∧
  ∃ (qri28 : Nat → Nat) (nri28 : Nat) (rri28 : kr_S) (Pai28 Pbi28 : va_W), u20p = Pai28 ++ (kr_w cA a26 qri28 nri28 rri28 ++ Pbi28) ∧ ∃ oi28, fr_heapsBetween nri28 (v23.1) (v24.2) (v25.2) rri28 = some oi28 ∧
  K (oi28.1) u20z (Pai28 ++ (kr_w cA a26 qri28 nri28 oi28.2 ++ Pbi28))))))
set_option maxRecDepth 20000 in
set_option maxHeartbeats 1000000 in
theorem ec_between {p : Program} {l : Launch} {e : Env} {s : State} {m : MethodId} {args : Array Value} {below : List Frame} {meth : Method} {c : Code} {A : Nat → Prop} {D : va_G} {cA : Nat → ClassId} {h0 : Nat} {q : Nat → Nat} {P : va_W} {z : kx_S} {x1 : Int32} {x2 : Int32} {K : Int32 → kx_S → va_W → Prop} (F : kj_Fx p s m args meth c cX7_between 5 wsX7_between RX7 (some .int) D (kx_T cA) A) (hN : kn_N s) (h : vc_between cA x1 x2 z P K) : kj_J p l e rm_X7_between s m args below meth c 0 0 (MQ below (kn_Qi D (kx_T cA) A (kx_V cA h0 q) (fun r u => K r u.1 u.2)) args s 11 572 A) 5 D A (kx_W cA h0 q P z) 0 [(0, .ref h0), (1, .int x1), (2, .int x2)] [] := by
  unfold vc_between at h
  refine kj_aload_n F dX7_between_0 0 rfl rfl ?_
  refine kj_iload_n F dX7_between_1 1 rfl rfl ?_
  obtain ⟨o1, h2, h⟩ := h
  refine kj_cVq (w := (kx_W cA h0 q P)) (As := [.int x1]) (rest := []) F dX7_between_2 (kw_h h2) (fun o h1 => cc_heapAt h1) (cwV 1 F.2.2.2.2.1 gX7_between_X7_heapAt rfl rfl rfl (by decide +kernel) ⟨Nat.le_of_ble_eq_true rfl, Nat.le_of_ble_eq_true rfl⟩) 0 rfl rfl rfl rfl rfl (Nat.le_of_ble_eq_true rfl) ⟨(by exact Nat.le_of_ble_eq_true rfl), (by exact Nat.le_of_ble_eq_true rfl)⟩ (kw_e ?_)
  refine kj_astoreq_n (i := 3) (v := (o1.1)) F dX7_between_5 (lv' := [(3, va_rf (o1.1)), (0, .ref h0), (1, .int x1), (2, .int x2)]) rfl (by decide) rfl ?_
  refine kj_aload_n F dX7_between_6 1 rfl rfl ?_
  refine kj_iload_n F dX7_between_7 3 rfl rfl ?_
  obtain ⟨o3, h4, h⟩ := h
  refine kj_cVq (w := (kx_W cA h0 q P)) (As := [.int x2]) (rest := []) F dX7_between_8 (kw_h h4) (fun o h1 => cc_heapAt h1) (cwV 1 F.2.2.2.2.1 gX7_between_X7_heapAt rfl rfl rfl (by decide +kernel) ⟨Nat.le_of_ble_eq_true rfl, Nat.le_of_ble_eq_true rfl⟩) 0 rfl rfl rfl rfl rfl (Nat.le_of_ble_eq_true rfl) ⟨(by exact Nat.le_of_ble_eq_true rfl), (by exact Nat.le_of_ble_eq_true rfl)⟩ (kw_e ?_)
  refine kj_astoreq (i := 4) (v := (o3.1)) F dX7_between_11 (lv' := [(4, va_rf (o3.1)), (3, va_rf (o1.1)), (0, .ref h0), (1, .int x1), (2, .int x2)]) (by decide) (by simp [kj_cat]) ?_
  refine kj_aloadq_n F dX7_between_13 1 rfl rfl ?_
  refine kj_ifnull F dX7_between_14 (tgt := 22) (by decide) (fun e6 => ?_) (fun a5 e6 => ?_)
  · replace h := h.1 e6
    refine kj_ldc F dX7_between_22 (v := (-1000001)) (by decide +kernel) ?_
    exact kn_iret (z := (((o3.2), P) : kx_S × va_W)) F dX7_between_24 (Nat.le_of_ble_eq_true rfl) (Nat.le_of_ble_eq_true rfl) h
  · replace h := h.2 a5 e6
    refine kj_aloadq F dX7_between_17 0 rfl ?_
    refine kj_ifnonnull F dX7_between_19 (tgt := 25) (by decide) (fun e8 => ?_) (fun a7 e8 => ?_)
    · replace h := h.1 e8
      refine kj_ldc F dX7_between_22 (v := (-1000001)) (by decide +kernel) ?_
      exact kn_iret (z := (((o3.2), P) : kx_S × va_W)) F dX7_between_24 (Nat.le_of_ble_eq_true rfl) (Nat.le_of_ble_eq_true rfl) h
    · replace h := h.2 a7 e8
      refine kj_aloadq_n F dX7_between_25 1 rfl rfl ?_
      refine kj_deref e6 ?_
      obtain ⟨v9, h35, h⟩ := h
      refine kx_gbox F dX7_between_26 in_X7_between_X1 (by decide +kernel) (kw_h h35) (kw_e ?_)
      refine kj_aloadq F dX7_between_29 0 rfl ?_
      refine kj_deref e8 ?_
      obtain ⟨v10, h34, h⟩ := h
      refine kx_gbox F dX7_between_31 in_X7_between_X1 (by decide +kernel) (kw_h h34) (kw_e ?_)
      obtain ⟨u11, hu12, h⟩ := h
      obtain ⟨iu13, hu12⟩ := kx_bx_at hu12
      obtain ⟨u14, hu15, h⟩ := h
      obtain ⟨iu16, hu15⟩ := kx_bx_at hu15
      obtain ⟨o17, h18, h⟩ := h
      refine kj_cVip (w := (kx_W cA h0 q P)) (As := [.ref (v10.1)]) (rest := []) F dX7_between_34 (kw_h h18) (fun o h1 => cx_sameAs (w := (kx_W cA h0 q P)) (kx_pool hu12) (kx_pool hu15) h1) (cwV 1 F.2.2.2.2.1 gX7_between_X0_sameAs rfl rfl rfl (by decide +kernel) ⟨Nat.le_of_ble_eq_true rfl, Nat.le_of_ble_eq_true rfl⟩) _ (kx_pool hu12) rfl rfl rfl rfl (Nat.le_of_ble_eq_true rfl) ⟨(by exact Nat.le_of_ble_eq_true rfl), (by exact Nat.le_of_ble_eq_true rfl)⟩ (kw_e ?_)
      refine kw_if_ne F dX7_between_37 (tgt := 43) (by decide) (fun hc => ?_) (fun hc => ?_)
      · replace h := h.1 hc
        refine kj_ldc F dX7_between_40 (v := (-1000002)) (by decide +kernel) ?_
        exact kn_iret (z := (((o3.2), P) : kx_S × va_W)) F dX7_between_42 (Nat.le_of_ble_eq_true rfl) (Nat.le_of_ble_eq_true rfl) h
      · replace h := h.2 hc
        refine kj_aload_n F dX7_between_43 2 rfl rfl ?_
        refine kj_aloadq_n F dX7_between_44 1 rfl rfl ?_
        refine kj_deref e6 ?_
        obtain ⟨v19, h33, h⟩ := h
        refine kx_gbox F dX7_between_45 in_X7_between_X1 (by decide +kernel) (kw_h h33) (kw_e ?_)
        refine kn_cVq (As := [.ref (v19.1)]) (rest := []) F hN dX7_between_48 (dc_rowsOf h) (cwV 1 F.2.2.2.2.1 gX7_between_X7_rowsOf rfl rfl rfl (by decide +kernel) ⟨Nat.le_of_ble_eq_true rfl, Nat.le_of_ble_eq_true rfl⟩) 0 rfl rfl rfl rfl rfl (Nat.le_of_ble_eq_true rfl) ⟨(by exact Nat.le_of_ble_eq_true rfl), (by exact Nat.le_of_ble_eq_true rfl)⟩ (fun r21 u20 h => ?_)
        refine kj_cast (ww' := kx_W cA h0 q u20.2 u20.1) rfl ?_
        refine kn_widen (k := 11) (n := 572) (Nat.le_of_ble_eq_true rfl) (Nat.le_of_ble_eq_true rfl) ?_
        refine kj_aloadq_n F dX7_between_51 1 rfl rfl ?_
        refine kj_deref e6 ?_
        obtain ⟨v22, h32, h⟩ := h
        refine kx_gbox F dX7_between_52 in_X7_between_X1 (by decide +kernel) (kw_h h32) (kw_e ?_)
        obtain ⟨v23, h31, h⟩ := h
        refine kx_gba F dX7_between_55 in_X7_between_X0 (by decide +kernel) (kw_h h31) (kw_e ?_)
        refine kj_aloadq_n F dX7_between_58 1 rfl rfl ?_
        refine kj_deref e6 ?_
        obtain ⟨v24, h30, h⟩ := h
        refine kx_gcubes F dX7_between_59 in_X7_between_X1 (by decide +kernel) (kw_h h30) (kw_e ?_)
        refine kj_aloadq F dX7_between_62 0 rfl ?_
        refine kj_deref e8 ?_
        obtain ⟨v25, h29, h⟩ := h
        refine kx_gcubes F dX7_between_64 in_X7_between_X1 (by decide +kernel) (kw_h h29) (kw_e ?_)
        obtain ⟨a26, e27, h⟩ := h
        refine kj_steq (st' := [.long (v25.2), .long (v24.2), .int (v23.1), .ref a26]) (by rw [e27]; rfl) ?_
        obtain ⟨qri28, nri28, rri28, Pai28, Pbi28, hpi28, oi28, h1i28, h⟩ := h
        refine kj_cast (ww' := (kr_W cA a26 qri28 nri28 (kx_w cA h0 q (u20.1) ++ Pai28) Pbi28) rri28) (by rw [hpi28]; simp [kx_W, kr_W]) ?_
        refine kj_cVi (w := (kr_W cA a26 qri28 nri28 (kx_w cA h0 q (u20.1) ++ Pai28) Pbi28)) (As := [.int (v23.1), .long (v24.2), .long (v25.2)]) (rest := []) F dX7_between_67 (kw_h h1i28) (fun o h1 => cr_heapsBetween h1) (cwV 3 F.2.2.2.2.1 gX7_between_X4_heapsBetween rfl rfl rfl (by decide +kernel) ⟨Nat.le_of_ble_eq_true rfl, Nat.le_of_ble_eq_true rfl⟩) _ (kr_pos (j := 0) rfl) rfl rfl rfl rfl (Nat.le_of_ble_eq_true rfl) ⟨(by exact Nat.le_of_ble_eq_true rfl), (by exact Nat.le_of_ble_eq_true rfl)⟩ (kw_e ?_)
        refine kj_cast (ww' := (kx_W cA h0 q (Pai28 ++ (kr_w cA a26 qri28 nri28 oi28.2 ++ Pbi28)) (u20.1))) (by simp [kx_W, kr_W]) ?_
        exact kn_iret (z := (((u20.1), (Pai28 ++ (kr_w cA a26 qri28 nri28 oi28.2 ++ Pbi28))) : kx_S × va_W)) F dX7_between_70 (Nat.le_of_ble_eq_true rfl) (Nat.le_of_ble_eq_true rfl) h
theorem dc_between {l : Launch} {D : va_G} {cA : Nat → ClassId} {h0 : Nat} {q : Nat → Nat} {P : va_W} {z : kx_S} {x1 : Int32} {x2 : Int32} {K : Int32 → kx_S → va_W → Prop} (h : vc_between cA x1 x2 z P K) : kn_Mi l yX7_between wsX7_between rm_X7_between D (kx_T cA) (kx_V cA h0 q) (kx_W cA h0 q P z) [.ref h0, .int x1, .int x2] (fun r u => K r u.1 u.2) :=
  fun sz => kn_start (by decide) rfl (Nat.le_of_ble_eq_true rfl) rfl fun p e s m args below meth c hsz F hN _ => ec_between F hN h
/-! X7_way -/
abbrev rm_X7_way : Room := { frames := 5, cells := 11, slots := 572, locals := 125 }
theorem in_X7_way_X0 : ∀ w ∈ u_ws RX0 TX0 3, w ∈ wsX7_way := by decide +kernel
theorem in_X7_way_X1 : ∀ w ∈ u_ws RX1 TX1 2, w ∈ wsX7_way := by decide +kernel
theorem in_X7_way_X7 : ∀ w ∈ u_ws RX7 TX7 10, w ∈ wsX7_way := by decide +kernel
def vc_way (cA : Nat → ClassId) (x1 : Int32) (x2 : Int32) (x3 : Int32) (z : kx_S) (P : va_W) (K : Int32 → kx_S → va_W → Prop) : Prop :=
  ∃ o1, fc_heapAt P x1 z = some o1 ∧
  ∃ o3, fc_heapAt P x2 (o1.2) = some o3 ∧
  ((o1.1) = none →
  K ((-1000001) : Int32) (o3.2) P) ∧ (∀ a5, (o1.1) = some a5 →
  ((o3.1) = none →
  K ((-1000001) : Int32) (o3.2) P) ∧ (∀ a7, (o3.1) = some a7 →
  (x3 < 0 →
  K ((-1000001) : Int32) (o3.2) P) ∧ (¬ x3 < 0 →
  (x3 ≤ (9 : Int32) →
  ∃ v9, kx_hp P a5 = some v9 ∧
  ∃ v10, kx_hp P a7 = some v10 ∧
  ∃ u11, kx_bx P (v9.1) = some u11 ∧
  ∃ u14, kx_bx P (v10.1) = some u14 ∧
  ∃ o17, fx_sameAs u11.1 u11.2.1 u11.2.2 u14.1 u14.2.1 u14.2.2 = some o17 ∧
  (o17 = 0 →
  K ((-1000002) : Int32) (o3.2) P) ∧ (¬ o17 = 0 →
  ∃ v19, kx_hp P a5 = some v19 ∧
  vc_rowsOf cA (v19.1) (o3.2) P (fun r21 u20z u20p =>
  ∃ v22, kx_hp u20p a5 = some v22 ∧
  ∃ v23, kx_bx u20p (v22.1) = some v23 ∧
  ∃ a24, r21 = some a24 ∧
  ∃ (qri26 : Nat → Nat) (nri26 : Nat) (rri26 : kr_S) (Pai26 Pbi26 : va_W), u20p = Pai26 ++ (kr_w cA a24 qri26 nri26 rri26 ++ Pbi26) ∧ ∃ oi26, fr_heapsWith nri26 (v23.1) rri26 = some oi26 ∧
  ((oi26.1) ≤ (200 : Int32) →
  ∃ v27, kx_hp (Pai26 ++ (kr_w cA a24 qri26 nri26 oi26.2 ++ Pbi26)) a5 = some v27 ∧
  ∃ u28, kx_bx (Pai26 ++ (kr_w cA a24 qri26 nri26 oi26.2 ++ Pbi26)) (v27.1) = some u28 ∧
  ∃ o31, fs_prepare u28.1 u28.2.1 u28.2.2 (oi26.1) x3 u20z = some o31 ∧
  ∃ v33, kx_hp (Pai26 ++ (kr_w cA a24 qri26 nri26 oi26.2 ++ Pbi26)) a5 = some v33 ∧
  ∃ v34, kx_hp (Pai26 ++ (kr_w cA a24 qri26 nri26 oi26.2 ++ Pbi26)) a5 = some v34 ∧
  ∃ v35, kx_hp (Pai26 ++ (kr_w cA a24 qri26 nri26 oi26.2 ++ Pbi26)) a7 = some v35 ∧
  ∃ u36, kx_bx (Pai26 ++ (kr_w cA a24 qri26 nri26 oi26.2 ++ Pbi26)) (v33.1) = some u36 ∧
  ∃ o39, fs_shortest u36.1 u36.2.1 u36.2.2 (v34.2) (v35.2) o31 = some o39 ∧
  K (o39.1) (o39.2) (Pai26 ++ (kr_w cA a24 qri26 nri26 oi26.2 ++ Pbi26))) ∧ (¬ (oi26.1) ≤ (200 : Int32) →
  K ((-1000003) : Int32) u20z (Pai26 ++ (kr_w cA a24 qri26 nri26 oi26.2 ++ Pbi26)))))) ∧ (¬ x3 ≤ (9 : Int32) →
  K ((-1000001) : Int32) (o3.2) P))))
set_option maxRecDepth 20000 in
set_option maxHeartbeats 1000000 in
theorem ec_way {p : Program} {l : Launch} {e : Env} {s : State} {m : MethodId} {args : Array Value} {below : List Frame} {meth : Method} {c : Code} {A : Nat → Prop} {D : va_G} {cA : Nat → ClassId} {h0 : Nat} {q : Nat → Nat} {P : va_W} {z : kx_S} {x1 : Int32} {x2 : Int32} {x3 : Int32} {K : Int32 → kx_S → va_W → Prop} (F : kj_Fx p s m args meth c cX7_way 7 wsX7_way RX7 (some .int) D (kx_T cA) A) (hN : kn_N s) (h : vc_way cA x1 x2 x3 z P K) : kj_J p l e rm_X7_way s m args below meth c 0 0 (MQ below (kn_Qi D (kx_T cA) A (kx_V cA h0 q) (fun r u => K r u.1 u.2)) args s 11 572 A) 7 D A (kx_W cA h0 q P z) 0 [(0, .ref h0), (1, .int x1), (2, .int x2), (3, .int x3)] [] := by
  unfold vc_way at h
  refine kj_aload_n F dX7_way_0 0 rfl rfl ?_
  refine kj_iload_n F dX7_way_1 1 rfl rfl ?_
  obtain ⟨o1, h2, h⟩ := h
  refine kj_cVq (w := (kx_W cA h0 q P)) (As := [.int x1]) (rest := []) F dX7_way_2 (kw_h h2) (fun o h1 => cc_heapAt h1) (cwV 1 F.2.2.2.2.1 gX7_way_X7_heapAt rfl rfl rfl (by decide +kernel) ⟨Nat.le_of_ble_eq_true rfl, Nat.le_of_ble_eq_true rfl⟩) 0 rfl rfl rfl rfl rfl (Nat.le_of_ble_eq_true rfl) ⟨(by exact Nat.le_of_ble_eq_true rfl), (by exact Nat.le_of_ble_eq_true rfl)⟩ (kw_e ?_)
  refine kj_astoreq (i := 4) (v := (o1.1)) F dX7_way_5 (lv' := [(4, va_rf (o1.1)), (0, .ref h0), (1, .int x1), (2, .int x2), (3, .int x3)]) (by decide) rfl ?_
  refine kj_aload_n F dX7_way_7 1 rfl rfl ?_
  refine kj_iload_n F dX7_way_8 3 rfl rfl ?_
  obtain ⟨o3, h4, h⟩ := h
  refine kj_cVq (w := (kx_W cA h0 q P)) (As := [.int x2]) (rest := []) F dX7_way_9 (kw_h h4) (fun o h1 => cc_heapAt h1) (cwV 1 F.2.2.2.2.1 gX7_way_X7_heapAt rfl rfl rfl (by decide +kernel) ⟨Nat.le_of_ble_eq_true rfl, Nat.le_of_ble_eq_true rfl⟩) 0 rfl rfl rfl rfl rfl (Nat.le_of_ble_eq_true rfl) ⟨(by exact Nat.le_of_ble_eq_true rfl), (by exact Nat.le_of_ble_eq_true rfl)⟩ (kw_e ?_)
  refine kj_astoreq (i := 5) (v := (o3.1)) F dX7_way_12 (lv' := [(5, va_rf (o3.1)), (4, va_rf (o1.1)), (0, .ref h0), (1, .int x1), (2, .int x2), (3, .int x3)]) (by decide) (by simp [kj_cat]) ?_
  refine kj_aloadq F dX7_way_14 1 rfl ?_
  refine kj_ifnull F dX7_way_16 (tgt := 34) (by decide) (fun e6 => ?_) (fun a5 e6 => ?_)
  · replace h := h.1 e6
    refine kj_ldc F dX7_way_34 (v := (-1000001)) (by decide +kernel) ?_
    exact kn_iret (z := (((o3.2), P) : kx_S × va_W)) F dX7_way_36 (Nat.le_of_ble_eq_true rfl) (Nat.le_of_ble_eq_true rfl) h
  · replace h := h.2 a5 e6
    refine kj_aloadq F dX7_way_19 0 rfl ?_
    refine kj_ifnull F dX7_way_21 (tgt := 34) (by decide) (fun e8 => ?_) (fun a7 e8 => ?_)
    · replace h := h.1 e8
      refine kj_ldc F dX7_way_34 (v := (-1000001)) (by decide +kernel) ?_
      exact kn_iret (z := (((o3.2), P) : kx_S × va_W)) F dX7_way_36 (Nat.le_of_ble_eq_true rfl) (Nat.le_of_ble_eq_true rfl) h
    · replace h := h.2 a7 e8
      refine kj_iload_n F dX7_way_24 5 rfl rfl ?_
      refine kw_if_lt F dX7_way_25 (tgt := 34) (by decide) (fun hc => ?_) (fun hc => ?_)
      · replace h := h.1 hc
        refine kj_ldc F dX7_way_34 (v := (-1000001)) (by decide +kernel) ?_
        exact kn_iret (z := (((o3.2), P) : kx_S × va_W)) F dX7_way_36 (Nat.le_of_ble_eq_true rfl) (Nat.le_of_ble_eq_true rfl) h
      · replace h := h.2 hc
        refine kj_iload_n F dX7_way_28 5 rfl rfl ?_
        refine kj_bipush F dX7_way_29 (v := 9) (by decide) ?_
        refine kw_icmp_le F dX7_way_31 (tgt := 37) (by decide) (fun hc => ?_) (fun hc => ?_)
        · replace h := h.1 hc
          refine kj_aloadq F dX7_way_37 1 rfl ?_
          refine kj_deref e6 ?_
          obtain ⟨v9, h49, h⟩ := h
          refine kx_gbox F dX7_way_39 in_X7_way_X1 (by decide +kernel) (kw_h h49) (kw_e ?_)
          refine kj_aloadq F dX7_way_42 0 rfl ?_
          refine kj_deref e8 ?_
          obtain ⟨v10, h48, h⟩ := h
          refine kx_gbox F dX7_way_44 in_X7_way_X1 (by decide +kernel) (kw_h h48) (kw_e ?_)
          obtain ⟨u11, hu12, h⟩ := h
          obtain ⟨iu13, hu12⟩ := kx_bx_at hu12
          obtain ⟨u14, hu15, h⟩ := h
          obtain ⟨iu16, hu15⟩ := kx_bx_at hu15
          obtain ⟨o17, h18, h⟩ := h
          refine kj_cVip (w := (kx_W cA h0 q P)) (As := [.ref (v10.1)]) (rest := []) F dX7_way_47 (kw_h h18) (fun o h1 => cx_sameAs (w := (kx_W cA h0 q P)) (kx_pool hu12) (kx_pool hu15) h1) (cwV 1 F.2.2.2.2.1 gX7_way_X0_sameAs rfl rfl rfl (by decide +kernel) ⟨Nat.le_of_ble_eq_true rfl, Nat.le_of_ble_eq_true rfl⟩) _ (kx_pool hu12) rfl rfl rfl rfl (Nat.le_of_ble_eq_true rfl) ⟨(by exact Nat.le_of_ble_eq_true rfl), (by exact Nat.le_of_ble_eq_true rfl)⟩ (kw_e ?_)
          refine kw_if_ne F dX7_way_50 (tgt := 56) (by decide) (fun hc => ?_) (fun hc => ?_)
          · replace h := h.1 hc
            refine kj_ldc F dX7_way_53 (v := (-1000002)) (by decide +kernel) ?_
            exact kn_iret (z := (((o3.2), P) : kx_S × va_W)) F dX7_way_55 (Nat.le_of_ble_eq_true rfl) (Nat.le_of_ble_eq_true rfl) h
          · replace h := h.2 hc
            refine kj_aload_n F dX7_way_56 2 rfl rfl ?_
            refine kj_aloadq F dX7_way_57 1 rfl ?_
            refine kj_deref e6 ?_
            obtain ⟨v19, h47, h⟩ := h
            refine kx_gbox F dX7_way_59 in_X7_way_X1 (by decide +kernel) (kw_h h47) (kw_e ?_)
            refine kn_cVq (As := [.ref (v19.1)]) (rest := []) F hN dX7_way_62 (dc_rowsOf h) (cwV 1 F.2.2.2.2.1 gX7_way_X7_rowsOf rfl rfl rfl (by decide +kernel) ⟨Nat.le_of_ble_eq_true rfl, Nat.le_of_ble_eq_true rfl⟩) 0 rfl rfl rfl rfl rfl (Nat.le_of_ble_eq_true rfl) ⟨(by exact Nat.le_of_ble_eq_true rfl), (by exact Nat.le_of_ble_eq_true rfl)⟩ (fun r21 u20 h => ?_)
            refine kj_cast (ww' := kx_W cA h0 q u20.2 u20.1) rfl ?_
            refine kn_widen (k := 11) (n := 572) (Nat.le_of_ble_eq_true rfl) (Nat.le_of_ble_eq_true rfl) ?_
            refine kj_aloadq F dX7_way_65 1 rfl ?_
            refine kj_deref e6 ?_
            obtain ⟨v22, h46, h⟩ := h
            refine kx_gbox F dX7_way_67 in_X7_way_X1 (by decide +kernel) (kw_h h46) (kw_e ?_)
            obtain ⟨v23, h45, h⟩ := h
            refine kx_gba F dX7_way_70 in_X7_way_X0 (by decide +kernel) (kw_h h45) (kw_e ?_)
            obtain ⟨a24, e25, h⟩ := h
            refine kj_steq (st' := [.int (v23.1), .ref a24]) (by rw [e25]; rfl) ?_
            obtain ⟨qri26, nri26, rri26, Pai26, Pbi26, hpi26, oi26, h1i26, h⟩ := h
            refine kj_cast (ww' := (kr_W cA a24 qri26 nri26 (kx_w cA h0 q (u20.1) ++ Pai26) Pbi26) rri26) (by rw [hpi26]; simp [kx_W, kr_W]) ?_
            refine kj_cVi (w := (kr_W cA a24 qri26 nri26 (kx_w cA h0 q (u20.1) ++ Pai26) Pbi26)) (As := [.int (v23.1)]) (rest := []) F dX7_way_73 (kw_h h1i26) (fun o h1 => cr_heapsWith h1) (cwV 1 F.2.2.2.2.1 gX7_way_X4_heapsWith rfl rfl rfl (by decide +kernel) ⟨Nat.le_of_ble_eq_true rfl, Nat.le_of_ble_eq_true rfl⟩) _ (kr_pos (j := 0) rfl) rfl rfl rfl rfl (Nat.le_of_ble_eq_true rfl) ⟨(by exact Nat.le_of_ble_eq_true rfl), (by exact Nat.le_of_ble_eq_true rfl)⟩ (kw_e ?_)
            refine kj_cast (ww' := (kx_W cA h0 q (Pai26 ++ (kr_w cA a24 qri26 nri26 oi26.2 ++ Pbi26)) (u20.1))) (by simp [kx_W, kr_W]) ?_
            refine kj_istore (i := 6) F dX7_way_76 (lv' := [(6, .int (oi26.1)), (5, va_rf (o3.1)), (4, va_rf (o1.1)), (0, .ref h0), (1, .int x1), (2, .int x2), (3, .int x3)]) (by decide) (by simp [kj_cat]) ?_
            refine kj_iload F dX7_way_78 0 rfl ?_
            refine kj_sipush F dX7_way_80 (v := 200) (by decide) ?_
            refine kw_icmp_le F dX7_way_83 (tgt := 89) (by decide) (fun hc => ?_) (fun hc => ?_)
            · replace h := h.1 hc
              refine kj_aload_n F dX7_way_89 3 rfl rfl ?_
              refine kj_get F dX7_way_90 in_X7_way_X7 0 rfl rfl 7 (by decide) (by decide +kernel) rfl rfl ?_
              refine kj_aloadq F dX7_way_93 2 rfl ?_
              refine kj_deref e6 ?_
              obtain ⟨v27, h44, h⟩ := h
              refine kx_gbox F dX7_way_95 in_X7_way_X1 (by decide +kernel) (kw_h h44) (kw_e ?_)
              refine kj_iload F dX7_way_98 0 rfl ?_
              refine kj_iload_n F dX7_way_100 6 rfl rfl ?_
              obtain ⟨u28, hu29, h⟩ := h
              obtain ⟨iu30, hu29⟩ := kx_bx_at hu29
              obtain ⟨o31, h32, h⟩ := h
              refine kj_cVv (w := (kx_W cA h0 q (Pai26 ++ (kr_w cA a24 qri26 nri26 oi26.2 ++ Pbi26)))) (As := [.ref (v27.1), .int (oi26.1), .int x3]) (rest := []) F dX7_way_101 (kw_h h32) (fun o h1 => cs_prepare hu29 h1) (cwV 3 F.2.2.2.2.1 gX7_way_X5_prepare rfl rfl rfl (by decide +kernel) ⟨Nat.le_of_ble_eq_true rfl, Nat.le_of_ble_eq_true rfl⟩) 4 rfl rfl rfl rfl rfl (Nat.le_of_ble_eq_true rfl) ⟨(by exact Nat.le_of_ble_eq_true rfl), (by exact Nat.le_of_ble_eq_true rfl)⟩ (kw_e ?_)
              refine kj_aload_n F dX7_way_104 3 rfl rfl ?_
              refine kj_get F dX7_way_105 in_X7_way_X7 0 rfl rfl 7 (by decide) (by decide +kernel) rfl rfl ?_
              refine kj_aloadq F dX7_way_108 2 rfl ?_
              refine kj_deref e6 ?_
              obtain ⟨v33, h43, h⟩ := h
              refine kx_gbox F dX7_way_110 in_X7_way_X1 (by decide +kernel) (kw_h h43) (kw_e ?_)
              refine kj_aloadq F dX7_way_113 2 rfl ?_
              refine kj_deref e6 ?_
              obtain ⟨v34, h42, h⟩ := h
              refine kx_gcubes F dX7_way_115 in_X7_way_X1 (by decide +kernel) (kw_h h42) (kw_e ?_)
              refine kj_aloadq F dX7_way_118 1 rfl ?_
              refine kj_deref e8 ?_
              obtain ⟨v35, h41, h⟩ := h
              refine kx_gcubes F dX7_way_120 in_X7_way_X1 (by decide +kernel) (kw_h h41) (kw_e ?_)
              obtain ⟨u36, hu37, h⟩ := h
              obtain ⟨iu38, hu37⟩ := kx_bx_at hu37
              obtain ⟨o39, h40, h⟩ := h
              refine kj_cVi (w := (kx_W cA h0 q (Pai26 ++ (kr_w cA a24 qri26 nri26 oi26.2 ++ Pbi26)))) (As := [.ref (v33.1), .long (v34.2), .long (v35.2)]) (rest := []) F dX7_way_123 (kw_h h40) (fun o h1 => cs_shortest hu37 h1) (cwV 3 F.2.2.2.2.1 gX7_way_X5_shortest rfl rfl rfl (by decide +kernel) ⟨Nat.le_of_ble_eq_true rfl, Nat.le_of_ble_eq_true rfl⟩) 4 rfl rfl rfl rfl rfl (Nat.le_of_ble_eq_true rfl) ⟨(by exact Nat.le_of_ble_eq_true rfl), (by exact Nat.le_of_ble_eq_true rfl)⟩ (kw_e ?_)
              exact kn_iret (z := (((o39.2), (Pai26 ++ (kr_w cA a24 qri26 nri26 oi26.2 ++ Pbi26))) : kx_S × va_W)) F dX7_way_126 (Nat.le_of_ble_eq_true rfl) (Nat.le_of_ble_eq_true rfl) h
            · replace h := h.2 hc
              refine kj_ldc F dX7_way_86 (v := (-1000003)) (by decide +kernel) ?_
              exact kn_iret (z := (((u20.1), (Pai26 ++ (kr_w cA a24 qri26 nri26 oi26.2 ++ Pbi26))) : kx_S × va_W)) F dX7_way_88 (Nat.le_of_ble_eq_true rfl) (Nat.le_of_ble_eq_true rfl) h
        · replace h := h.2 hc
          refine kj_ldc F dX7_way_34 (v := (-1000001)) (by decide +kernel) ?_
          exact kn_iret (z := (((o3.2), P) : kx_S × va_W)) F dX7_way_36 (Nat.le_of_ble_eq_true rfl) (Nat.le_of_ble_eq_true rfl) h
theorem dc_way {l : Launch} {D : va_G} {cA : Nat → ClassId} {h0 : Nat} {q : Nat → Nat} {P : va_W} {z : kx_S} {x1 : Int32} {x2 : Int32} {x3 : Int32} {K : Int32 → kx_S → va_W → Prop} (h : vc_way cA x1 x2 x3 z P K) : kn_Mi l yX7_way wsX7_way rm_X7_way D (kx_T cA) (kx_V cA h0 q) (kx_W cA h0 q P z) [.ref h0, .int x1, .int x2, .int x3] (fun r u => K r u.1 u.2) :=
  fun sz => kn_start (by decide) rfl (Nat.le_of_ble_eq_true rfl) rfl fun p e s m args below meth c hsz F hN _ => ec_way F hN h
/-! X7_orders -/
abbrev rm_X7_orders : Room := { frames := 12, cells := 0, slots := 0, locals := 309 }
theorem in_X7_orders_X1 : ∀ w ∈ u_ws RX1 TX1 2, w ∈ wsX7_orders := by decide +kernel
def vc_orders (cA : Nat → ClassId) (x1 : Int32) (z : kx_S) (P : va_W) (K : Int32 → kx_S → va_W → Prop) : Prop :=
  ∃ o1, fc_heapAt P x1 z = some o1 ∧
  ((o1.1) = none →
  K ((-1000001) : Int32) (o1.2) P) ∧ (∀ a3, (o1.1) = some a3 →
  ∃ u5, kx_hp P a3 = some u5 ∧
  ∃ o8, fh_volume u5.2 = some o8 ∧
  (o8 ≤ (8 : Int32) →
  ∃ v10, kx_hp P a3 = some v10 ∧
  ∃ v11, kx_hp P a3 = some v11 ∧
  ∃ u12, kx_bx P (v10.1) = some u12 ∧
  ∃ o15, fc_ordersOf 9 u12.1 u12.2.1 u12.2.2 (v11.2) o8 = some o15 ∧
  K o15 (o1.2) P) ∧ (¬ o8 ≤ (8 : Int32) →
  K ((-1000003) : Int32) (o1.2) P))
set_option maxRecDepth 20000 in
set_option maxHeartbeats 1000000 in
theorem ec_orders {p : Program} {l : Launch} {e : Env} {s : State} {m : MethodId} {args : Array Value} {below : List Frame} {meth : Method} {c : Code} {A : Nat → Prop} {D : va_G} {cA : Nat → ClassId} {h0 : Nat} {q : Nat → Nat} {P : va_W} {z : kx_S} {x1 : Int32} {K : Int32 → kx_S → va_W → Prop} (F : kj_Fx p s m args meth c cX7_orders 4 wsX7_orders RX7 (some .int) D (kx_T cA) A) (hN : kn_N s) (h : vc_orders cA x1 z P K) : kj_J p l e rm_X7_orders s m args below meth c 0 0 (MQ below (kn_Qi D (kx_T cA) A (kx_V cA h0 q) (fun r u => K r u.1 u.2)) args s 0 0 A) 4 D A (kx_W cA h0 q P z) 0 [(0, .ref h0), (1, .int x1)] [] := by
  unfold vc_orders at h
  refine kj_aload_n F dX7_orders_0 0 rfl rfl ?_
  refine kj_iload_n F dX7_orders_1 1 rfl rfl ?_
  obtain ⟨o1, h2, h⟩ := h
  refine kj_cVq (w := (kx_W cA h0 q P)) (As := [.int x1]) (rest := []) F dX7_orders_2 (kw_h h2) (fun o h1 => cc_heapAt h1) (cwV 1 F.2.2.2.2.1 gX7_orders_X7_heapAt rfl rfl rfl (by decide +kernel) ⟨Nat.le_of_ble_eq_true rfl, Nat.le_of_ble_eq_true rfl⟩) 0 rfl rfl rfl rfl rfl (Nat.le_of_ble_eq_true rfl) ⟨(by exact Nat.le_of_ble_eq_true rfl), (by exact Nat.le_of_ble_eq_true rfl)⟩ (kw_e ?_)
  refine kj_astoreq_n (i := 2) (v := (o1.1)) F dX7_orders_5 (lv' := [(2, va_rf (o1.1)), (0, .ref h0), (1, .int x1)]) rfl (by decide) rfl ?_
  refine kj_aloadq_n F dX7_orders_6 0 rfl rfl ?_
  refine kj_ifnonnull F dX7_orders_7 (tgt := 13) (by decide) (fun e4 => ?_) (fun a3 e4 => ?_)
  · replace h := h.1 e4
    refine kj_ldc F dX7_orders_10 (v := (-1000001)) (by decide +kernel) ?_
    exact kn_iret (z := (((o1.2), P) : kx_S × va_W)) F dX7_orders_12 (Nat.le_of_ble_eq_true rfl) (Nat.le_of_ble_eq_true rfl) h
  · replace h := h.2 a3 e4
    refine kj_aloadq_n F dX7_orders_13 0 rfl rfl ?_
    refine kj_deref e4 ?_
    obtain ⟨u5, hu6, h⟩ := h
    obtain ⟨iu7, hu6⟩ := kx_hp_at hu6
    obtain ⟨o8, h9, h⟩ := h
    refine kj_cVip (w := (kx_W cA h0 q P)) (As := []) (rest := []) F dX7_orders_14 (kw_h h9) (fun o h1 => ch_volume (w := (kx_W cA h0 q P)) (kx_pool hu6) h1) (cwV 0 F.2.2.2.2.1 gX7_orders_X1_volume rfl rfl rfl (by decide +kernel) ⟨Nat.le_of_ble_eq_true rfl, Nat.le_of_ble_eq_true rfl⟩) _ (kx_pool hu6) rfl rfl rfl rfl (Nat.le_of_ble_eq_true rfl) ⟨(by exact Nat.le_of_ble_eq_true rfl), (by exact Nat.le_of_ble_eq_true rfl)⟩ (kw_e ?_)
    refine kj_istore_n (i := 3) F dX7_orders_17 (lv' := [(3, .int o8), (2, va_rf (o1.1)), (0, .ref h0), (1, .int x1)]) rfl (by decide) (by simp [kj_cat]) ?_
    refine kj_iload_n F dX7_orders_18 0 rfl rfl ?_
    refine kj_bipush F dX7_orders_19 (v := 8) (by decide) ?_
    refine kw_icmp_le F dX7_orders_21 (tgt := 29) (by decide) (fun hc => ?_) (fun hc => ?_)
    · replace h := h.1 hc
      refine kj_aloadq_n F dX7_orders_29 1 rfl rfl ?_
      refine kj_deref e4 ?_
      obtain ⟨v10, h18, h⟩ := h
      refine kx_gbox F dX7_orders_30 in_X7_orders_X1 (by decide +kernel) (kw_h h18) (kw_e ?_)
      refine kj_aloadq_n F dX7_orders_33 1 rfl rfl ?_
      refine kj_deref e4 ?_
      obtain ⟨v11, h17, h⟩ := h
      refine kx_gcubes F dX7_orders_34 in_X7_orders_X1 (by decide +kernel) (kw_h h17) (kw_e ?_)
      refine kj_iload_n F dX7_orders_37 0 rfl rfl ?_
      obtain ⟨u12, hu13, h⟩ := h
      obtain ⟨iu14, hu13⟩ := kx_bx_at hu13
      obtain ⟨o15, h16, h⟩ := h
      refine kj_cSip (w := (kx_W cA h0 q P)) (As := [.ref (v10.1), .long (v11.2), .int o8]) (rest := []) F dX7_orders_38 (kw_h h16) (fun o h1 => cc_ordersOf (w := (kx_W cA h0 q P)) (kx_pool hu13) h1) (va_cwS 3 F.2.2.2.2.1 gX7_orders_X7_ordersOf rfl rfl rfl (by decide +kernel) ⟨Nat.le_of_ble_eq_true rfl, Nat.le_of_ble_eq_true rfl⟩) rfl rfl (Nat.le_of_ble_eq_true rfl) ⟨(by exact Nat.le_of_ble_eq_true rfl), (by exact Nat.le_of_ble_eq_true rfl)⟩ (kw_e ?_)
      exact kn_iret (z := (((o1.2), P) : kx_S × va_W)) F dX7_orders_41 (Nat.le_of_ble_eq_true rfl) (Nat.le_of_ble_eq_true rfl) h
    · replace h := h.2 hc
      refine kj_ldc F dX7_orders_24 (v := (-1000003)) (by decide +kernel) ?_
      refine kj_goto F dX7_orders_26 (tgt := 41) (by decide) ?_
      exact kn_iret (z := (((o1.2), P) : kx_S × va_W)) F dX7_orders_41 (Nat.le_of_ble_eq_true rfl) (Nat.le_of_ble_eq_true rfl) h
theorem dc_orders {l : Launch} {D : va_G} {cA : Nat → ClassId} {h0 : Nat} {q : Nat → Nat} {P : va_W} {z : kx_S} {x1 : Int32} {K : Int32 → kx_S → va_W → Prop} (h : vc_orders cA x1 z P K) : kn_Mi l yX7_orders wsX7_orders rm_X7_orders D (kx_T cA) (kx_V cA h0 q) (kx_W cA h0 q P z) [.ref h0, .int x1] (fun r u => K r u.1 u.2) :=
  fun sz => kn_start (by decide) rfl (Nat.le_of_ble_eq_true rfl) rfl fun p e s m args below meth c hsz F hN _ => ec_orders F hN h
/-! X7_minor -/
abbrev rm_X7_minor : Room := { frames := 8, cells := 1, slots := 3, locals := 226 }
def vc_minor (cA : Nat → ClassId) (x1 : Int32) (x2 : Int32) (x3 : Int32) (x4 : Int32) (z : kx_S) (P : va_W) (K : Int64 → kx_S → va_W → Prop) : Prop :=
  vx_of cA x1 x2 x3 z P (fun r2 u1z u1p =>
  (r2 = none →
  K ((-1000001) : Int64) u1z u1p) ∧ (∀ a3, r2 = some a3 →
  (x4 < 0 →
  K ((-1000001) : Int64) u1z u1p) ∧ (¬ x4 < 0 →
  (x4 ≤ x1 →
  ∃ u5, kx_bx u1p a3 = some u5 ∧
  ∃ o8, fc_determinant 6 u5.1 u5.2.1 u5.2.2 x4 (0 : Int32) (0 : Int32) = some o8 ∧
  K o8 u1z u1p) ∧ (¬ x4 ≤ x1 →
  K ((-1000001) : Int64) u1z u1p))))
set_option maxRecDepth 20000 in
set_option maxHeartbeats 1000000 in
theorem ec_minor {p : Program} {l : Launch} {e : Env} {s : State} {m : MethodId} {args : Array Value} {below : List Frame} {meth : Method} {c : Code} {A : Nat → Prop} {D : va_G} {cA : Nat → ClassId} {h0 : Nat} {q : Nat → Nat} {P : va_W} {z : kx_S} {x1 : Int32} {x2 : Int32} {x3 : Int32} {x4 : Int32} {K : Int64 → kx_S → va_W → Prop} (F : kj_Fx p s m args meth c cX7_minor 6 wsX7_minor RX7 (some .long) D (kx_T cA) A) (hN : kn_N s) (h : vc_minor cA x1 x2 x3 x4 z P K) : kj_J p l e rm_X7_minor s m args below meth c 0 0 (MQ below (kn_Ql D (kx_T cA) A (kx_V cA h0 q) (fun r u => K r u.1 u.2)) args s 1 3 A) 6 D A (kx_W cA h0 q P z) 0 [(0, .ref h0), (1, .int x1), (2, .int x2), (3, .int x3), (4, .int x4)] [] := by
  unfold vc_minor at h
  refine kj_iload_n F dX7_minor_0 1 rfl rfl ?_
  refine kj_iload_n F dX7_minor_1 2 rfl rfl ?_
  refine kj_iload_n F dX7_minor_2 3 rfl rfl ?_
  refine kn_cSq (As := [.int x1, .int x2, .int x3]) (rest := []) F hN dX7_minor_3 (dx_of h) (va_cwS 3 F.2.2.2.2.1 gX7_minor_X0_of rfl rfl rfl (by decide +kernel) ⟨Nat.le_of_ble_eq_true rfl, Nat.le_of_ble_eq_true rfl⟩) rfl rfl (Nat.le_of_ble_eq_true rfl) ⟨(by exact Nat.le_of_ble_eq_true rfl), (by exact Nat.le_of_ble_eq_true rfl)⟩ (fun r2 u1 h => ?_)
  refine kj_cast (ww' := kx_W cA h0 q u1.2 u1.1) rfl ?_
  refine kn_widen (k := 1) (n := 3) (Nat.le_of_ble_eq_true rfl) (Nat.le_of_ble_eq_true rfl) ?_
  refine kj_astoreq (i := 5) (v := r2) F dX7_minor_6 (lv' := [(5, va_rf r2), (0, .ref h0), (1, .int x1), (2, .int x2), (3, .int x3), (4, .int x4)]) (by decide) rfl ?_
  refine kj_aloadq F dX7_minor_8 0 rfl ?_
  refine kj_ifnull F dX7_minor_10 (tgt := 24) (by decide) (fun e4 => ?_) (fun a3 e4 => ?_)
  · replace h := h.1 e4
    refine kj_ldc2 F dX7_minor_24 (v := (-1000001)) (by decide +kernel) ?_
    exact kn_lret (z := (((u1.1), (u1.2)) : kx_S × va_W)) F dX7_minor_27 (Nat.le_of_ble_eq_true rfl) (Nat.le_of_ble_eq_true rfl) h
  · replace h := h.2 a3 e4
    refine kj_iload F dX7_minor_13 5 rfl ?_
    refine kw_if_lt F dX7_minor_15 (tgt := 24) (by decide) (fun hc => ?_) (fun hc => ?_)
    · replace h := h.1 hc
      refine kj_ldc2 F dX7_minor_24 (v := (-1000001)) (by decide +kernel) ?_
      exact kn_lret (z := (((u1.1), (u1.2)) : kx_S × va_W)) F dX7_minor_27 (Nat.le_of_ble_eq_true rfl) (Nat.le_of_ble_eq_true rfl) h
    · replace h := h.2 hc
      refine kj_iload F dX7_minor_18 5 rfl ?_
      refine kj_iload_n F dX7_minor_20 2 rfl rfl ?_
      refine kw_icmp_le F dX7_minor_21 (tgt := 28) (by decide) (fun hc => ?_) (fun hc => ?_)
      · replace h := h.1 hc
        refine kj_aloadq F dX7_minor_28 0 rfl ?_
        refine kj_deref e4 ?_
        refine kj_iload F dX7_minor_30 5 rfl ?_
        refine kj_iconst F dX7_minor_32 (v := 0) (by decide) ?_
        refine kj_iconst F dX7_minor_33 (v := 0) (by decide) ?_
        obtain ⟨u5, hu6, h⟩ := h
        obtain ⟨iu7, hu6⟩ := kx_bx_at hu6
        obtain ⟨o8, h9, h⟩ := h
        refine kj_cSlp (w := (kx_W cA h0 q (u1.2))) (As := [.ref a3, .int x4, .int (0 : Int32), .int (0 : Int32)]) (rest := []) F dX7_minor_34 (kw_h h9) (fun o h1 => cc_determinant (w := (kx_W cA h0 q (u1.2))) (kx_pool hu6) h1) (va_cwS 4 F.2.2.2.2.1 gX7_minor_X7_determinant rfl rfl rfl (by decide +kernel) ⟨Nat.le_of_ble_eq_true rfl, Nat.le_of_ble_eq_true rfl⟩) rfl rfl (Nat.le_of_ble_eq_true rfl) ⟨(by exact Nat.le_of_ble_eq_true rfl), (by exact Nat.le_of_ble_eq_true rfl)⟩ (kw_e ?_)
        exact kn_lret (z := (((u1.1), (u1.2)) : kx_S × va_W)) F dX7_minor_37 (Nat.le_of_ble_eq_true rfl) (Nat.le_of_ble_eq_true rfl) h
      · replace h := h.2 hc
        refine kj_ldc2 F dX7_minor_24 (v := (-1000001)) (by decide +kernel) ?_
        exact kn_lret (z := (((u1.1), (u1.2)) : kx_S × va_W)) F dX7_minor_27 (Nat.le_of_ble_eq_true rfl) (Nat.le_of_ble_eq_true rfl) h
theorem dc_minor {l : Launch} {D : va_G} {cA : Nat → ClassId} {h0 : Nat} {q : Nat → Nat} {P : va_W} {z : kx_S} {x1 : Int32} {x2 : Int32} {x3 : Int32} {x4 : Int32} {K : Int64 → kx_S → va_W → Prop} (h : vc_minor cA x1 x2 x3 x4 z P K) : kn_Ml l yX7_minor wsX7_minor rm_X7_minor D (kx_T cA) (kx_V cA h0 q) (kx_W cA h0 q P z) [.ref h0, .int x1, .int x2, .int x3, .int x4] (fun r u => K r u.1 u.2) :=
  fun sz => kn_start (by decide) rfl (Nat.le_of_ble_eq_true rfl) rfl fun p e s m args below meth c hsz F hN _ => ec_minor F hN h
/-! X2_gather -/
abbrev rm_X2_gather : Room := { frames := 3, cells := 28, slots := 70, locals := 73 }
theorem in_X2_gather_X2 : ∀ w ∈ u_ws RX2 TX2 2, w ∈ wsX2_gather := by decide +kernel
def vk_gather (cA : Nat → ClassId) (x1 : Nat) (z : kx_S) (P : va_W) (K : Int32 → kx_S → va_W → Prop) : Prop :=
  ∃ z1, kx_pI z 9 (0 : Int32) = some z1 ∧
  ∃ o2, fk_insert P x1 z1 = some o2 ∧
  ∃ v119, kx_hp P x1 = some v119 ∧
  vh_turned cA x1 (0 : Int32) o2 P (fun r5 u4z u4p =>
  ∃ a6, r5 = some a6 ∧
  ∃ o8, fk_insert u4p a6 u4z = some o8 ∧
  ∃ v116, kx_hp u4p x1 = some v116 ∧
  vh_turned cA x1 (1 : Int32) o8 u4p (fun r11 u10z u10p =>
  ∃ a12, r11 = some a12 ∧
  ∃ o14, fk_insert u10p a12 u10z = some o14 ∧
  ∃ v113, kx_hp u10p a12 = some v113 ∧
  vh_turned cA a12 (0 : Int32) o14 u10p (fun r17 u16z u16p =>
  ∃ a18, r17 = some a18 ∧
  ∃ o20, fk_insert u16p a18 u16z = some o20 ∧
  ∃ v110, kx_hp u16p a12 = some v110 ∧
  vh_turned cA a12 (1 : Int32) o20 u16p (fun r23 u22z u22p =>
  ∃ a24, r23 = some a24 ∧
  ∃ o26, fk_insert u22p a24 u22z = some o26 ∧
  ∃ v107, kx_hp u22p a24 = some v107 ∧
  vh_turned cA a24 (0 : Int32) o26 u22p (fun r29 u28z u28p =>
  ∃ a30, r29 = some a30 ∧
  ∃ o32, fk_insert u28p a30 u28z = some o32 ∧
  ∃ v104, kx_hp u28p a24 = some v104 ∧
  vh_turned cA a24 (1 : Int32) o32 u28p (fun r35 u34z u34p =>
  ∃ a36, r35 = some a36 ∧
  ∃ v101, kx_hp u34p a36 = some v101 ∧
  vh_turned cA a36 (2 : Int32) u34z u34p (fun r39 u38z u38p =>
  ∃ a40, r39 = some a40 ∧
  ∃ o42, fk_insert u38p a40 u38z = some o42 ∧
  ∃ v98, kx_hp u38p a40 = some v98 ∧
  vh_turned cA a40 (0 : Int32) o42 u38p (fun r45 u44z u44p =>
  ∃ a46, r45 = some a46 ∧
  ∃ o48, fk_insert u44p a46 u44z = some o48 ∧
  ∃ v95, kx_hp u44p a40 = some v95 ∧
  vh_turned cA a40 (1 : Int32) o48 u44p (fun r51 u50z u50p =>
  ∃ a52, r51 = some a52 ∧
  ∃ o54, fk_insert u50p a52 u50z = some o54 ∧
  ∃ v92, kx_hp u50p a52 = some v92 ∧
  vh_turned cA a52 (0 : Int32) o54 u50p (fun r57 u56z u56p =>
  ∃ a58, r57 = some a58 ∧
  ∃ o60, fk_insert u56p a58 u56z = some o60 ∧
  ∃ v89, kx_hp u56p a52 = some v89 ∧
  vh_turned cA a52 (1 : Int32) o60 u56p (fun r63 u62z u62p =>
  ∃ a64, r63 = some a64 ∧
  ∃ o66, fk_insert u62p a64 u62z = some o66 ∧
  ∃ v86, kx_hp u62p a64 = some v86 ∧
  vh_turned cA a64 (0 : Int32) o66 u62p (fun r69 u68z u68p =>
  ∃ a70, r69 = some a70 ∧
  ∃ o72, fk_insert u68p a70 u68z = some o72 ∧
  ∃ v83, kx_hp u68p a64 = some v83 ∧
  vh_turned cA a64 (1 : Int32) o72 u68p (fun r75 u74z u74p =>
  ∃ a76, r75 = some a76 ∧
  ∃ v80, kx_hp u74p a76 = some v80 ∧
  vh_turned cA a76 (2 : Int32) u74z u74p (fun r79 u78z u78p =>
  K (u78z.1 9) u78z u78p))))))))))))))
set_option maxRecDepth 20000 in
set_option maxHeartbeats 1000000 in
theorem ek_gather {p : Program} {l : Launch} {e : Env} {s : State} {m : MethodId} {args : Array Value} {below : List Frame} {meth : Method} {c : Code} {A : Nat → Prop} {D : va_G} {cA : Nat → ClassId} {h0 : Nat} {q : Nat → Nat} {P : va_W} {z : kx_S} {x1 : Nat} {K : Int32 → kx_S → va_W → Prop} (F : kj_Fx p s m args meth c cX2_gather 5 wsX2_gather RX2 (some .int) D (kx_T cA) A) (hN : kn_N s) (h : vk_gather cA x1 z P K) : kj_J p l e rm_X2_gather s m args below meth c 0 0 (MQ below (kn_Qi D (kx_T cA) A (kx_V cA h0 q) (fun r u => K r u.1 u.2)) args s 28 70 A) 5 D A (kx_W cA h0 q P z) 0 [(0, .ref (q 2)), (1, .ref x1)] [] := by
  unfold vk_gather at h
  refine kj_aload_n F dX2_gather_0 0 rfl rfl ?_
  refine kj_iconst F dX2_gather_1 (v := 0) (by decide) ?_
  obtain ⟨z1, h122, h⟩ := h
  refine kx_pt F dX2_gather_2 in_X2_gather_X2 tyX2 tyX2_ok nmX2 3 rfl rfl 1 9 (by decide) (by decide +kernel) rfl rfl (by decide +kernel) (Nat.le_of_ble_eq_true rfl) (kx_put9 cA h0 q _ _ _) (kw_h h122) (kw_e ?_)
  refine kj_aload_n F dX2_gather_5 1 rfl rfl ?_
  refine kj_astore_n F dX2_gather_6 (lv' := [(2, .ref x1), (0, .ref (q 2)), (1, .ref x1)]) rfl (by decide) rfl ?_
  refine kj_iconst F dX2_gather_7 (v := 0) (by decide) ?_
  refine kj_istore_n F dX2_gather_8 (lv' := [(3, .int (0 : Int32)), (2, .ref x1), (0, .ref (q 2)), (1, .ref x1)]) rfl (by decide) rfl ?_
  refine kj_iload_n F dX2_gather_9 0 rfl rfl ?_
  refine kj_iconst F dX2_gather_10 (v := 2) (by decide) ?_
  refine kw_icmp_ge F dX2_gather_11 (tgt := 61) (by decide) (fun hc => absurd hc (by decide)) (fun hc => ?_)
  refine kj_iconst F dX2_gather_14 (v := 0) (by decide) ?_
  refine kj_istore F dX2_gather_15 (lv' := [(4, .int (0 : Int32)), (3, .int (0 : Int32)), (2, .ref x1), (0, .ref (q 2)), (1, .ref x1)]) (by decide) rfl ?_
  refine kj_iload F dX2_gather_17 0 rfl ?_
  refine kj_iconst F dX2_gather_19 (v := 3) (by decide) ?_
  refine kw_icmp_ge F dX2_gather_20 (tgt := 49) (by decide) (fun hc => absurd hc (by decide)) (fun hc => ?_)
  refine kj_aload_n F dX2_gather_23 3 rfl rfl ?_
  refine kj_aload_n F dX2_gather_24 2 rfl rfl ?_
  obtain ⟨o2, h3, h⟩ := h
  refine kj_cVv (w := (kx_W cA h0 q P)) (As := [.ref x1]) (rest := []) F dX2_gather_25 (kw_h h3) (fun o h1 => ck_insert h1) (cwV 1 F.2.2.2.2.1 gX2_gather_X2_insert rfl rfl rfl (by decide +kernel) ⟨Nat.le_of_ble_eq_true rfl, Nat.le_of_ble_eq_true rfl⟩) 3 rfl rfl rfl rfl rfl (Nat.le_of_ble_eq_true rfl) ⟨(by exact Nat.le_of_ble_eq_true rfl), (by exact Nat.le_of_ble_eq_true rfl)⟩ (kw_e ?_)
  refine kj_aload_n F dX2_gather_28 3 rfl rfl ?_
  refine kj_aload_n F dX2_gather_29 2 rfl rfl ?_
  refine kj_iconst F dX2_gather_30 (v := 0) (by decide) ?_
  obtain ⟨v119, hv120, h⟩ := h
  obtain ⟨iv121, hv120⟩ := kx_hp_at hv120
  refine kn_cVq (As := [.int (0 : Int32)]) (rest := [.ref (q 2)]) F hN dX2_gather_31 (dh_turned h) (cwV 1 F.2.2.2.2.1 gX2_gather_X1_turned rfl rfl rfl (by decide +kernel) ⟨Nat.le_of_ble_eq_true rfl, Nat.le_of_ble_eq_true rfl⟩) _ (kx_pool hv120) rfl rfl rfl rfl (Nat.le_of_ble_eq_true rfl) ⟨(by exact Nat.le_of_ble_eq_true rfl), (by exact Nat.le_of_ble_eq_true rfl)⟩ (fun r5 u4 h => ?_)
  refine kj_cast (ww' := kx_W cA h0 q u4.2 u4.1) rfl ?_
  refine kn_widen (k := 2) (n := 5) (Nat.le_of_ble_eq_true rfl) (Nat.le_of_ble_eq_true rfl) ?_
  obtain ⟨a6, e7, h⟩ := h
  refine kj_steq (st' := [.ref a6, .ref (q 2)]) (by rw [e7]; rfl) ?_
  obtain ⟨o8, h9, h⟩ := h
  refine kj_cVv (w := (kx_W cA h0 q (u4.2))) (As := [.ref a6]) (rest := []) F dX2_gather_34 (kw_h h9) (fun o h1 => ck_insert h1) (cwV 1 F.2.2.2.2.1 gX2_gather_X2_insert rfl rfl rfl (by decide +kernel) ⟨Nat.le_of_ble_eq_true rfl, Nat.le_of_ble_eq_true rfl⟩) 3 rfl rfl rfl rfl rfl (Nat.le_of_ble_eq_true rfl) ⟨(by exact Nat.le_of_ble_eq_true rfl), (by exact Nat.le_of_ble_eq_true rfl)⟩ (kw_e ?_)
  refine kj_aload_n F dX2_gather_37 2 rfl rfl ?_
  refine kj_iconst F dX2_gather_38 (v := 1) (by decide) ?_
  obtain ⟨v116, hv117, h⟩ := h
  obtain ⟨iv118, hv117⟩ := kx_hp_at hv117
  refine kn_cVq (As := [.int (1 : Int32)]) (rest := []) F hN dX2_gather_39 (dh_turned h) (cwV 1 F.2.2.2.2.1 gX2_gather_X1_turned rfl rfl rfl (by decide +kernel) ⟨Nat.le_of_ble_eq_true rfl, Nat.le_of_ble_eq_true rfl⟩) _ (kx_pool hv117) rfl rfl rfl rfl (Nat.le_of_ble_eq_true rfl) ⟨(by exact Nat.le_of_ble_eq_true rfl), (by exact Nat.le_of_ble_eq_true rfl)⟩ (fun r11 u10 h => ?_)
  refine kj_cast (ww' := kx_W cA h0 q u10.2 u10.1) rfl ?_
  refine kn_widen (k := 4) (n := 10) (Nat.le_of_ble_eq_true rfl) (Nat.le_of_ble_eq_true rfl) ?_
  refine kj_astoreq_n (i := 2) (v := r11) F dX2_gather_42 (lv' := [(2, va_rf r11), (4, .int (0 : Int32)), (3, .int (0 : Int32)), (0, .ref (q 2)), (1, .ref x1)]) rfl (by decide) rfl ?_
  refine kj_iinc F dX2_gather_43 1 rfl (v := 1) (by decide) (by decide) (lv' := [(4, .int (1 : Int32)), (2, va_rf r11), (3, .int (0 : Int32)), (0, .ref (q 2)), (1, .ref x1)]) rfl ?_
  refine kj_goto F dX2_gather_46 (tgt := 17) (by decide) ?_
  refine kj_iload F dX2_gather_17 0 rfl ?_
  refine kj_iconst F dX2_gather_19 (v := 3) (by decide) ?_
  refine kw_icmp_ge F dX2_gather_20 (tgt := 49) (by decide) (fun hc => absurd hc (by decide)) (fun hc => ?_)
  refine kj_aload_n F dX2_gather_23 3 rfl rfl ?_
  refine kj_aloadq_n F dX2_gather_24 1 rfl rfl ?_
  obtain ⟨a12, e13, h⟩ := h
  refine kj_steq (st' := [.ref a12, .ref (q 2)]) (by rw [e13]; rfl) ?_
  obtain ⟨o14, h15, h⟩ := h
  refine kj_cVv (w := (kx_W cA h0 q (u10.2))) (As := [.ref a12]) (rest := []) F dX2_gather_25 (kw_h h15) (fun o h1 => ck_insert h1) (cwV 1 F.2.2.2.2.1 gX2_gather_X2_insert rfl rfl rfl (by decide +kernel) ⟨Nat.le_of_ble_eq_true rfl, Nat.le_of_ble_eq_true rfl⟩) 3 rfl rfl rfl rfl rfl (Nat.le_of_ble_eq_true rfl) ⟨(by exact Nat.le_of_ble_eq_true rfl), (by exact Nat.le_of_ble_eq_true rfl)⟩ (kw_e ?_)
  refine kj_aload_n F dX2_gather_28 3 rfl rfl ?_
  refine kj_aloadq_n F dX2_gather_29 1 rfl rfl ?_
  refine kj_deref e13 ?_
  refine kj_iconst F dX2_gather_30 (v := 0) (by decide) ?_
  obtain ⟨v113, hv114, h⟩ := h
  obtain ⟨iv115, hv114⟩ := kx_hp_at hv114
  refine kn_cVq (As := [.int (0 : Int32)]) (rest := [.ref (q 2)]) F hN dX2_gather_31 (dh_turned h) (cwV 1 F.2.2.2.2.1 gX2_gather_X1_turned rfl rfl rfl (by decide +kernel) ⟨Nat.le_of_ble_eq_true rfl, Nat.le_of_ble_eq_true rfl⟩) _ (kx_pool hv114) rfl rfl rfl rfl (Nat.le_of_ble_eq_true rfl) ⟨(by exact Nat.le_of_ble_eq_true rfl), (by exact Nat.le_of_ble_eq_true rfl)⟩ (fun r17 u16 h => ?_)
  refine kj_cast (ww' := kx_W cA h0 q u16.2 u16.1) rfl ?_
  refine kn_widen (k := 6) (n := 15) (Nat.le_of_ble_eq_true rfl) (Nat.le_of_ble_eq_true rfl) ?_
  obtain ⟨a18, e19, h⟩ := h
  refine kj_steq (st' := [.ref a18, .ref (q 2)]) (by rw [e19]; rfl) ?_
  obtain ⟨o20, h21, h⟩ := h
  refine kj_cVv (w := (kx_W cA h0 q (u16.2))) (As := [.ref a18]) (rest := []) F dX2_gather_34 (kw_h h21) (fun o h1 => ck_insert h1) (cwV 1 F.2.2.2.2.1 gX2_gather_X2_insert rfl rfl rfl (by decide +kernel) ⟨Nat.le_of_ble_eq_true rfl, Nat.le_of_ble_eq_true rfl⟩) 3 rfl rfl rfl rfl rfl (Nat.le_of_ble_eq_true rfl) ⟨(by exact Nat.le_of_ble_eq_true rfl), (by exact Nat.le_of_ble_eq_true rfl)⟩ (kw_e ?_)
  refine kj_aloadq_n F dX2_gather_37 1 rfl rfl ?_
  refine kj_deref e13 ?_
  refine kj_iconst F dX2_gather_38 (v := 1) (by decide) ?_
  obtain ⟨v110, hv111, h⟩ := h
  obtain ⟨iv112, hv111⟩ := kx_hp_at hv111
  refine kn_cVq (As := [.int (1 : Int32)]) (rest := []) F hN dX2_gather_39 (dh_turned h) (cwV 1 F.2.2.2.2.1 gX2_gather_X1_turned rfl rfl rfl (by decide +kernel) ⟨Nat.le_of_ble_eq_true rfl, Nat.le_of_ble_eq_true rfl⟩) _ (kx_pool hv111) rfl rfl rfl rfl (Nat.le_of_ble_eq_true rfl) ⟨(by exact Nat.le_of_ble_eq_true rfl), (by exact Nat.le_of_ble_eq_true rfl)⟩ (fun r23 u22 h => ?_)
  refine kj_cast (ww' := kx_W cA h0 q u22.2 u22.1) rfl ?_
  refine kn_widen (k := 8) (n := 20) (Nat.le_of_ble_eq_true rfl) (Nat.le_of_ble_eq_true rfl) ?_
  refine kj_astoreq_n (i := 2) (v := r23) F dX2_gather_42 (lv' := [(2, va_rf r23), (4, .int (1 : Int32)), (3, .int (0 : Int32)), (0, .ref (q 2)), (1, .ref x1)]) rfl (by decide) rfl ?_
  refine kj_iinc F dX2_gather_43 1 rfl (v := 1) (by decide) (by decide) (lv' := [(4, .int (2 : Int32)), (2, va_rf r23), (3, .int (0 : Int32)), (0, .ref (q 2)), (1, .ref x1)]) rfl ?_
  refine kj_goto F dX2_gather_46 (tgt := 17) (by decide) ?_
  refine kj_iload F dX2_gather_17 0 rfl ?_
  refine kj_iconst F dX2_gather_19 (v := 3) (by decide) ?_
  refine kw_icmp_ge F dX2_gather_20 (tgt := 49) (by decide) (fun hc => absurd hc (by decide)) (fun hc => ?_)
  refine kj_aload_n F dX2_gather_23 3 rfl rfl ?_
  refine kj_aloadq_n F dX2_gather_24 1 rfl rfl ?_
  obtain ⟨a24, e25, h⟩ := h
  refine kj_steq (st' := [.ref a24, .ref (q 2)]) (by rw [e25]; rfl) ?_
  obtain ⟨o26, h27, h⟩ := h
  refine kj_cVv (w := (kx_W cA h0 q (u22.2))) (As := [.ref a24]) (rest := []) F dX2_gather_25 (kw_h h27) (fun o h1 => ck_insert h1) (cwV 1 F.2.2.2.2.1 gX2_gather_X2_insert rfl rfl rfl (by decide +kernel) ⟨Nat.le_of_ble_eq_true rfl, Nat.le_of_ble_eq_true rfl⟩) 3 rfl rfl rfl rfl rfl (Nat.le_of_ble_eq_true rfl) ⟨(by exact Nat.le_of_ble_eq_true rfl), (by exact Nat.le_of_ble_eq_true rfl)⟩ (kw_e ?_)
  refine kj_aload_n F dX2_gather_28 3 rfl rfl ?_
  refine kj_aloadq_n F dX2_gather_29 1 rfl rfl ?_
  refine kj_deref e25 ?_
  refine kj_iconst F dX2_gather_30 (v := 0) (by decide) ?_
  obtain ⟨v107, hv108, h⟩ := h
  obtain ⟨iv109, hv108⟩ := kx_hp_at hv108
  refine kn_cVq (As := [.int (0 : Int32)]) (rest := [.ref (q 2)]) F hN dX2_gather_31 (dh_turned h) (cwV 1 F.2.2.2.2.1 gX2_gather_X1_turned rfl rfl rfl (by decide +kernel) ⟨Nat.le_of_ble_eq_true rfl, Nat.le_of_ble_eq_true rfl⟩) _ (kx_pool hv108) rfl rfl rfl rfl (Nat.le_of_ble_eq_true rfl) ⟨(by exact Nat.le_of_ble_eq_true rfl), (by exact Nat.le_of_ble_eq_true rfl)⟩ (fun r29 u28 h => ?_)
  refine kj_cast (ww' := kx_W cA h0 q u28.2 u28.1) rfl ?_
  refine kn_widen (k := 10) (n := 25) (Nat.le_of_ble_eq_true rfl) (Nat.le_of_ble_eq_true rfl) ?_
  obtain ⟨a30, e31, h⟩ := h
  refine kj_steq (st' := [.ref a30, .ref (q 2)]) (by rw [e31]; rfl) ?_
  obtain ⟨o32, h33, h⟩ := h
  refine kj_cVv (w := (kx_W cA h0 q (u28.2))) (As := [.ref a30]) (rest := []) F dX2_gather_34 (kw_h h33) (fun o h1 => ck_insert h1) (cwV 1 F.2.2.2.2.1 gX2_gather_X2_insert rfl rfl rfl (by decide +kernel) ⟨Nat.le_of_ble_eq_true rfl, Nat.le_of_ble_eq_true rfl⟩) 3 rfl rfl rfl rfl rfl (Nat.le_of_ble_eq_true rfl) ⟨(by exact Nat.le_of_ble_eq_true rfl), (by exact Nat.le_of_ble_eq_true rfl)⟩ (kw_e ?_)
  refine kj_aloadq_n F dX2_gather_37 1 rfl rfl ?_
  refine kj_deref e25 ?_
  refine kj_iconst F dX2_gather_38 (v := 1) (by decide) ?_
  obtain ⟨v104, hv105, h⟩ := h
  obtain ⟨iv106, hv105⟩ := kx_hp_at hv105
  refine kn_cVq (As := [.int (1 : Int32)]) (rest := []) F hN dX2_gather_39 (dh_turned h) (cwV 1 F.2.2.2.2.1 gX2_gather_X1_turned rfl rfl rfl (by decide +kernel) ⟨Nat.le_of_ble_eq_true rfl, Nat.le_of_ble_eq_true rfl⟩) _ (kx_pool hv105) rfl rfl rfl rfl (Nat.le_of_ble_eq_true rfl) ⟨(by exact Nat.le_of_ble_eq_true rfl), (by exact Nat.le_of_ble_eq_true rfl)⟩ (fun r35 u34 h => ?_)
  refine kj_cast (ww' := kx_W cA h0 q u34.2 u34.1) rfl ?_
  refine kn_widen (k := 12) (n := 30) (Nat.le_of_ble_eq_true rfl) (Nat.le_of_ble_eq_true rfl) ?_
  refine kj_astoreq_n (i := 2) (v := r35) F dX2_gather_42 (lv' := [(2, va_rf r35), (4, .int (2 : Int32)), (3, .int (0 : Int32)), (0, .ref (q 2)), (1, .ref x1)]) rfl (by decide) rfl ?_
  refine kj_iinc F dX2_gather_43 1 rfl (v := 1) (by decide) (by decide) (lv' := [(4, .int (3 : Int32)), (2, va_rf r35), (3, .int (0 : Int32)), (0, .ref (q 2)), (1, .ref x1)]) rfl ?_
  refine kj_goto F dX2_gather_46 (tgt := 17) (by decide) ?_
  refine kj_iload F dX2_gather_17 0 rfl ?_
  refine kj_iconst F dX2_gather_19 (v := 3) (by decide) ?_
  refine kw_icmp_ge F dX2_gather_20 (tgt := 49) (by decide) (fun hc => ?_) (fun hc => absurd (by decide) hc)
  refine kj_aloadq_n F dX2_gather_49 1 rfl rfl ?_
  refine kj_iconst F dX2_gather_50 (v := 2) (by decide) ?_
  obtain ⟨a36, e37, h⟩ := h
  refine kj_steq (st' := [.int (2 : Int32), .ref a36]) (by rw [e37]; rfl) ?_
  obtain ⟨v101, hv102, h⟩ := h
  obtain ⟨iv103, hv102⟩ := kx_hp_at hv102
  refine kn_cVq (As := [.int (2 : Int32)]) (rest := []) F hN dX2_gather_51 (dh_turned h) (cwV 1 F.2.2.2.2.1 gX2_gather_X1_turned rfl rfl rfl (by decide +kernel) ⟨Nat.le_of_ble_eq_true rfl, Nat.le_of_ble_eq_true rfl⟩) _ (kx_pool hv102) rfl rfl rfl rfl (Nat.le_of_ble_eq_true rfl) ⟨(by exact Nat.le_of_ble_eq_true rfl), (by exact Nat.le_of_ble_eq_true rfl)⟩ (fun r39 u38 h => ?_)
  refine kj_cast (ww' := kx_W cA h0 q u38.2 u38.1) rfl ?_
  refine kn_widen (k := 14) (n := 35) (Nat.le_of_ble_eq_true rfl) (Nat.le_of_ble_eq_true rfl) ?_
  refine kj_astoreq_n (i := 2) (v := r39) F dX2_gather_54 (lv' := [(2, va_rf r39), (4, .int (3 : Int32)), (3, .int (0 : Int32)), (0, .ref (q 2)), (1, .ref x1)]) rfl (by decide) rfl ?_
  refine kj_iinc F dX2_gather_55 2 rfl (v := 1) (by decide) (by decide) (lv' := [(3, .int (1 : Int32)), (2, va_rf r39), (4, .int (3 : Int32)), (0, .ref (q 2)), (1, .ref x1)]) (by simp [kj_cat]) ?_
  refine kj_goto F dX2_gather_58 (tgt := 9) (by decide) ?_
  refine kj_iload_n F dX2_gather_9 0 rfl rfl ?_
  refine kj_iconst F dX2_gather_10 (v := 2) (by decide) ?_
  refine kw_icmp_ge F dX2_gather_11 (tgt := 61) (by decide) (fun hc => absurd hc (by decide)) (fun hc => ?_)
  refine kj_iconst F dX2_gather_14 (v := 0) (by decide) ?_
  refine kj_istore F dX2_gather_15 (lv' := [(4, .int (0 : Int32)), (3, .int (1 : Int32)), (2, va_rf r39), (0, .ref (q 2)), (1, .ref x1)]) (by decide) rfl ?_
  refine kj_iload F dX2_gather_17 0 rfl ?_
  refine kj_iconst F dX2_gather_19 (v := 3) (by decide) ?_
  refine kw_icmp_ge F dX2_gather_20 (tgt := 49) (by decide) (fun hc => absurd hc (by decide)) (fun hc => ?_)
  refine kj_aload_n F dX2_gather_23 3 rfl rfl ?_
  refine kj_aloadq_n F dX2_gather_24 2 rfl rfl ?_
  obtain ⟨a40, e41, h⟩ := h
  refine kj_steq (st' := [.ref a40, .ref (q 2)]) (by rw [e41]; rfl) ?_
  obtain ⟨o42, h43, h⟩ := h
  refine kj_cVv (w := (kx_W cA h0 q (u38.2))) (As := [.ref a40]) (rest := []) F dX2_gather_25 (kw_h h43) (fun o h1 => ck_insert h1) (cwV 1 F.2.2.2.2.1 gX2_gather_X2_insert rfl rfl rfl (by decide +kernel) ⟨Nat.le_of_ble_eq_true rfl, Nat.le_of_ble_eq_true rfl⟩) 3 rfl rfl rfl rfl rfl (Nat.le_of_ble_eq_true rfl) ⟨(by exact Nat.le_of_ble_eq_true rfl), (by exact Nat.le_of_ble_eq_true rfl)⟩ (kw_e ?_)
  refine kj_aload_n F dX2_gather_28 3 rfl rfl ?_
  refine kj_aloadq_n F dX2_gather_29 2 rfl rfl ?_
  refine kj_deref e41 ?_
  refine kj_iconst F dX2_gather_30 (v := 0) (by decide) ?_
  obtain ⟨v98, hv99, h⟩ := h
  obtain ⟨iv100, hv99⟩ := kx_hp_at hv99
  refine kn_cVq (As := [.int (0 : Int32)]) (rest := [.ref (q 2)]) F hN dX2_gather_31 (dh_turned h) (cwV 1 F.2.2.2.2.1 gX2_gather_X1_turned rfl rfl rfl (by decide +kernel) ⟨Nat.le_of_ble_eq_true rfl, Nat.le_of_ble_eq_true rfl⟩) _ (kx_pool hv99) rfl rfl rfl rfl (Nat.le_of_ble_eq_true rfl) ⟨(by exact Nat.le_of_ble_eq_true rfl), (by exact Nat.le_of_ble_eq_true rfl)⟩ (fun r45 u44 h => ?_)
  refine kj_cast (ww' := kx_W cA h0 q u44.2 u44.1) rfl ?_
  refine kn_widen (k := 16) (n := 40) (Nat.le_of_ble_eq_true rfl) (Nat.le_of_ble_eq_true rfl) ?_
  obtain ⟨a46, e47, h⟩ := h
  refine kj_steq (st' := [.ref a46, .ref (q 2)]) (by rw [e47]; rfl) ?_
  obtain ⟨o48, h49, h⟩ := h
  refine kj_cVv (w := (kx_W cA h0 q (u44.2))) (As := [.ref a46]) (rest := []) F dX2_gather_34 (kw_h h49) (fun o h1 => ck_insert h1) (cwV 1 F.2.2.2.2.1 gX2_gather_X2_insert rfl rfl rfl (by decide +kernel) ⟨Nat.le_of_ble_eq_true rfl, Nat.le_of_ble_eq_true rfl⟩) 3 rfl rfl rfl rfl rfl (Nat.le_of_ble_eq_true rfl) ⟨(by exact Nat.le_of_ble_eq_true rfl), (by exact Nat.le_of_ble_eq_true rfl)⟩ (kw_e ?_)
  refine kj_aloadq_n F dX2_gather_37 2 rfl rfl ?_
  refine kj_deref e41 ?_
  refine kj_iconst F dX2_gather_38 (v := 1) (by decide) ?_
  obtain ⟨v95, hv96, h⟩ := h
  obtain ⟨iv97, hv96⟩ := kx_hp_at hv96
  refine kn_cVq (As := [.int (1 : Int32)]) (rest := []) F hN dX2_gather_39 (dh_turned h) (cwV 1 F.2.2.2.2.1 gX2_gather_X1_turned rfl rfl rfl (by decide +kernel) ⟨Nat.le_of_ble_eq_true rfl, Nat.le_of_ble_eq_true rfl⟩) _ (kx_pool hv96) rfl rfl rfl rfl (Nat.le_of_ble_eq_true rfl) ⟨(by exact Nat.le_of_ble_eq_true rfl), (by exact Nat.le_of_ble_eq_true rfl)⟩ (fun r51 u50 h => ?_)
  refine kj_cast (ww' := kx_W cA h0 q u50.2 u50.1) rfl ?_
  refine kn_widen (k := 18) (n := 45) (Nat.le_of_ble_eq_true rfl) (Nat.le_of_ble_eq_true rfl) ?_
  refine kj_astoreq_n (i := 2) (v := r51) F dX2_gather_42 (lv' := [(2, va_rf r51), (4, .int (0 : Int32)), (3, .int (1 : Int32)), (0, .ref (q 2)), (1, .ref x1)]) rfl (by decide) rfl ?_
  refine kj_iinc F dX2_gather_43 1 rfl (v := 1) (by decide) (by decide) (lv' := [(4, .int (1 : Int32)), (2, va_rf r51), (3, .int (1 : Int32)), (0, .ref (q 2)), (1, .ref x1)]) rfl ?_
  refine kj_goto F dX2_gather_46 (tgt := 17) (by decide) ?_
  refine kj_iload F dX2_gather_17 0 rfl ?_
  refine kj_iconst F dX2_gather_19 (v := 3) (by decide) ?_
  refine kw_icmp_ge F dX2_gather_20 (tgt := 49) (by decide) (fun hc => absurd hc (by decide)) (fun hc => ?_)
  refine kj_aload_n F dX2_gather_23 3 rfl rfl ?_
  refine kj_aloadq_n F dX2_gather_24 1 rfl rfl ?_
  obtain ⟨a52, e53, h⟩ := h
  refine kj_steq (st' := [.ref a52, .ref (q 2)]) (by rw [e53]; rfl) ?_
  obtain ⟨o54, h55, h⟩ := h
  refine kj_cVv (w := (kx_W cA h0 q (u50.2))) (As := [.ref a52]) (rest := []) F dX2_gather_25 (kw_h h55) (fun o h1 => ck_insert h1) (cwV 1 F.2.2.2.2.1 gX2_gather_X2_insert rfl rfl rfl (by decide +kernel) ⟨Nat.le_of_ble_eq_true rfl, Nat.le_of_ble_eq_true rfl⟩) 3 rfl rfl rfl rfl rfl (Nat.le_of_ble_eq_true rfl) ⟨(by exact Nat.le_of_ble_eq_true rfl), (by exact Nat.le_of_ble_eq_true rfl)⟩ (kw_e ?_)
  refine kj_aload_n F dX2_gather_28 3 rfl rfl ?_
  refine kj_aloadq_n F dX2_gather_29 1 rfl rfl ?_
  refine kj_deref e53 ?_
  refine kj_iconst F dX2_gather_30 (v := 0) (by decide) ?_
  obtain ⟨v92, hv93, h⟩ := h
  obtain ⟨iv94, hv93⟩ := kx_hp_at hv93
  refine kn_cVq (As := [.int (0 : Int32)]) (rest := [.ref (q 2)]) F hN dX2_gather_31 (dh_turned h) (cwV 1 F.2.2.2.2.1 gX2_gather_X1_turned rfl rfl rfl (by decide +kernel) ⟨Nat.le_of_ble_eq_true rfl, Nat.le_of_ble_eq_true rfl⟩) _ (kx_pool hv93) rfl rfl rfl rfl (Nat.le_of_ble_eq_true rfl) ⟨(by exact Nat.le_of_ble_eq_true rfl), (by exact Nat.le_of_ble_eq_true rfl)⟩ (fun r57 u56 h => ?_)
  refine kj_cast (ww' := kx_W cA h0 q u56.2 u56.1) rfl ?_
  refine kn_widen (k := 20) (n := 50) (Nat.le_of_ble_eq_true rfl) (Nat.le_of_ble_eq_true rfl) ?_
  obtain ⟨a58, e59, h⟩ := h
  refine kj_steq (st' := [.ref a58, .ref (q 2)]) (by rw [e59]; rfl) ?_
  obtain ⟨o60, h61, h⟩ := h
  refine kj_cVv (w := (kx_W cA h0 q (u56.2))) (As := [.ref a58]) (rest := []) F dX2_gather_34 (kw_h h61) (fun o h1 => ck_insert h1) (cwV 1 F.2.2.2.2.1 gX2_gather_X2_insert rfl rfl rfl (by decide +kernel) ⟨Nat.le_of_ble_eq_true rfl, Nat.le_of_ble_eq_true rfl⟩) 3 rfl rfl rfl rfl rfl (Nat.le_of_ble_eq_true rfl) ⟨(by exact Nat.le_of_ble_eq_true rfl), (by exact Nat.le_of_ble_eq_true rfl)⟩ (kw_e ?_)
  refine kj_aloadq_n F dX2_gather_37 1 rfl rfl ?_
  refine kj_deref e53 ?_
  refine kj_iconst F dX2_gather_38 (v := 1) (by decide) ?_
  obtain ⟨v89, hv90, h⟩ := h
  obtain ⟨iv91, hv90⟩ := kx_hp_at hv90
  refine kn_cVq (As := [.int (1 : Int32)]) (rest := []) F hN dX2_gather_39 (dh_turned h) (cwV 1 F.2.2.2.2.1 gX2_gather_X1_turned rfl rfl rfl (by decide +kernel) ⟨Nat.le_of_ble_eq_true rfl, Nat.le_of_ble_eq_true rfl⟩) _ (kx_pool hv90) rfl rfl rfl rfl (Nat.le_of_ble_eq_true rfl) ⟨(by exact Nat.le_of_ble_eq_true rfl), (by exact Nat.le_of_ble_eq_true rfl)⟩ (fun r63 u62 h => ?_)
  refine kj_cast (ww' := kx_W cA h0 q u62.2 u62.1) rfl ?_
  refine kn_widen (k := 22) (n := 55) (Nat.le_of_ble_eq_true rfl) (Nat.le_of_ble_eq_true rfl) ?_
  refine kj_astoreq_n (i := 2) (v := r63) F dX2_gather_42 (lv' := [(2, va_rf r63), (4, .int (1 : Int32)), (3, .int (1 : Int32)), (0, .ref (q 2)), (1, .ref x1)]) rfl (by decide) rfl ?_
  refine kj_iinc F dX2_gather_43 1 rfl (v := 1) (by decide) (by decide) (lv' := [(4, .int (2 : Int32)), (2, va_rf r63), (3, .int (1 : Int32)), (0, .ref (q 2)), (1, .ref x1)]) rfl ?_
  refine kj_goto F dX2_gather_46 (tgt := 17) (by decide) ?_
  refine kj_iload F dX2_gather_17 0 rfl ?_
  refine kj_iconst F dX2_gather_19 (v := 3) (by decide) ?_
  refine kw_icmp_ge F dX2_gather_20 (tgt := 49) (by decide) (fun hc => absurd hc (by decide)) (fun hc => ?_)
  refine kj_aload_n F dX2_gather_23 3 rfl rfl ?_
  refine kj_aloadq_n F dX2_gather_24 1 rfl rfl ?_
  obtain ⟨a64, e65, h⟩ := h
  refine kj_steq (st' := [.ref a64, .ref (q 2)]) (by rw [e65]; rfl) ?_
  obtain ⟨o66, h67, h⟩ := h
  refine kj_cVv (w := (kx_W cA h0 q (u62.2))) (As := [.ref a64]) (rest := []) F dX2_gather_25 (kw_h h67) (fun o h1 => ck_insert h1) (cwV 1 F.2.2.2.2.1 gX2_gather_X2_insert rfl rfl rfl (by decide +kernel) ⟨Nat.le_of_ble_eq_true rfl, Nat.le_of_ble_eq_true rfl⟩) 3 rfl rfl rfl rfl rfl (Nat.le_of_ble_eq_true rfl) ⟨(by exact Nat.le_of_ble_eq_true rfl), (by exact Nat.le_of_ble_eq_true rfl)⟩ (kw_e ?_)
  refine kj_aload_n F dX2_gather_28 3 rfl rfl ?_
  refine kj_aloadq_n F dX2_gather_29 1 rfl rfl ?_
  refine kj_deref e65 ?_
  refine kj_iconst F dX2_gather_30 (v := 0) (by decide) ?_
  obtain ⟨v86, hv87, h⟩ := h
  obtain ⟨iv88, hv87⟩ := kx_hp_at hv87
  refine kn_cVq (As := [.int (0 : Int32)]) (rest := [.ref (q 2)]) F hN dX2_gather_31 (dh_turned h) (cwV 1 F.2.2.2.2.1 gX2_gather_X1_turned rfl rfl rfl (by decide +kernel) ⟨Nat.le_of_ble_eq_true rfl, Nat.le_of_ble_eq_true rfl⟩) _ (kx_pool hv87) rfl rfl rfl rfl (Nat.le_of_ble_eq_true rfl) ⟨(by exact Nat.le_of_ble_eq_true rfl), (by exact Nat.le_of_ble_eq_true rfl)⟩ (fun r69 u68 h => ?_)
  refine kj_cast (ww' := kx_W cA h0 q u68.2 u68.1) rfl ?_
  refine kn_widen (k := 24) (n := 60) (Nat.le_of_ble_eq_true rfl) (Nat.le_of_ble_eq_true rfl) ?_
  obtain ⟨a70, e71, h⟩ := h
  refine kj_steq (st' := [.ref a70, .ref (q 2)]) (by rw [e71]; rfl) ?_
  obtain ⟨o72, h73, h⟩ := h
  refine kj_cVv (w := (kx_W cA h0 q (u68.2))) (As := [.ref a70]) (rest := []) F dX2_gather_34 (kw_h h73) (fun o h1 => ck_insert h1) (cwV 1 F.2.2.2.2.1 gX2_gather_X2_insert rfl rfl rfl (by decide +kernel) ⟨Nat.le_of_ble_eq_true rfl, Nat.le_of_ble_eq_true rfl⟩) 3 rfl rfl rfl rfl rfl (Nat.le_of_ble_eq_true rfl) ⟨(by exact Nat.le_of_ble_eq_true rfl), (by exact Nat.le_of_ble_eq_true rfl)⟩ (kw_e ?_)
  refine kj_aloadq_n F dX2_gather_37 1 rfl rfl ?_
  refine kj_deref e65 ?_
  refine kj_iconst F dX2_gather_38 (v := 1) (by decide) ?_
  obtain ⟨v83, hv84, h⟩ := h
  obtain ⟨iv85, hv84⟩ := kx_hp_at hv84
  refine kn_cVq (As := [.int (1 : Int32)]) (rest := []) F hN dX2_gather_39 (dh_turned h) (cwV 1 F.2.2.2.2.1 gX2_gather_X1_turned rfl rfl rfl (by decide +kernel) ⟨Nat.le_of_ble_eq_true rfl, Nat.le_of_ble_eq_true rfl⟩) _ (kx_pool hv84) rfl rfl rfl rfl (Nat.le_of_ble_eq_true rfl) ⟨(by exact Nat.le_of_ble_eq_true rfl), (by exact Nat.le_of_ble_eq_true rfl)⟩ (fun r75 u74 h => ?_)
  refine kj_cast (ww' := kx_W cA h0 q u74.2 u74.1) rfl ?_
  refine kn_widen (k := 26) (n := 65) (Nat.le_of_ble_eq_true rfl) (Nat.le_of_ble_eq_true rfl) ?_
  refine kj_astoreq_n (i := 2) (v := r75) F dX2_gather_42 (lv' := [(2, va_rf r75), (4, .int (2 : Int32)), (3, .int (1 : Int32)), (0, .ref (q 2)), (1, .ref x1)]) rfl (by decide) rfl ?_
  refine kj_iinc F dX2_gather_43 1 rfl (v := 1) (by decide) (by decide) (lv' := [(4, .int (3 : Int32)), (2, va_rf r75), (3, .int (1 : Int32)), (0, .ref (q 2)), (1, .ref x1)]) rfl ?_
  refine kj_goto F dX2_gather_46 (tgt := 17) (by decide) ?_
  refine kj_iload F dX2_gather_17 0 rfl ?_
  refine kj_iconst F dX2_gather_19 (v := 3) (by decide) ?_
  refine kw_icmp_ge F dX2_gather_20 (tgt := 49) (by decide) (fun hc => ?_) (fun hc => absurd (by decide) hc)
  refine kj_aloadq_n F dX2_gather_49 1 rfl rfl ?_
  refine kj_iconst F dX2_gather_50 (v := 2) (by decide) ?_
  obtain ⟨a76, e77, h⟩ := h
  refine kj_steq (st' := [.int (2 : Int32), .ref a76]) (by rw [e77]; rfl) ?_
  obtain ⟨v80, hv81, h⟩ := h
  obtain ⟨iv82, hv81⟩ := kx_hp_at hv81
  refine kn_cVq (As := [.int (2 : Int32)]) (rest := []) F hN dX2_gather_51 (dh_turned h) (cwV 1 F.2.2.2.2.1 gX2_gather_X1_turned rfl rfl rfl (by decide +kernel) ⟨Nat.le_of_ble_eq_true rfl, Nat.le_of_ble_eq_true rfl⟩) _ (kx_pool hv81) rfl rfl rfl rfl (Nat.le_of_ble_eq_true rfl) ⟨(by exact Nat.le_of_ble_eq_true rfl), (by exact Nat.le_of_ble_eq_true rfl)⟩ (fun r79 u78 h => ?_)
  refine kj_cast (ww' := kx_W cA h0 q u78.2 u78.1) rfl ?_
  refine kn_widen (k := 28) (n := 70) (Nat.le_of_ble_eq_true rfl) (Nat.le_of_ble_eq_true rfl) ?_
  refine kj_astoreq_n (i := 2) (v := r79) F dX2_gather_54 (lv' := [(2, va_rf r79), (4, .int (3 : Int32)), (3, .int (1 : Int32)), (0, .ref (q 2)), (1, .ref x1)]) rfl (by decide) rfl ?_
  refine kj_iinc F dX2_gather_55 2 rfl (v := 1) (by decide) (by decide) (lv' := [(3, .int (2 : Int32)), (2, va_rf r79), (4, .int (3 : Int32)), (0, .ref (q 2)), (1, .ref x1)]) (by simp [kj_cat]) ?_
  refine kj_goto F dX2_gather_58 (tgt := 9) (by decide) ?_
  refine kj_iload_n F dX2_gather_9 0 rfl rfl ?_
  refine kj_iconst F dX2_gather_10 (v := 2) (by decide) ?_
  refine kw_icmp_ge F dX2_gather_11 (tgt := 61) (by decide) (fun hc => ?_) (fun hc => absurd (by decide) hc)
  refine kj_aload_n F dX2_gather_61 3 rfl rfl ?_
  refine kj_get F dX2_gather_62 in_X2_gather_X2 3 rfl rfl 1 (by decide) (by decide +kernel) rfl rfl ?_
  exact kn_iret (z := (((u78.1), (u78.2)) : kx_S × va_W)) F dX2_gather_65 (Nat.le_of_ble_eq_true rfl) (Nat.le_of_ble_eq_true rfl) h
theorem dk_gather {l : Launch} {D : va_G} {cA : Nat → ClassId} {h0 : Nat} {q : Nat → Nat} {P : va_W} {z : kx_S} {x1 : Nat} {K : Int32 → kx_S → va_W → Prop} (h : vk_gather cA x1 z P K) : kn_Mi l yX2_gather wsX2_gather rm_X2_gather D (kx_T cA) (kx_V cA h0 q) (kx_W cA h0 q P z) [.ref (q 2), .ref x1] (fun r u => K r u.1 u.2) :=
  fun sz => kn_start (by decide) rfl (Nat.le_of_ble_eq_true rfl) rfl fun p e s m args below meth c hsz F hN _ => ek_gather F hN h
/-! X7_whole -/
abbrev rm_X7_whole : Room := { frames := 6, cells := 28, slots := 572, locals := 146 }
theorem in_X7_whole_X0 : ∀ w ∈ u_ws RX0 TX0 3, w ∈ wsX7_whole := by decide +kernel
theorem in_X7_whole_X1 : ∀ w ∈ u_ws RX1 TX1 2, w ∈ wsX7_whole := by decide +kernel
theorem in_X7_whole_X7 : ∀ w ∈ u_ws RX7 TX7 10, w ∈ wsX7_whole := by decide +kernel
def vc_whole (cA : Nat → ClassId) (x1 : Int32) (x2 : Int32) (z : kx_S) (P : va_W) (K : Int32 → kx_S → va_W → Prop) : Prop :=
  ∃ o1, fc_heapAt P x1 z = some o1 ∧
  ((o1.1) = none →
  K ((-1000001) : Int32) (o1.2) P) ∧ (∀ a3, (o1.1) = some a3 →
  (x2 = 0 →
  ∃ v5, kx_hp P a3 = some v5 ∧
  ∃ v6, kx_bx P (v5.1) = some v6 ∧
  K (v6.1) (o1.2) P) ∧ (¬ x2 = 0 →
  (x2 = 1 →
  ∃ v9, kx_hp P a3 = some v9 ∧
  ∃ v10, kx_bx P (v9.1) = some v10 ∧
  K (v10.2.1) (o1.2) P) ∧ (¬ x2 = 1 →
  (x2 = 2 →
  ∃ v13, kx_hp P a3 = some v13 ∧
  ∃ v14, kx_bx P (v13.1) = some v14 ∧
  K (v14.2.2) (o1.2) P) ∧ (¬ x2 = 2 →
  (x2 = 3 →
  ∃ u17, kx_hp P a3 = some u17 ∧
  ∃ o20, fh_volume u17.2 = some o20 ∧
  K o20 (o1.2) P) ∧ (¬ x2 = 3 →
  (x2 = 4 →
  vc_numberOf cA a3 (o1.2) P (fun r23 u22z u22p =>
  K r23 u22z u22p)) ∧ (¬ x2 = 4 →
  (x2 = 5 →
  ∃ v24, kx_hp P a3 = some v24 ∧
  ∃ v25, kx_hp P a3 = some v25 ∧
  ∃ u26, kx_bx P (v24.1) = some u26 ∧
  ∃ o29, fx_trace u26.1 u26.2.1 u26.2.2 (v25.2) = some o29 ∧
  K o29 (o1.2) P) ∧ (¬ x2 = 5 →
  (x2 = 6 →
  ∃ v33, kx_hp P a3 = some v33 ∧
  ∃ v34, kx_hp P a3 = some v34 ∧
  ∃ u35, kx_bx P (v33.1) = some u35 ∧
  ∃ o38, fx_changingCells u35.1 u35.2.1 u35.2.2 (v34.2) (1 : Int32) = some o38 ∧
  K o38 (o1.2) P) ∧ (¬ x2 = 6 →
  (x2 = 7 →
  ∃ v42, kx_hp P a3 = some v42 ∧
  ∃ v43, kx_hp P a3 = some v43 ∧
  ∃ u44, kx_bx P (v42.1) = some u44 ∧
  ∃ o47, fx_changingCells u44.1 u44.2.1 u44.2.2 (v43.2) (0 : Int32) = some o47 ∧
  K o47 (o1.2) P) ∧ (¬ x2 = 7 →
  (x2 = 8 →
  ∃ v51, kx_hp P a3 = some v51 ∧
  ∃ v52, kx_hp P a3 = some v52 ∧
  ∃ u53, kx_bx P (v51.1) = some u53 ∧
  ∃ o56, fx_symmetries u53.1 u53.2.1 u53.2.2 (v52.2) = some o56 ∧
  K o56 (o1.2) P) ∧ (¬ x2 = 8 →
  (x2 = 9 →
  vk_gather cA a3 (o1.2) P (fun r61 u60z u60p =>
  K r61 u60z u60p)) ∧ (¬ x2 = 9 →
  K ((-1000001) : Int32) (o1.2) P)))))))))))
set_option maxRecDepth 20000 in
set_option maxHeartbeats 1000000 in
theorem ec_whole {p : Program} {l : Launch} {e : Env} {s : State} {m : MethodId} {args : Array Value} {below : List Frame} {meth : Method} {c : Code} {A : Nat → Prop} {D : va_G} {cA : Nat → ClassId} {h0 : Nat} {q : Nat → Nat} {P : va_W} {z : kx_S} {x1 : Int32} {x2 : Int32} {K : Int32 → kx_S → va_W → Prop} (F : kj_Fx p s m args meth c cX7_whole 4 wsX7_whole RX7 (some .int) D (kx_T cA) A) (hN : kn_N s) (h : vc_whole cA x1 x2 z P K) : kj_J p l e rm_X7_whole s m args below meth c 0 0 (MQ below (kn_Qi D (kx_T cA) A (kx_V cA h0 q) (fun r u => K r u.1 u.2)) args s 28 572 A) 4 D A (kx_W cA h0 q P z) 0 [(0, .ref h0), (1, .int x1), (2, .int x2)] [] := by
  unfold vc_whole at h
  refine kj_aload_n F dX7_whole_0 0 rfl rfl ?_
  refine kj_iload_n F dX7_whole_1 1 rfl rfl ?_
  obtain ⟨o1, h2, h⟩ := h
  refine kj_cVq (w := (kx_W cA h0 q P)) (As := [.int x1]) (rest := []) F dX7_whole_2 (kw_h h2) (fun o h1 => cc_heapAt h1) (cwV 1 F.2.2.2.2.1 gX7_whole_X7_heapAt rfl rfl rfl (by decide +kernel) ⟨Nat.le_of_ble_eq_true rfl, Nat.le_of_ble_eq_true rfl⟩) 0 rfl rfl rfl rfl rfl (Nat.le_of_ble_eq_true rfl) ⟨(by exact Nat.le_of_ble_eq_true rfl), (by exact Nat.le_of_ble_eq_true rfl)⟩ (kw_e ?_)
  refine kj_astoreq_n (i := 3) (v := (o1.1)) F dX7_whole_5 (lv' := [(3, va_rf (o1.1)), (0, .ref h0), (1, .int x1), (2, .int x2)]) rfl (by decide) rfl ?_
  refine kj_aloadq_n F dX7_whole_6 0 rfl rfl ?_
  refine kj_ifnonnull F dX7_whole_7 (tgt := 13) (by decide) (fun e4 => ?_) (fun a3 e4 => ?_)
  · replace h := h.1 e4
    refine kj_ldc F dX7_whole_10 (v := (-1000001)) (by decide +kernel) ?_
    exact kn_iret (z := (((o1.2), P) : kx_S × va_W)) F dX7_whole_12 (Nat.le_of_ble_eq_true rfl) (Nat.le_of_ble_eq_true rfl) h
  · replace h := h.2 a3 e4
    refine kj_iload_n F dX7_whole_13 3 rfl rfl ?_
    refine Classical.byCases (p := x2 = 0) (fun hc => ?_) (fun hn14_0 => ?_)
    · replace h := h.1 hc
      refine kj_tableIn F dX7_whole_14 (off := 54) (tgt := 68) (by rw [hc]; decide) (by rw [hc]; decide) (by rw [hc]; rfl) (by decide) ?_
      refine kj_aloadq_n F dX7_whole_68 0 rfl rfl ?_
      refine kj_deref e4 ?_
      obtain ⟨v5, h8, h⟩ := h
      refine kx_gbox F dX7_whole_69 in_X7_whole_X1 (by decide +kernel) (kw_h h8) (kw_e ?_)
      obtain ⟨v6, h7, h⟩ := h
      refine kx_gba F dX7_whole_72 in_X7_whole_X0 (by decide +kernel) (kw_h h7) (kw_e ?_)
      exact kn_iret (z := (((o1.2), P) : kx_S × va_W)) F dX7_whole_75 (Nat.le_of_ble_eq_true rfl) (Nat.le_of_ble_eq_true rfl) h
    replace h := h.2 hn14_0
    refine Classical.byCases (p := x2 = 1) (fun hc => ?_) (fun hn14_1 => ?_)
    · replace h := h.1 hc
      refine kj_tableIn F dX7_whole_14 (off := 62) (tgt := 76) (by rw [hc]; decide) (by rw [hc]; decide) (by rw [hc]; rfl) (by decide) ?_
      refine kj_aloadq_n F dX7_whole_76 0 rfl rfl ?_
      refine kj_deref e4 ?_
      obtain ⟨v9, h12, h⟩ := h
      refine kx_gbox F dX7_whole_77 in_X7_whole_X1 (by decide +kernel) (kw_h h12) (kw_e ?_)
      obtain ⟨v10, h11, h⟩ := h
      refine kx_gbb F dX7_whole_80 in_X7_whole_X0 (by decide +kernel) (kw_h h11) (kw_e ?_)
      exact kn_iret (z := (((o1.2), P) : kx_S × va_W)) F dX7_whole_83 (Nat.le_of_ble_eq_true rfl) (Nat.le_of_ble_eq_true rfl) h
    replace h := h.2 hn14_1
    refine Classical.byCases (p := x2 = 2) (fun hc => ?_) (fun hn14_2 => ?_)
    · replace h := h.1 hc
      refine kj_tableIn F dX7_whole_14 (off := 70) (tgt := 84) (by rw [hc]; decide) (by rw [hc]; decide) (by rw [hc]; rfl) (by decide) ?_
      refine kj_aloadq_n F dX7_whole_84 0 rfl rfl ?_
      refine kj_deref e4 ?_
      obtain ⟨v13, h16, h⟩ := h
      refine kx_gbox F dX7_whole_85 in_X7_whole_X1 (by decide +kernel) (kw_h h16) (kw_e ?_)
      obtain ⟨v14, h15, h⟩ := h
      refine kx_gbc F dX7_whole_88 in_X7_whole_X0 (by decide +kernel) (kw_h h15) (kw_e ?_)
      exact kn_iret (z := (((o1.2), P) : kx_S × va_W)) F dX7_whole_91 (Nat.le_of_ble_eq_true rfl) (Nat.le_of_ble_eq_true rfl) h
    replace h := h.2 hn14_2
    refine Classical.byCases (p := x2 = 3) (fun hc => ?_) (fun hn14_3 => ?_)
    · replace h := h.1 hc
      refine kj_tableIn F dX7_whole_14 (off := 78) (tgt := 92) (by rw [hc]; decide) (by rw [hc]; decide) (by rw [hc]; rfl) (by decide) ?_
      refine kj_aloadq_n F dX7_whole_92 0 rfl rfl ?_
      refine kj_deref e4 ?_
      obtain ⟨u17, hu18, h⟩ := h
      obtain ⟨iu19, hu18⟩ := kx_hp_at hu18
      obtain ⟨o20, h21, h⟩ := h
      refine kj_cVip (w := (kx_W cA h0 q P)) (As := []) (rest := []) F dX7_whole_93 (kw_h h21) (fun o h1 => ch_volume (w := (kx_W cA h0 q P)) (kx_pool hu18) h1) (cwV 0 F.2.2.2.2.1 gX7_whole_X1_volume rfl rfl rfl (by decide +kernel) ⟨Nat.le_of_ble_eq_true rfl, Nat.le_of_ble_eq_true rfl⟩) _ (kx_pool hu18) rfl rfl rfl rfl (Nat.le_of_ble_eq_true rfl) ⟨(by exact Nat.le_of_ble_eq_true rfl), (by exact Nat.le_of_ble_eq_true rfl)⟩ (kw_e ?_)
      exact kn_iret (z := (((o1.2), P) : kx_S × va_W)) F dX7_whole_96 (Nat.le_of_ble_eq_true rfl) (Nat.le_of_ble_eq_true rfl) h
    replace h := h.2 hn14_3
    refine Classical.byCases (p := x2 = 4) (fun hc => ?_) (fun hn14_4 => ?_)
    · replace h := h.1 hc
      refine kj_tableIn F dX7_whole_14 (off := 83) (tgt := 97) (by rw [hc]; decide) (by rw [hc]; decide) (by rw [hc]; rfl) (by decide) ?_
      refine kj_aload_n F dX7_whole_97 1 rfl rfl ?_
      refine kj_aloadq_n F dX7_whole_98 0 rfl rfl ?_
      refine kj_deref e4 ?_
      refine kn_cVi (As := [.ref a3]) (rest := []) F hN dX7_whole_99 (dc_numberOf h) (cwV 1 F.2.2.2.2.1 gX7_whole_X7_numberOf rfl rfl rfl (by decide +kernel) ⟨Nat.le_of_ble_eq_true rfl, Nat.le_of_ble_eq_true rfl⟩) 0 rfl rfl rfl rfl rfl (Nat.le_of_ble_eq_true rfl) ⟨(by exact Nat.le_of_ble_eq_true rfl), (by exact Nat.le_of_ble_eq_true rfl)⟩ (fun r23 u22 h => ?_)
      refine kj_cast (ww' := kx_W cA h0 q u22.2 u22.1) rfl ?_
      refine kn_widen (k := 11) (n := 572) (Nat.le_of_ble_eq_true rfl) (Nat.le_of_ble_eq_true rfl) ?_
      exact kn_iret (z := (((u22.1), (u22.2)) : kx_S × va_W)) F dX7_whole_102 (Nat.le_of_ble_eq_true rfl) (Nat.le_of_ble_eq_true rfl) h
    replace h := h.2 hn14_4
    refine Classical.byCases (p := x2 = 5) (fun hc => ?_) (fun hn14_5 => ?_)
    · replace h := h.1 hc
      refine kj_tableIn F dX7_whole_14 (off := 89) (tgt := 103) (by rw [hc]; decide) (by rw [hc]; decide) (by rw [hc]; rfl) (by decide) ?_
      refine kj_aloadq_n F dX7_whole_103 0 rfl rfl ?_
      refine kj_deref e4 ?_
      obtain ⟨v24, h32, h⟩ := h
      refine kx_gbox F dX7_whole_104 in_X7_whole_X1 (by decide +kernel) (kw_h h32) (kw_e ?_)
      refine kj_aloadq_n F dX7_whole_107 0 rfl rfl ?_
      refine kj_deref e4 ?_
      obtain ⟨v25, h31, h⟩ := h
      refine kx_gcubes F dX7_whole_108 in_X7_whole_X1 (by decide +kernel) (kw_h h31) (kw_e ?_)
      obtain ⟨u26, hu27, h⟩ := h
      obtain ⟨iu28, hu27⟩ := kx_bx_at hu27
      obtain ⟨o29, h30, h⟩ := h
      refine kj_cVip (w := (kx_W cA h0 q P)) (As := [.long (v25.2)]) (rest := []) F dX7_whole_111 (kw_h h30) (fun o h1 => cx_trace (w := (kx_W cA h0 q P)) (kx_pool hu27) h1) (cwV 1 F.2.2.2.2.1 gX7_whole_X0_trace rfl rfl rfl (by decide +kernel) ⟨Nat.le_of_ble_eq_true rfl, Nat.le_of_ble_eq_true rfl⟩) _ (kx_pool hu27) rfl rfl rfl rfl (Nat.le_of_ble_eq_true rfl) ⟨(by exact Nat.le_of_ble_eq_true rfl), (by exact Nat.le_of_ble_eq_true rfl)⟩ (kw_e ?_)
      exact kn_iret (z := (((o1.2), P) : kx_S × va_W)) F dX7_whole_114 (Nat.le_of_ble_eq_true rfl) (Nat.le_of_ble_eq_true rfl) h
    replace h := h.2 hn14_5
    refine Classical.byCases (p := x2 = 6) (fun hc => ?_) (fun hn14_6 => ?_)
    · replace h := h.1 hc
      refine kj_tableIn F dX7_whole_14 (off := 101) (tgt := 115) (by rw [hc]; decide) (by rw [hc]; decide) (by rw [hc]; rfl) (by decide) ?_
      refine kj_aloadq_n F dX7_whole_115 0 rfl rfl ?_
      refine kj_deref e4 ?_
      obtain ⟨v33, h41, h⟩ := h
      refine kx_gbox F dX7_whole_116 in_X7_whole_X1 (by decide +kernel) (kw_h h41) (kw_e ?_)
      refine kj_aloadq_n F dX7_whole_119 0 rfl rfl ?_
      refine kj_deref e4 ?_
      obtain ⟨v34, h40, h⟩ := h
      refine kx_gcubes F dX7_whole_120 in_X7_whole_X1 (by decide +kernel) (kw_h h40) (kw_e ?_)
      refine kj_iconst F dX7_whole_123 (v := 1) (by decide) ?_
      obtain ⟨u35, hu36, h⟩ := h
      obtain ⟨iu37, hu36⟩ := kx_bx_at hu36
      obtain ⟨o38, h39, h⟩ := h
      refine kj_cVip (w := (kx_W cA h0 q P)) (As := [.long (v34.2), .int (1 : Int32)]) (rest := []) F dX7_whole_124 (kw_h h39) (fun o h1 => cx_changingCells (w := (kx_W cA h0 q P)) (kx_pool hu36) h1) (cwV 2 F.2.2.2.2.1 gX7_whole_X0_changingCells rfl rfl rfl (by decide +kernel) ⟨Nat.le_of_ble_eq_true rfl, Nat.le_of_ble_eq_true rfl⟩) _ (kx_pool hu36) rfl rfl rfl rfl (Nat.le_of_ble_eq_true rfl) ⟨(by exact Nat.le_of_ble_eq_true rfl), (by exact Nat.le_of_ble_eq_true rfl)⟩ (kw_e ?_)
      exact kn_iret (z := (((o1.2), P) : kx_S × va_W)) F dX7_whole_127 (Nat.le_of_ble_eq_true rfl) (Nat.le_of_ble_eq_true rfl) h
    replace h := h.2 hn14_6
    refine Classical.byCases (p := x2 = 7) (fun hc => ?_) (fun hn14_7 => ?_)
    · replace h := h.1 hc
      refine kj_tableIn F dX7_whole_14 (off := 114) (tgt := 128) (by rw [hc]; decide) (by rw [hc]; decide) (by rw [hc]; rfl) (by decide) ?_
      refine kj_aloadq_n F dX7_whole_128 0 rfl rfl ?_
      refine kj_deref e4 ?_
      obtain ⟨v42, h50, h⟩ := h
      refine kx_gbox F dX7_whole_129 in_X7_whole_X1 (by decide +kernel) (kw_h h50) (kw_e ?_)
      refine kj_aloadq_n F dX7_whole_132 0 rfl rfl ?_
      refine kj_deref e4 ?_
      obtain ⟨v43, h49, h⟩ := h
      refine kx_gcubes F dX7_whole_133 in_X7_whole_X1 (by decide +kernel) (kw_h h49) (kw_e ?_)
      refine kj_iconst F dX7_whole_136 (v := 0) (by decide) ?_
      obtain ⟨u44, hu45, h⟩ := h
      obtain ⟨iu46, hu45⟩ := kx_bx_at hu45
      obtain ⟨o47, h48, h⟩ := h
      refine kj_cVip (w := (kx_W cA h0 q P)) (As := [.long (v43.2), .int (0 : Int32)]) (rest := []) F dX7_whole_137 (kw_h h48) (fun o h1 => cx_changingCells (w := (kx_W cA h0 q P)) (kx_pool hu45) h1) (cwV 2 F.2.2.2.2.1 gX7_whole_X0_changingCells rfl rfl rfl (by decide +kernel) ⟨Nat.le_of_ble_eq_true rfl, Nat.le_of_ble_eq_true rfl⟩) _ (kx_pool hu45) rfl rfl rfl rfl (Nat.le_of_ble_eq_true rfl) ⟨(by exact Nat.le_of_ble_eq_true rfl), (by exact Nat.le_of_ble_eq_true rfl)⟩ (kw_e ?_)
      exact kn_iret (z := (((o1.2), P) : kx_S × va_W)) F dX7_whole_140 (Nat.le_of_ble_eq_true rfl) (Nat.le_of_ble_eq_true rfl) h
    replace h := h.2 hn14_7
    refine Classical.byCases (p := x2 = 8) (fun hc => ?_) (fun hn14_8 => ?_)
    · replace h := h.1 hc
      refine kj_tableIn F dX7_whole_14 (off := 127) (tgt := 141) (by rw [hc]; decide) (by rw [hc]; decide) (by rw [hc]; rfl) (by decide) ?_
      refine kj_aloadq_n F dX7_whole_141 0 rfl rfl ?_
      refine kj_deref e4 ?_
      obtain ⟨v51, h59, h⟩ := h
      refine kx_gbox F dX7_whole_142 in_X7_whole_X1 (by decide +kernel) (kw_h h59) (kw_e ?_)
      refine kj_aloadq_n F dX7_whole_145 0 rfl rfl ?_
      refine kj_deref e4 ?_
      obtain ⟨v52, h58, h⟩ := h
      refine kx_gcubes F dX7_whole_146 in_X7_whole_X1 (by decide +kernel) (kw_h h58) (kw_e ?_)
      obtain ⟨u53, hu54, h⟩ := h
      obtain ⟨iu55, hu54⟩ := kx_bx_at hu54
      obtain ⟨o56, h57, h⟩ := h
      refine kj_cVip (w := (kx_W cA h0 q P)) (As := [.long (v52.2)]) (rest := []) F dX7_whole_149 (kw_h h57) (fun o h1 => cx_symmetries (w := (kx_W cA h0 q P)) (kx_pool hu54) h1) (cwV 1 F.2.2.2.2.1 gX7_whole_X0_symmetries rfl rfl rfl (by decide +kernel) ⟨Nat.le_of_ble_eq_true rfl, Nat.le_of_ble_eq_true rfl⟩) _ (kx_pool hu54) rfl rfl rfl rfl (Nat.le_of_ble_eq_true rfl) ⟨(by exact Nat.le_of_ble_eq_true rfl), (by exact Nat.le_of_ble_eq_true rfl)⟩ (kw_e ?_)
      exact kn_iret (z := (((o1.2), P) : kx_S × va_W)) F dX7_whole_152 (Nat.le_of_ble_eq_true rfl) (Nat.le_of_ble_eq_true rfl) h
    replace h := h.2 hn14_8
    refine Classical.byCases (p := x2 = 9) (fun hc => ?_) (fun hn14_9 => ?_)
    · replace h := h.1 hc
      refine kj_tableIn F dX7_whole_14 (off := 139) (tgt := 153) (by rw [hc]; decide) (by rw [hc]; decide) (by rw [hc]; rfl) (by decide) ?_
      refine kj_aload_n F dX7_whole_153 1 rfl rfl ?_
      refine kj_get F dX7_whole_154 in_X7_whole_X7 0 rfl rfl 6 (by decide) (by decide +kernel) rfl rfl ?_
      refine kj_aloadq_n F dX7_whole_157 0 rfl rfl ?_
      refine kj_deref e4 ?_
      refine kn_cVi (As := [.ref a3]) (rest := []) F hN dX7_whole_158 (dk_gather h) (cwV 1 F.2.2.2.2.1 gX7_whole_X2_gather rfl rfl rfl (by decide +kernel) ⟨Nat.le_of_ble_eq_true rfl, Nat.le_of_ble_eq_true rfl⟩) 3 rfl rfl rfl rfl rfl (Nat.le_of_ble_eq_true rfl) ⟨(by exact Nat.le_of_ble_eq_true rfl), (by exact Nat.le_of_ble_eq_true rfl)⟩ (fun r61 u60 h => ?_)
      refine kj_cast (ww' := kx_W cA h0 q u60.2 u60.1) rfl ?_
      refine kn_widen (k := 28) (n := 70) (Nat.le_of_ble_eq_true rfl) (Nat.le_of_ble_eq_true rfl) ?_
      exact kn_iret (z := (((u60.1), (u60.2)) : kx_S × va_W)) F dX7_whole_161 (Nat.le_of_ble_eq_true rfl) (Nat.le_of_ble_eq_true rfl) h
    replace h := h.2 hn14_9
    refine kj_tableOut F dX7_whole_14 (tgt := 162) (by have e0 : Int32.toInt x2 ≠ 0 := fun q => hn14_0 (Int32.toInt_inj.mp (q.trans (by decide))); have e1 : Int32.toInt x2 ≠ 1 := fun q => hn14_1 (Int32.toInt_inj.mp (q.trans (by decide))); have e2 : Int32.toInt x2 ≠ 2 := fun q => hn14_2 (Int32.toInt_inj.mp (q.trans (by decide))); have e3 : Int32.toInt x2 ≠ 3 := fun q => hn14_3 (Int32.toInt_inj.mp (q.trans (by decide))); have e4 : Int32.toInt x2 ≠ 4 := fun q => hn14_4 (Int32.toInt_inj.mp (q.trans (by decide))); have e5 : Int32.toInt x2 ≠ 5 := fun q => hn14_5 (Int32.toInt_inj.mp (q.trans (by decide))); have e6 : Int32.toInt x2 ≠ 6 := fun q => hn14_6 (Int32.toInt_inj.mp (q.trans (by decide))); have e7 : Int32.toInt x2 ≠ 7 := fun q => hn14_7 (Int32.toInt_inj.mp (q.trans (by decide))); have e8 : Int32.toInt x2 ≠ 8 := fun q => hn14_8 (Int32.toInt_inj.mp (q.trans (by decide))); have e9 : Int32.toInt x2 ≠ 9 := fun q => hn14_9 (Int32.toInt_inj.mp (q.trans (by decide))); omega) (by decide) ?_
    refine kj_ldc F dX7_whole_162 (v := (-1000001)) (by decide +kernel) ?_
    exact kn_iret (z := (((o1.2), P) : kx_S × va_W)) F dX7_whole_164 (Nat.le_of_ble_eq_true rfl) (Nat.le_of_ble_eq_true rfl) h
theorem dc_whole {l : Launch} {D : va_G} {cA : Nat → ClassId} {h0 : Nat} {q : Nat → Nat} {P : va_W} {z : kx_S} {x1 : Int32} {x2 : Int32} {K : Int32 → kx_S → va_W → Prop} (h : vc_whole cA x1 x2 z P K) : kn_Mi l yX7_whole wsX7_whole rm_X7_whole D (kx_T cA) (kx_V cA h0 q) (kx_W cA h0 q P z) [.ref h0, .int x1, .int x2] (fun r u => K r u.1 u.2) :=
  fun sz => kn_start (by decide) rfl (Nat.le_of_ble_eq_true rfl) rfl fun p e s m args below meth c hsz F hN _ => ec_whole F hN h
/-! X7_kin -/
abbrev rm_X7_kin : Room := { frames := 6, cells := 39, slots := 642, locals := 146 }
theorem in_X7_kin_X7 : ∀ w ∈ u_ws RX7 TX7 10, w ∈ wsX7_kin := by decide +kernel
def vc_kin (cA : Nat → ClassId) (x1 : Int32) (x2 : Int32) (z : kx_S) (P : va_W) (K : Int32 → kx_S → va_W → Prop) : Prop :=
  ∃ o1, fc_heapAt P x1 z = some o1 ∧
  ((o1.1) = none →
  K ((-1000001) : Int32) (o1.2) P) ∧ (∀ a3, (o1.1) = some a3 →
  (0 ≤ x2 →
  vk_gather cA a3 (o1.2) P (fun r6 u5z u5p =>
  (r6 ≤ x2 →
  K ((-1000000) : Int32) u5z u5p) ∧ (¬ r6 ≤ x2 →
  ∃ o7, fk_member u5p x2 u5z = some o7 ∧
  ((o7.1) = none →
  K ((-1000000) : Int32) (o7.2) u5p) ∧ (∀ a9, (o7.1) = some a9 →
  vc_numberOf cA a9 (o7.2) u5p (fun r12 u11z u11p =>
  K r12 u11z u11p))))) ∧ (¬ 0 ≤ x2 →
  K ((-1000001) : Int32) (o1.2) P))
set_option maxRecDepth 20000 in
set_option maxHeartbeats 1000000 in
theorem ec_kin {p : Program} {l : Launch} {e : Env} {s : State} {m : MethodId} {args : Array Value} {below : List Frame} {meth : Method} {c : Code} {A : Nat → Prop} {D : va_G} {cA : Nat → ClassId} {h0 : Nat} {q : Nat → Nat} {P : va_W} {z : kx_S} {x1 : Int32} {x2 : Int32} {K : Int32 → kx_S → va_W → Prop} (F : kj_Fx p s m args meth c cX7_kin 5 wsX7_kin RX7 (some .int) D (kx_T cA) A) (hN : kn_N s) (h : vc_kin cA x1 x2 z P K) : kj_J p l e rm_X7_kin s m args below meth c 0 0 (MQ below (kn_Qi D (kx_T cA) A (kx_V cA h0 q) (fun r u => K r u.1 u.2)) args s 39 642 A) 5 D A (kx_W cA h0 q P z) 0 [(0, .ref h0), (1, .int x1), (2, .int x2)] [] := by
  unfold vc_kin at h
  refine kj_aload_n F dX7_kin_0 0 rfl rfl ?_
  refine kj_iload_n F dX7_kin_1 1 rfl rfl ?_
  obtain ⟨o1, h2, h⟩ := h
  refine kj_cVq (w := (kx_W cA h0 q P)) (As := [.int x1]) (rest := []) F dX7_kin_2 (kw_h h2) (fun o h1 => cc_heapAt h1) (cwV 1 F.2.2.2.2.1 gX7_kin_X7_heapAt rfl rfl rfl (by decide +kernel) ⟨Nat.le_of_ble_eq_true rfl, Nat.le_of_ble_eq_true rfl⟩) 0 rfl rfl rfl rfl rfl (Nat.le_of_ble_eq_true rfl) ⟨(by exact Nat.le_of_ble_eq_true rfl), (by exact Nat.le_of_ble_eq_true rfl)⟩ (kw_e ?_)
  refine kj_astoreq_n (i := 3) (v := (o1.1)) F dX7_kin_5 (lv' := [(3, va_rf (o1.1)), (0, .ref h0), (1, .int x1), (2, .int x2)]) rfl (by decide) rfl ?_
  refine kj_aloadq_n F dX7_kin_6 0 rfl rfl ?_
  refine kj_ifnull F dX7_kin_7 (tgt := 14) (by decide) (fun e4 => ?_) (fun a3 e4 => ?_)
  · replace h := h.1 e4
    refine kj_ldc F dX7_kin_14 (v := (-1000001)) (by decide +kernel) ?_
    exact kn_iret (z := (((o1.2), P) : kx_S × va_W)) F dX7_kin_16 (Nat.le_of_ble_eq_true rfl) (Nat.le_of_ble_eq_true rfl) h
  · replace h := h.2 a3 e4
    refine kj_iload_n F dX7_kin_10 3 rfl rfl ?_
    refine kw_if_ge F dX7_kin_11 (tgt := 17) (by decide) (fun hc => ?_) (fun hc => ?_)
    · replace h := h.1 hc
      refine kj_iload_n F dX7_kin_17 3 rfl rfl ?_
      refine kj_aload_n F dX7_kin_18 1 rfl rfl ?_
      refine kj_get F dX7_kin_19 in_X7_kin_X7 0 rfl rfl 6 (by decide) (by decide +kernel) rfl rfl ?_
      refine kj_aloadq_n F dX7_kin_22 0 rfl rfl ?_
      refine kj_deref e4 ?_
      refine kn_cVi (As := [.ref a3]) (rest := [.int x2]) F hN dX7_kin_23 (dk_gather h) (cwV 1 F.2.2.2.2.1 gX7_kin_X2_gather rfl rfl rfl (by decide +kernel) ⟨Nat.le_of_ble_eq_true rfl, Nat.le_of_ble_eq_true rfl⟩) 3 rfl rfl rfl rfl rfl (Nat.le_of_ble_eq_true rfl) ⟨(by exact Nat.le_of_ble_eq_true rfl), (by exact Nat.le_of_ble_eq_true rfl)⟩ (fun r6 u5 h => ?_)
      refine kj_cast (ww' := kx_W cA h0 q u5.2 u5.1) rfl ?_
      refine kn_widen (k := 28) (n := 70) (Nat.le_of_ble_eq_true rfl) (Nat.le_of_ble_eq_true rfl) ?_
      refine kw_icmp_ge F dX7_kin_26 (tgt := 40) (by decide) (fun hc => ?_) (fun hc => ?_)
      · replace h := h.1 hc
        refine kj_null F dX7_kin_40 ?_
        refine kj_astoreq (i := 4) (v := none) F dX7_kin_41 (lv' := [(4, va_rf none), (3, va_rf (o1.1)), (0, .ref h0), (1, .int x1), (2, .int x2)]) (by decide) (by simp [kj_cat]) ?_
        refine kj_aloadq F dX7_kin_43 0 rfl ?_
        refine kj_ifnonnull (v := none) F dX7_kin_45 (tgt := 53) (by decide) (fun _ => ?_) (fun _ e => absurd e (by simp))
        refine kj_ldc F dX7_kin_48 (v := (-1000000)) (by decide +kernel) ?_
        refine kj_goto F dX7_kin_50 (tgt := 59) (by decide) ?_
        exact kn_iret (z := (((u5.1), (u5.2)) : kx_S × va_W)) F dX7_kin_59 (Nat.le_of_ble_eq_true rfl) (Nat.le_of_ble_eq_true rfl) h
      · replace h := h.2 hc
        refine kj_aload_n F dX7_kin_29 1 rfl rfl ?_
        refine kj_get F dX7_kin_30 in_X7_kin_X7 0 rfl rfl 6 (by decide) (by decide +kernel) rfl rfl ?_
        refine kj_iload_n F dX7_kin_33 3 rfl rfl ?_
        obtain ⟨o7, h8, h⟩ := h
        refine kj_cVq (w := (kx_W cA h0 q (u5.2))) (As := [.int x2]) (rest := []) F dX7_kin_34 (kw_h h8) (fun o h1 => ck_member h1) (cwV 1 F.2.2.2.2.1 gX7_kin_X2_member rfl rfl rfl (by decide +kernel) ⟨Nat.le_of_ble_eq_true rfl, Nat.le_of_ble_eq_true rfl⟩) 3 rfl rfl rfl rfl rfl (Nat.le_of_ble_eq_true rfl) ⟨(by exact Nat.le_of_ble_eq_true rfl), (by exact Nat.le_of_ble_eq_true rfl)⟩ (kw_e ?_)
        refine kj_goto F dX7_kin_37 (tgt := 41) (by decide) ?_
        refine kj_astoreq (i := 4) (v := (o7.1)) F dX7_kin_41 (lv' := [(4, va_rf (o7.1)), (3, va_rf (o1.1)), (0, .ref h0), (1, .int x1), (2, .int x2)]) (by decide) (by simp [kj_cat]) ?_
        refine kj_aloadq F dX7_kin_43 0 rfl ?_
        refine kj_ifnonnull F dX7_kin_45 (tgt := 53) (by decide) (fun e10 => ?_) (fun a9 e10 => ?_)
        · replace h := h.1 e10
          refine kj_ldc F dX7_kin_48 (v := (-1000000)) (by decide +kernel) ?_
          refine kj_goto F dX7_kin_50 (tgt := 59) (by decide) ?_
          exact kn_iret (z := (((o7.2), (u5.2)) : kx_S × va_W)) F dX7_kin_59 (Nat.le_of_ble_eq_true rfl) (Nat.le_of_ble_eq_true rfl) h
        · replace h := h.2 a9 e10
          refine kj_aload_n F dX7_kin_53 2 rfl rfl ?_
          refine kj_aloadq F dX7_kin_54 0 rfl ?_
          refine kj_deref e10 ?_
          refine kn_cVi (As := [.ref a9]) (rest := []) F hN dX7_kin_56 (dc_numberOf h) (cwV 1 F.2.2.2.2.1 gX7_kin_X7_numberOf rfl rfl rfl (by decide +kernel) ⟨Nat.le_of_ble_eq_true rfl, Nat.le_of_ble_eq_true rfl⟩) 0 rfl rfl rfl rfl rfl (Nat.le_of_ble_eq_true rfl) ⟨(by exact Nat.le_of_ble_eq_true rfl), (by exact Nat.le_of_ble_eq_true rfl)⟩ (fun r12 u11 h => ?_)
          refine kj_cast (ww' := kx_W cA h0 q u11.2 u11.1) rfl ?_
          refine kn_widen (k := 39) (n := 642) (Nat.le_of_ble_eq_true rfl) (Nat.le_of_ble_eq_true rfl) ?_
          exact kn_iret (z := (((u11.1), (u11.2)) : kx_S × va_W)) F dX7_kin_59 (Nat.le_of_ble_eq_true rfl) (Nat.le_of_ble_eq_true rfl) h
    · replace h := h.2 hc
      refine kj_ldc F dX7_kin_14 (v := (-1000001)) (by decide +kernel) ?_
      exact kn_iret (z := (((o1.2), P) : kx_S × va_W)) F dX7_kin_16 (Nat.le_of_ble_eq_true rfl) (Nat.le_of_ble_eq_true rfl) h
theorem dc_kin {l : Launch} {D : va_G} {cA : Nat → ClassId} {h0 : Nat} {q : Nat → Nat} {P : va_W} {z : kx_S} {x1 : Int32} {x2 : Int32} {K : Int32 → kx_S → va_W → Prop} (h : vc_kin cA x1 x2 z P K) : kn_Mi l yX7_kin wsX7_kin rm_X7_kin D (kx_T cA) (kx_V cA h0 q) (kx_W cA h0 q P z) [.ref h0, .int x1, .int x2] (fun r u => K r u.1 u.2) :=
  fun sz => kn_start (by decide) rfl (Nat.le_of_ble_eq_true rfl) rfl fun p e s m args below meth c hsz F hN _ => ec_kin F hN h
/-! X7_symmetric -/
abbrev rm_X7_symmetric : Room := { frames := 5, cells := 12, slots := 575, locals := 125 }
set_option maxRecDepth 20000 in
theorem jc_symL {p : Program} {l : Launch} {e : Env} {s : State} {m : MethodId} {args : Array Value} {below : List Frame} {meth : Method} {c : Code} {A : Nat → Prop} {D : va_G} {cA : Nat → ClassId} {h0 : Nat} {q : Nat → Nat} {P : va_W} {z : kx_S} {cells slots : Nat} {Q : State → Prop} (hf : cells ≤ rm_X7_symmetric.cells ∧ slots ≤ rm_X7_symmetric.slots) (F : kj_Fx p s m args meth c cX7_symmetric 11 wsX7_symmetric RX7 (some .int) D (kx_T cA) A) {x4 x6 : Int32} {b : Option Nat} {ba : Nat} (eb : b = some ba) {u : Int32 × Int32 × Int32} {i : Nat} (hu : P[i]? = some (ba, .inr (0, [.int u.1, .int u.2.1, .int u.2.2]))) {v : Int32 × Int64 × Int32} {o : (Int32 × Int64 × Int32) ⊕ Int32} (h : sc_sym u.1 u.2.1 u.2.2 x4 x6 v = some o)
    (kb : ∀ v', o = .inl v' → kj_J p l e rm_X7_symmetric s m args below meth c cells slots Q 11 D A (kx_W cA h0 q P z) 60 [(4, .int x4), (5, va_rf b), (6, .int x6), (7, .int v'.1), (8, .long v'.2.1), (10, .int v'.2.2)] [])
    (ke : ∀ r, o = .inr r → kj_J p l e rm_X7_symmetric s m args below meth c cells slots Q 11 D A (kx_W cA h0 q P z) 97 [(7, .int r)] []) :
    kj_J p l e rm_X7_symmetric s m args below meth c cells slots Q 11 D A (kx_W cA h0 q P z) 60 [(4, .int x4), (5, va_rf b), (6, .int x6), (7, .int v.1), (8, .long v.2.1), (10, .int v.2.2)] [] := by
  obtain ⟨f0, c0, k0⟩ := v
  unfold sc_sym at h
  dsimp only at h ⊢
  refine kj_iload F dX7_symmetric_60 5 rfl ?_
  refine kj_iload F dX7_symmetric_62 2 rfl ?_
  refine kj_icmp_ge F dX7_symmetric_64 (tgt := 97) (by decide) h (fun hc h => ?_) (fun hc h => ?_)
  · refine kj_J.sub [3] rfl ?_
    exact ke f0 (Option.some.inj h).symm
  · refine kj_aloadq F dX7_symmetric_67 1 rfl ?_
    refine kj_deref eb ?_
    refine kj_lload F dX7_symmetric_69 4 rfl ?_
    refine kj_iload F dX7_symmetric_71 0 rfl ?_
    refine kj_cVip (w := kx_W cA h0 q P) (As := [.long c0, .int x4]) (rest := []) F dX7_symmetric_73 h (fun o h1 => cx_hasSymmetries (w := kx_W cA h0 q P) (kx_pool hu) h1) (cwV 2 F.2.2.2.2.1 gX7_symmetric_X0_hasSymmetries rfl rfl rfl (by decide +kernel) ⟨Nat.le_of_ble_eq_true rfl, Nat.le_of_ble_eq_true rfl⟩) _ (kx_pool hu) rfl rfl rfl rfl (Nat.le_of_ble_eq_true rfl) hf (fun o1 h => ?_)
    refine kw_if_eq F dX7_symmetric_76 (tgt := 82) (by decide) (fun hc => ?_) (fun hc => ?_)
    · rw [if_pos hc] at h
      refine kj_aloadq F dX7_symmetric_82 1 rfl ?_
      refine kj_deref eb ?_
      refine kj_lload F dX7_symmetric_84 4 rfl ?_
      refine kj_cVlp (w := kx_W cA h0 q P) (As := [.long c0]) (rest := []) F dX7_symmetric_86 h (fun o h1 => cx_following (w := kx_W cA h0 q P) (kx_pool hu) h1) (cwV 1 F.2.2.2.2.1 gX7_symmetric_X0_following rfl rfl rfl (by decide +kernel) ⟨Nat.le_of_ble_eq_true rfl, Nat.le_of_ble_eq_true rfl⟩) _ (kx_pool hu) rfl rfl rfl rfl (Nat.le_of_ble_eq_true rfl) hf (fun o2 h => ?_)
      refine kj_lstore F dX7_symmetric_89 (lv' := [(8, .long o2), (4, .int x4), (5, va_rf b), (6, .int x6), (7, .int f0), (10, .int k0)]) (by decide) rfl ?_
      refine kj_iinc F dX7_symmetric_91 5 rfl (v := 1) (by decide) (by decide) (lv' := [(10, .int (k0 + 1)), (8, .long o2), (4, .int x4), (5, va_rf b), (6, .int x6), (7, .int f0)]) rfl ?_
      refine kj_goto F dX7_symmetric_94 (tgt := 60) (by decide) ?_
      refine kj_J.sub [2, 3, 4, 5, 1, 0] rfl ?_
      exact kb (f0, o2, k0 + 1) (Option.some.inj h).symm
    · rw [if_neg hc] at h
      refine kj_iinc F dX7_symmetric_79 3 rfl (v := 1) (by decide) (by decide) (lv' := [(7, .int (f0 + 1)), (4, .int x4), (5, va_rf b), (6, .int x6), (8, .long c0), (10, .int k0)]) rfl ?_
      refine kj_aloadq F dX7_symmetric_82 2 rfl ?_
      refine kj_deref eb ?_
      refine kj_lload F dX7_symmetric_84 4 rfl ?_
      refine kj_cVlp (w := kx_W cA h0 q P) (As := [.long c0]) (rest := []) F dX7_symmetric_86 h (fun o h1 => cx_following (w := kx_W cA h0 q P) (kx_pool hu) h1) (cwV 1 F.2.2.2.2.1 gX7_symmetric_X0_following rfl rfl rfl (by decide +kernel) ⟨Nat.le_of_ble_eq_true rfl, Nat.le_of_ble_eq_true rfl⟩) _ (kx_pool hu) rfl rfl rfl rfl (Nat.le_of_ble_eq_true rfl) hf (fun o2 h => ?_)
      refine kj_lstore F dX7_symmetric_89 (lv' := [(8, .long o2), (7, .int (f0 + 1)), (4, .int x4), (5, va_rf b), (6, .int x6), (10, .int k0)]) (by decide) rfl ?_
      refine kj_iinc F dX7_symmetric_91 5 rfl (v := 1) (by decide) (by decide) (lv' := [(10, .int (k0 + 1)), (8, .long o2), (7, .int (f0 + 1)), (4, .int x4), (5, va_rf b), (6, .int x6)]) rfl ?_
      refine kj_goto F dX7_symmetric_94 (tgt := 60) (by decide) ?_
      refine kj_J.sub [3, 4, 5, 2, 1, 0] rfl ?_
      exact kb (f0 + 1, o2, k0 + 1) (Option.some.inj h).symm
def vc_symmetric (cA : Nat → ClassId) (x1 : Int32) (x2 : Int32) (x3 : Int32) (x4 : Int32) (z : kx_S) (P : va_W) (K : Int32 → kx_S → va_W → Prop) : Prop :=
  vx_of cA x1 x2 x3 z P (fun r2 u1z u1p =>
  (r2 = none →
  K ((-1000001) : Int32) u1z u1p) ∧ (∀ a3, r2 = some a3 →
  (x4 < 0 →
  K ((-1000001) : Int32) u1z u1p) ∧ (¬ x4 < 0 →
  (x4 ≤ (15 : Int32) →
  vc_rowsOf cA a3 u1z u1p (fun r6 u5z u5p =>
  ∃ a7, r6 = some a7 ∧
  ∃ (qri9 : Nat → Nat) (nri9 : Nat) (rri9 : kr_S) (Pai9 Pbi9 : va_W), u5p = Pai9 ++ (kr_w cA a7 qri9 nri9 rri9 ++ Pbi9) ∧ ∃ oi9, fr_heapsWith nri9 x1 rri9 = some oi9 ∧
  ((oi9.1) ≤ (1000 : Int32) →
  ∃ u10, kx_bx (Pai9 ++ (kr_w cA a7 qri9 nri9 oi9.2 ++ Pbi9)) a3 = some u10 ∧ ∃ r13, kj_it (sc_sym u10.1 u10.2.1 u10.2.2 x4 (oi9.1)) 5000 (0, 0, 0) = some r13 ∧
  K r13 u5z (Pai9 ++ (kr_w cA a7 qri9 nri9 oi9.2 ++ Pbi9))) ∧ (¬ (oi9.1) ≤ (1000 : Int32) →
  K ((-1000003) : Int32) u5z (Pai9 ++ (kr_w cA a7 qri9 nri9 oi9.2 ++ Pbi9))))) ∧ (¬ x4 ≤ (15 : Int32) →
  K ((-1000001) : Int32) u1z u1p))))
set_option maxRecDepth 20000 in
set_option maxHeartbeats 1000000 in
theorem ec_symmetric {p : Program} {l : Launch} {e : Env} {s : State} {m : MethodId} {args : Array Value} {below : List Frame} {meth : Method} {c : Code} {A : Nat → Prop} {D : va_G} {cA : Nat → ClassId} {h0 : Nat} {q : Nat → Nat} {P : va_W} {z : kx_S} {x1 : Int32} {x2 : Int32} {x3 : Int32} {x4 : Int32} {K : Int32 → kx_S → va_W → Prop} (F : kj_Fx p s m args meth c cX7_symmetric 11 wsX7_symmetric RX7 (some .int) D (kx_T cA) A) (hN : kn_N s) (h : vc_symmetric cA x1 x2 x3 x4 z P K) : kj_J p l e rm_X7_symmetric s m args below meth c 0 0 (MQ below (kn_Qi D (kx_T cA) A (kx_V cA h0 q) (fun r u => K r u.1 u.2)) args s 12 575 A) 11 D A (kx_W cA h0 q P z) 0 [(0, .ref h0), (1, .int x1), (2, .int x2), (3, .int x3), (4, .int x4)] [] := by
  unfold vc_symmetric at h
  refine kj_iload_n F dX7_symmetric_0 1 rfl rfl ?_
  refine kj_iload_n F dX7_symmetric_1 2 rfl rfl ?_
  refine kj_iload_n F dX7_symmetric_2 3 rfl rfl ?_
  refine kn_cSq (As := [.int x1, .int x2, .int x3]) (rest := []) F hN dX7_symmetric_3 (dx_of h) (va_cwS 3 F.2.2.2.2.1 gX7_symmetric_X0_of rfl rfl rfl (by decide +kernel) ⟨Nat.le_of_ble_eq_true rfl, Nat.le_of_ble_eq_true rfl⟩) rfl rfl (Nat.le_of_ble_eq_true rfl) ⟨(by exact Nat.le_of_ble_eq_true rfl), (by exact Nat.le_of_ble_eq_true rfl)⟩ (fun r2 u1 h => ?_)
  refine kj_cast (ww' := kx_W cA h0 q u1.2 u1.1) rfl ?_
  refine kn_widen (k := 1) (n := 3) (Nat.le_of_ble_eq_true rfl) (Nat.le_of_ble_eq_true rfl) ?_
  refine kj_astoreq (i := 5) (v := r2) F dX7_symmetric_6 (lv' := [(5, va_rf r2), (0, .ref h0), (1, .int x1), (2, .int x2), (3, .int x3), (4, .int x4)]) (by decide) rfl ?_
  refine kj_aloadq F dX7_symmetric_8 0 rfl ?_
  refine kj_ifnull F dX7_symmetric_10 (tgt := 25) (by decide) (fun e4 => ?_) (fun a3 e4 => ?_)
  · replace h := h.1 e4
    refine kj_ldc F dX7_symmetric_25 (v := (-1000001)) (by decide +kernel) ?_
    exact kn_iret (z := (((u1.1), (u1.2)) : kx_S × va_W)) F dX7_symmetric_27 (Nat.le_of_ble_eq_true rfl) (Nat.le_of_ble_eq_true rfl) h
  · replace h := h.2 a3 e4
    refine kj_iload F dX7_symmetric_13 5 rfl ?_
    refine kw_if_lt F dX7_symmetric_15 (tgt := 25) (by decide) (fun hc => ?_) (fun hc => ?_)
    · replace h := h.1 hc
      refine kj_ldc F dX7_symmetric_25 (v := (-1000001)) (by decide +kernel) ?_
      exact kn_iret (z := (((u1.1), (u1.2)) : kx_S × va_W)) F dX7_symmetric_27 (Nat.le_of_ble_eq_true rfl) (Nat.le_of_ble_eq_true rfl) h
    · replace h := h.2 hc
      refine kj_iload F dX7_symmetric_18 5 rfl ?_
      refine kj_bipush F dX7_symmetric_20 (v := 15) (by decide) ?_
      refine kw_icmp_le F dX7_symmetric_22 (tgt := 28) (by decide) (fun hc => ?_) (fun hc => ?_)
      · replace h := h.1 hc
        refine kj_aload_n F dX7_symmetric_28 1 rfl rfl ?_
        refine kj_aloadq F dX7_symmetric_29 0 rfl ?_
        refine kj_deref e4 ?_
        refine kn_cVq (As := [.ref a3]) (rest := []) F hN dX7_symmetric_31 (dc_rowsOf h) (cwV 1 F.2.2.2.2.1 gX7_symmetric_X7_rowsOf rfl rfl rfl (by decide +kernel) ⟨Nat.le_of_ble_eq_true rfl, Nat.le_of_ble_eq_true rfl⟩) 0 rfl rfl rfl rfl rfl (Nat.le_of_ble_eq_true rfl) ⟨(by exact Nat.le_of_ble_eq_true rfl), (by exact Nat.le_of_ble_eq_true rfl)⟩ (fun r6 u5 h => ?_)
        refine kj_cast (ww' := kx_W cA h0 q u5.2 u5.1) rfl ?_
        refine kn_widen (k := 12) (n := 575) (Nat.le_of_ble_eq_true rfl) (Nat.le_of_ble_eq_true rfl) ?_
        refine kj_iload_n F dX7_symmetric_34 2 rfl rfl ?_
        obtain ⟨a7, e8, h⟩ := h
        refine kj_steq (st' := [.int x1, .ref a7]) (by rw [e8]; rfl) ?_
        obtain ⟨qri9, nri9, rri9, Pai9, Pbi9, hpi9, oi9, h1i9, h⟩ := h
        refine kj_cast (ww' := (kr_W cA a7 qri9 nri9 (kx_w cA h0 q (u5.1) ++ Pai9) Pbi9) rri9) (by rw [hpi9]; simp [kx_W, kr_W]) ?_
        refine kj_cVi (w := (kr_W cA a7 qri9 nri9 (kx_w cA h0 q (u5.1) ++ Pai9) Pbi9)) (As := [.int x1]) (rest := []) F dX7_symmetric_35 (kw_h h1i9) (fun o h1 => cr_heapsWith h1) (cwV 1 F.2.2.2.2.1 gX7_symmetric_X4_heapsWith rfl rfl rfl (by decide +kernel) ⟨Nat.le_of_ble_eq_true rfl, Nat.le_of_ble_eq_true rfl⟩) _ (kr_pos (j := 0) rfl) rfl rfl rfl rfl (Nat.le_of_ble_eq_true rfl) ⟨(by exact Nat.le_of_ble_eq_true rfl), (by exact Nat.le_of_ble_eq_true rfl)⟩ (kw_e ?_)
        refine kj_cast (ww' := (kx_W cA h0 q (Pai9 ++ (kr_w cA a7 qri9 nri9 oi9.2 ++ Pbi9)) (u5.1))) (by simp [kx_W, kr_W]) ?_
        refine kj_istore (i := 6) F dX7_symmetric_38 (lv' := [(6, .int (oi9.1)), (5, va_rf r2), (0, .ref h0), (1, .int x1), (2, .int x2), (3, .int x3), (4, .int x4)]) (by decide) (by simp [kj_cat]) ?_
        refine kj_iload F dX7_symmetric_40 0 rfl ?_
        refine kj_sipush F dX7_symmetric_42 (v := 1000) (by decide) ?_
        refine kw_icmp_le F dX7_symmetric_45 (tgt := 51) (by decide) (fun hc => ?_) (fun hc => ?_)
        · replace h := h.1 hc
          refine kj_iconst F dX7_symmetric_51 (v := 0) (by decide) ?_
          refine kj_istore F dX7_symmetric_52 (lv' := [(7, .int (0 : Int32)), (6, .int (oi9.1)), (5, va_rf r2), (0, .ref h0), (1, .int x1), (2, .int x2), (3, .int x3), (4, .int x4)]) (by decide) rfl ?_
          refine kj_lconst F dX7_symmetric_54 (v := 0) (by decide) ?_
          refine kj_lstore F dX7_symmetric_55 (lv' := [(8, .long (0 : Int64)), (7, .int (0 : Int32)), (6, .int (oi9.1)), (5, va_rf r2), (0, .ref h0), (1, .int x1), (2, .int x2), (3, .int x3), (4, .int x4)]) (by decide) rfl ?_
          refine kj_iconst F dX7_symmetric_57 (v := 0) (by decide) ?_
          refine kj_istore F dX7_symmetric_58 (lv' := [(10, .int (0 : Int32)), (8, .long (0 : Int64)), (7, .int (0 : Int32)), (6, .int (oi9.1)), (5, va_rf r2), (0, .ref h0), (1, .int x1), (2, .int x2), (3, .int x3), (4, .int x4)]) (by decide) rfl ?_
          obtain ⟨u10, hu11, r13, h14, h⟩ := h
          obtain ⟨iu12, hu11⟩ := kx_bx_at hu11
          refine kj_J.sub [9, 4, 3, 2, 1, 0] rfl ?_
          refine kj_it_J (Wh := fun (v : Int32 × Int64 × Int32) => kj_J p l e rm_X7_symmetric s m args below meth c 12 575 _ 11 D A (kx_W cA h0 q (Pai9 ++ (kr_w cA a7 qri9 nri9 oi9.2 ++ Pbi9)) (u5.1)) 60 [(4, .int x4), (5, va_rf r2), (6, .int (oi9.1)), (7, .int v.1), (8, .long v.2.1), (10, .int v.2.2)] []) (We := fun (v : Int32) => kj_J p l e rm_X7_symmetric s m args below meth c 12 575 _ 11 D A (kx_W cA h0 q (Pai9 ++ (kr_w cA a7 qri9 nri9 oi9.2 ++ Pbi9)) (u5.1)) 97 [(7, .int v)] []) (fun v o h kb ke => jc_symL (cells := 12) (slots := 575) ⟨(Nat.le_of_ble_eq_true rfl), (Nat.le_of_ble_eq_true rfl)⟩ F e4 hu11 h kb ke) 5000 (0, 0, 0) r13 h14 ?_
          refine kj_iload F dX7_symmetric_97 0 rfl ?_
          exact kn_iret (z := (((u5.1), (Pai9 ++ (kr_w cA a7 qri9 nri9 oi9.2 ++ Pbi9))) : kx_S × va_W)) F dX7_symmetric_99 (Nat.le_of_ble_eq_true rfl) (Nat.le_of_ble_eq_true rfl) h
        · replace h := h.2 hc
          refine kj_ldc F dX7_symmetric_48 (v := (-1000003)) (by decide +kernel) ?_
          exact kn_iret (z := (((u5.1), (Pai9 ++ (kr_w cA a7 qri9 nri9 oi9.2 ++ Pbi9))) : kx_S × va_W)) F dX7_symmetric_50 (Nat.le_of_ble_eq_true rfl) (Nat.le_of_ble_eq_true rfl) h
      · replace h := h.2 hc
        refine kj_ldc F dX7_symmetric_25 (v := (-1000001)) (by decide +kernel) ?_
        exact kn_iret (z := (((u1.1), (u1.2)) : kx_S × va_W)) F dX7_symmetric_27 (Nat.le_of_ble_eq_true rfl) (Nat.le_of_ble_eq_true rfl) h
theorem dc_symmetric {l : Launch} {D : va_G} {cA : Nat → ClassId} {h0 : Nat} {q : Nat → Nat} {P : va_W} {z : kx_S} {x1 : Int32} {x2 : Int32} {x3 : Int32} {x4 : Int32} {K : Int32 → kx_S → va_W → Prop} (h : vc_symmetric cA x1 x2 x3 x4 z P K) : kn_Mi l yX7_symmetric wsX7_symmetric rm_X7_symmetric D (kx_T cA) (kx_V cA h0 q) (kx_W cA h0 q P z) [.ref h0, .int x1, .int x2, .int x3, .int x4] (fun r u => K r u.1 u.2) :=
  fun sz => kn_start (by decide) rfl (Nat.le_of_ble_eq_true rfl) rfl fun p e s m args below meth c hsz F hN _ => ec_symmetric F hN h
