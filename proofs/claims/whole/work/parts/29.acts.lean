def kx_V (cA : Nat → ClassId) (h0 : Nat) (q : Nat → Nat) (u : kx_S × va_W) : va_W := kx_W cA h0 q u.2 u.1
theorem kw_e {α : Type} {Pr : α → Prop} {v : α} (k : Pr v) : ∀ v', some v' = some v → Pr v' := fun _ e => (Option.some.inj e) ▸ k
theorem kx_inP {cA : Nat → ClassId} {h0 : Nat} {q : Nat → Nat} {P : va_W} {z : kx_S} {x : Nat × va_E} (h : x ∈ P) : x ∈ kx_W cA h0 q P z := List.mem_append_right _ h
theorem kx_lensP {α : Type} (cA : Nat → ClassId) (h0 : Nat) (q : Nat → Nat) (z : kx_S) (B L1 L2 : va_W) (f : α → Nat × va_E) : (∀ v, ((fun v => kx_W cA h0 q (B ++ (L1 ++ f v :: L2)) z) v)[B.length + L1.length + 17]? = some (f v)) ∧ (∀ v v', ((fun v => kx_W cA h0 q (B ++ (L1 ++ f v :: L2)) z) v).set (B.length + L1.length + 17) (f v') = (fun v => kx_W cA h0 q (B ++ (L1 ++ f v :: L2)) z) v') := by
  refine ⟨fun v => ?_, fun v v' => ?_⟩
  · refine kx_pool ?_
    rw [List.getElem?_append_right (Nat.le_add_right _ _), Nat.add_sub_cancel_left, List.getElem?_append_right (Nat.le_refl _), Nat.sub_self]; rfl
  · show (kx_W cA h0 q (B ++ (L1 ++ f v :: L2)) z).set _ _ = kx_W cA h0 q (B ++ (L1 ++ f v' :: L2)) z
    unfold kx_W
    rw [List.set_append_right _ _ (by show 17 ≤ _; omega), show B.length + L1.length + 17 - (kx_w cA h0 q z).length = B.length + L1.length from Nat.add_sub_cancel _ 17, List.set_append_right _ _ (Nat.le_add_right _ _), Nat.add_sub_cancel_left, List.set_append_right _ _ (Nat.le_refl _), Nat.sub_self]
    rfl
/-! X3_keep -/
abbrev rm_X3_keep : Room := { frames := 1, cells := 0, slots := 0, locals := 24 }
theorem in_X3_keep_X3 : ∀ w ∈ u_ws RX3 TX3 3, w ∈ wsX3_keep := by decide +kernel
def vp_keep (cA : Nat → ClassId) (z : kx_S) (P : va_W) (K : kx_S → va_W → Prop) : Prop :=
  ∃ z1, kx_pI z 7 (((z.1 7) + (1 : Int32)) - ((z.1 7) + (1 : Int32)) / (12 : Int32) * (12 : Int32)) = some z1 ∧
  ∃ o2, fc_copyPlaces P 0 1 (0 : Int32) ((z1.1 7) * (4 : Int32)) z1 = some o2 ∧
  ∃ z4, kx_pI o2 8 (if (12 : Int32) < ((o2.1 8) + (1 : Int32)) then (12 : Int32) else ((o2.1 8) + (1 : Int32))) = some z4 ∧
  K z4 P
set_option maxRecDepth 20000 in
set_option maxHeartbeats 1000000 in
theorem ep_keep {p : Program} {l : Launch} {e : Env} {s : State} {m : MethodId} {args : Array Value} {below : List Frame} {meth : Method} {c : Code} {A : Nat → Prop} {D : va_G} {cA : Nat → ClassId} {h0 : Nat} {q : Nat → Nat} {P : va_W} {z : kx_S} {K : kx_S → va_W → Prop} (F : kj_Fx p s m args meth c cX3_keep 2 wsX3_keep RX3 none D (kx_T cA) A) (hN : kn_N s) (h : vp_keep cA z P K) : kj_J p l e rm_X3_keep s m args below meth c 0 0 (MQ below (kn_Qv D (kx_T cA) A (kx_V cA h0 q) (fun u => K u.1 u.2)) args s 0 0 A) 2 D A (kx_W cA h0 q P z) 0 [(0, .ref (q 1)), (1, .ref (q (0 + 11)))] [] := by
  unfold vp_keep at h
  refine kj_aload_n F dX3_keep_0 0 rfl rfl ?_
  refine kj_aload_n F dX3_keep_1 0 rfl rfl ?_
  refine kj_get F dX3_keep_2 in_X3_keep_X3 2 rfl rfl 1 (by decide) (by decide +kernel) rfl rfl ?_
  refine kj_iconst F dX3_keep_5 (v := 1) (by decide) ?_
  refine kj_iadd F dX3_keep_6 ?_
  refine kj_bipush F dX3_keep_7 (v := 12) (by decide) ?_
  refine kj_iremK F dX3_keep_9 (by decide) ?_
  obtain ⟨z1, h6, h⟩ := h
  refine kx_pt F dX3_keep_10 in_X3_keep_X3 tyX3 tyX3_ok nmX3 2 rfl rfl 1 7 (by decide) (by decide +kernel) rfl rfl (by decide +kernel) (Nat.le_of_ble_eq_true rfl) (kx_put7 cA h0 q _ _ _) (kw_h h6) (kw_e ?_)
  refine kj_aload_n F dX3_keep_13 1 rfl rfl ?_
  refine kj_iconst F dX3_keep_14 (v := 0) (by decide) ?_
  refine kj_aload_n F dX3_keep_15 0 rfl rfl ?_
  refine kj_get F dX3_keep_16 in_X3_keep_X3 2 rfl rfl 0 (by decide) (by decide +kernel) rfl rfl ?_
  refine kj_aload_n F dX3_keep_19 0 rfl rfl ?_
  refine kj_get F dX3_keep_20 in_X3_keep_X3 2 rfl rfl 1 (by decide) (by decide +kernel) rfl rfl ?_
  refine kj_iconst F dX3_keep_23 (v := 4) (by decide) ?_
  refine kj_imul F dX3_keep_24 ?_
  obtain ⟨o2, h3, h⟩ := h
  refine kj_cSNv (w := (kx_W cA h0 q P)) (As := [.ref (q (0 + 11)), .int (0 : Int32), .ref (q (1 + 11)), .int ((z1.1 7) * (4 : Int32))]) (rest := []) F dX3_keep_25 (cc_copyPlaces (by decide) (by decide) h3) ⟨va_cnB 4 F.2.2.2.2.1 gX3_keep_X7_copyPlaces_n24 rfl rfl rfl hN.2.2.2.2.2.1 (F.2.2.2.2.1 _ (by decide +kernel)) (by decide +kernel) ⟨Nat.le_of_ble_eq_true rfl, Nat.le_of_ble_eq_true rfl⟩, F.2.2.2.2.1 _ (by decide +kernel)⟩ rfl rfl (Nat.le_of_ble_eq_true rfl) ⟨(by exact Nat.le_of_ble_eq_true rfl), (by exact Nat.le_of_ble_eq_true rfl)⟩ ?_
  refine kj_aload_n F dX3_keep_28 0 rfl rfl ?_
  refine kj_aload_n F dX3_keep_29 0 rfl rfl ?_
  refine kj_get F dX3_keep_30 in_X3_keep_X3 2 rfl rfl 2 (by decide) (by decide +kernel) rfl rfl ?_
  refine kj_iconst F dX3_keep_33 (v := 1) (by decide) ?_
  refine kj_iadd F dX3_keep_34 ?_
  refine kj_bipush F dX3_keep_35 (v := 12) (by decide) ?_
  refine kj_mmin F dX3_keep_37 (by decide +kernel) (by decide +kernel) (by decide +kernel) (by decide +kernel) (Nat.le_of_ble_eq_true rfl) (Nat.le_of_ble_eq_true rfl) ⟨(by exact Nat.le_of_ble_eq_true rfl), (by exact Nat.le_of_ble_eq_true rfl)⟩ ?_
  obtain ⟨z4, h5, h⟩ := h
  refine kx_pt F dX3_keep_40 in_X3_keep_X3 tyX3 tyX3_ok nmX3 2 rfl rfl 2 8 (by decide) (by decide +kernel) rfl rfl (by decide +kernel) (Nat.le_of_ble_eq_true rfl) (kx_put8 cA h0 q _ _ _) (kw_h h5) (kw_e ?_)
  exact kn_vret (z := ((z4, P) : kx_S × va_W)) F dX3_keep_43 (Nat.le_of_ble_eq_true rfl) (Nat.le_of_ble_eq_true rfl) h
theorem dp_keep {l : Launch} {D : va_G} {cA : Nat → ClassId} {h0 : Nat} {q : Nat → Nat} {P : va_W} {z : kx_S} {K : kx_S → va_W → Prop} (h : vp_keep cA z P K) : kn_Mv l yX3_keep wsX3_keep rm_X3_keep D (kx_T cA) (kx_V cA h0 q) (kx_W cA h0 q P z) [.ref (q 1), .ref (q (0 + 11))] (fun u => K u.1 u.2) :=
  fun sz => kn_start (by decide) rfl (Nat.le_of_ble_eq_true rfl) rfl fun p e s m args below meth c hsz F hN _ => ep_keep F hN h
/-! X3_giveBack -/
abbrev rm_X3_giveBack : Room := { frames := 1, cells := 0, slots := 0, locals := 24 }
theorem in_X3_giveBack_X3 : ∀ w ∈ u_ws RX3 TX3 3, w ∈ wsX3_giveBack := by decide +kernel
def vp_giveBack (cA : Nat → ClassId) (z : kx_S) (P : va_W) (K : kx_S → va_W → Prop) : Prop :=
  ∃ o1, fc_copyPlaces P 1 0 ((z.1 7) * (4 : Int32)) (0 : Int32) z = some o1 ∧
  ∃ z3, kx_pI o1 7 ((((o1.1 7) + (12 : Int32)) - (1 : Int32)) - (((o1.1 7) + (12 : Int32)) - (1 : Int32)) / (12 : Int32) * (12 : Int32)) = some z3 ∧
  ∃ z4, kx_pI z3 8 ((z3.1 8) - (1 : Int32)) = some z4 ∧
  K z4 P
set_option maxRecDepth 20000 in
set_option maxHeartbeats 1000000 in
theorem ep_giveBack {p : Program} {l : Launch} {e : Env} {s : State} {m : MethodId} {args : Array Value} {below : List Frame} {meth : Method} {c : Code} {A : Nat → Prop} {D : va_G} {cA : Nat → ClassId} {h0 : Nat} {q : Nat → Nat} {P : va_W} {z : kx_S} {K : kx_S → va_W → Prop} (F : kj_Fx p s m args meth c cX3_giveBack 2 wsX3_giveBack RX3 none D (kx_T cA) A) (hN : kn_N s) (h : vp_giveBack cA z P K) : kj_J p l e rm_X3_giveBack s m args below meth c 0 0 (MQ below (kn_Qv D (kx_T cA) A (kx_V cA h0 q) (fun u => K u.1 u.2)) args s 0 0 A) 2 D A (kx_W cA h0 q P z) 0 [(0, .ref (q 1)), (1, .ref (q (0 + 11)))] [] := by
  unfold vp_giveBack at h
  refine kj_aload_n F dX3_giveBack_0 0 rfl rfl ?_
  refine kj_get F dX3_giveBack_1 in_X3_giveBack_X3 2 rfl rfl 0 (by decide) (by decide +kernel) rfl rfl ?_
  refine kj_aload_n F dX3_giveBack_4 0 rfl rfl ?_
  refine kj_get F dX3_giveBack_5 in_X3_giveBack_X3 2 rfl rfl 1 (by decide) (by decide +kernel) rfl rfl ?_
  refine kj_iconst F dX3_giveBack_8 (v := 4) (by decide) ?_
  refine kj_imul F dX3_giveBack_9 ?_
  refine kj_aload_n F dX3_giveBack_10 1 rfl rfl ?_
  refine kj_iconst F dX3_giveBack_11 (v := 0) (by decide) ?_
  obtain ⟨o1, h2, h⟩ := h
  refine kj_cSNv (w := (kx_W cA h0 q P)) (As := [.ref (q (1 + 11)), .int ((z.1 7) * (4 : Int32)), .ref (q (0 + 11)), .int (0 : Int32)]) (rest := []) F dX3_giveBack_12 (cc_copyPlaces (by decide) (by decide) h2) ⟨va_cnB 4 F.2.2.2.2.1 gX3_giveBack_X7_copyPlaces_n24 rfl rfl rfl hN.2.2.2.2.2.1 (F.2.2.2.2.1 _ (by decide +kernel)) (by decide +kernel) ⟨Nat.le_of_ble_eq_true rfl, Nat.le_of_ble_eq_true rfl⟩, F.2.2.2.2.1 _ (by decide +kernel)⟩ rfl rfl (Nat.le_of_ble_eq_true rfl) ⟨(by exact Nat.le_of_ble_eq_true rfl), (by exact Nat.le_of_ble_eq_true rfl)⟩ ?_
  refine kj_aload_n F dX3_giveBack_15 0 rfl rfl ?_
  refine kj_aload_n F dX3_giveBack_16 0 rfl rfl ?_
  refine kj_get F dX3_giveBack_17 in_X3_giveBack_X3 2 rfl rfl 1 (by decide) (by decide +kernel) rfl rfl ?_
  refine kj_bipush F dX3_giveBack_20 (v := 12) (by decide) ?_
  refine kj_iadd F dX3_giveBack_22 ?_
  refine kj_iconst F dX3_giveBack_23 (v := 1) (by decide) ?_
  refine kj_isub F dX3_giveBack_24 ?_
  refine kj_bipush F dX3_giveBack_25 (v := 12) (by decide) ?_
  refine kj_iremK F dX3_giveBack_27 (by decide) ?_
  obtain ⟨z3, h6, h⟩ := h
  refine kx_pt F dX3_giveBack_28 in_X3_giveBack_X3 tyX3 tyX3_ok nmX3 2 rfl rfl 1 7 (by decide) (by decide +kernel) rfl rfl (by decide +kernel) (Nat.le_of_ble_eq_true rfl) (kx_put7 cA h0 q _ _ _) (kw_h h6) (kw_e ?_)
  refine kj_aload_n F dX3_giveBack_31 0 rfl rfl ?_
  refine kj_dup F dX3_giveBack_32 rfl ?_
  refine kj_get F dX3_giveBack_33 in_X3_giveBack_X3 2 rfl rfl 2 (by decide) (by decide +kernel) rfl rfl ?_
  refine kj_iconst F dX3_giveBack_36 (v := 1) (by decide) ?_
  refine kj_isub F dX3_giveBack_37 ?_
  obtain ⟨z4, h5, h⟩ := h
  refine kx_pt F dX3_giveBack_38 in_X3_giveBack_X3 tyX3 tyX3_ok nmX3 2 rfl rfl 2 8 (by decide) (by decide +kernel) rfl rfl (by decide +kernel) (Nat.le_of_ble_eq_true rfl) (kx_put8 cA h0 q _ _ _) (kw_h h5) (kw_e ?_)
  exact kn_vret (z := ((z4, P) : kx_S × va_W)) F dX3_giveBack_41 (Nat.le_of_ble_eq_true rfl) (Nat.le_of_ble_eq_true rfl) h
theorem dp_giveBack {l : Launch} {D : va_G} {cA : Nat → ClassId} {h0 : Nat} {q : Nat → Nat} {P : va_W} {z : kx_S} {K : kx_S → va_W → Prop} (h : vp_giveBack cA z P K) : kn_Mv l yX3_giveBack wsX3_giveBack rm_X3_giveBack D (kx_T cA) (kx_V cA h0 q) (kx_W cA h0 q P z) [.ref (q 1), .ref (q (0 + 11))] (fun u => K u.1 u.2) :=
  fun sz => kn_start (by decide) rfl (Nat.le_of_ble_eq_true rfl) rfl fun p e s m args below meth c hsz F hN _ => ep_giveBack F hN h
/-! X7_put -/
abbrev rm_X7_put : Room := { frames := 2, cells := 0, slots := 0, locals := 45 }
theorem in_X7_put_X7 : ∀ w ∈ u_ws RX7 TX7 10, w ∈ wsX7_put := by decide +kernel
def vc_put (cA : Nat → ClassId) (x1 : (Option Nat)) (x2 : Int32) (z : kx_S) (P : va_W) (K : Int32 → kx_S → va_W → Prop) : Prop :=
  vp_keep cA z P (fun u1z u1p =>
  ∃ z3, kx_wh u1p u1z 0 x2 x1 = some z3 ∧
  (x1 = none →
  K (0 : Int32) z3 u1p) ∧ (∀ a4, x1 = some a4 →
  ∃ u6, kx_hp u1p a4 = some u6 ∧
  ∃ o9, fh_volume u6.2 = some o9 ∧
  K o9 z3 u1p))
set_option maxRecDepth 20000 in
set_option maxHeartbeats 1000000 in
theorem ec_put {p : Program} {l : Launch} {e : Env} {s : State} {m : MethodId} {args : Array Value} {below : List Frame} {meth : Method} {c : Code} {A : Nat → Prop} {D : va_G} {cA : Nat → ClassId} {h0 : Nat} {q : Nat → Nat} {P : va_W} {z : kx_S} {x1 : (Option Nat)} {x2 : Int32} {K : Int32 → kx_S → va_W → Prop} (F : kj_Fx p s m args meth c cX7_put 3 wsX7_put RX7 (some .int) D (kx_T cA) A) (hN : kn_N s) (h : vc_put cA x1 x2 z P K) : kj_J p l e rm_X7_put s m args below meth c 0 0 (MQ below (kn_Qi D (kx_T cA) A (kx_V cA h0 q) (fun r u => K r u.1 u.2)) args s 0 0 A) 3 D A (kx_W cA h0 q P z) 0 [(0, .ref h0), (1, va_rf x1), (2, .int x2)] [] := by
  unfold vc_put at h
  refine kj_aload_n F dX7_put_0 0 rfl rfl ?_
  refine kj_get F dX7_put_1 in_X7_put_X7 0 rfl rfl 2 (by decide) (by decide +kernel) rfl rfl ?_
  refine kj_aload_n F dX7_put_4 0 rfl rfl ?_
  refine kj_get F dX7_put_5 in_X7_put_X7 0 rfl rfl 1 (by decide) (by decide +kernel) rfl rfl ?_
  refine kn_cVv (As := [.ref (q (0 + 11))]) (rest := []) F hN dX7_put_8 (dp_keep h) (cwV 1 F.2.2.2.2.1 gX7_put_X3_keep rfl rfl rfl (by decide +kernel) ⟨Nat.le_of_ble_eq_true rfl, Nat.le_of_ble_eq_true rfl⟩) 2 rfl rfl rfl rfl rfl (Nat.le_of_ble_eq_true rfl) ⟨(by exact Nat.le_of_ble_eq_true rfl), (by exact Nat.le_of_ble_eq_true rfl)⟩ (fun u1 h => ?_)
  refine kj_cast (ww' := kx_W cA h0 q u1.2 u1.1) rfl ?_
  refine kn_widen (k := 0) (n := 0) (Nat.le_of_ble_eq_true rfl) (Nat.le_of_ble_eq_true rfl) ?_
  refine kj_aload_n F dX7_put_11 0 rfl rfl ?_
  refine kj_get F dX7_put_12 in_X7_put_X7 0 rfl rfl 1 (by decide) (by decide +kernel) rfl rfl ?_
  refine kj_iload_n F dX7_put_15 2 rfl rfl ?_
  refine kj_aloadq_n F dX7_put_16 1 rfl rfl ?_
  obtain ⟨z3, h11, h⟩ := h
  refine kx_rast (v := x1) F dX7_put_17 0 (by decide) (kw_h h11) (kw_e ?_)
  refine kj_aloadq_n F dX7_put_18 1 rfl rfl ?_
  refine kj_ifnonnull F dX7_put_19 (tgt := 26) (by decide) (fun e5 => ?_) (fun a4 e5 => ?_)
  · replace h := h.1 e5
    refine kj_iconst F dX7_put_22 (v := 0) (by decide) ?_
    refine kj_goto F dX7_put_23 (tgt := 30) (by decide) ?_
    exact kn_iret (z := ((z3, (u1.2)) : kx_S × va_W)) F dX7_put_30 (Nat.le_of_ble_eq_true rfl) (Nat.le_of_ble_eq_true rfl) h
  · replace h := h.2 a4 e5
    refine kj_aloadq_n F dX7_put_26 1 rfl rfl ?_
    refine kj_deref e5 ?_
    obtain ⟨u6, hu7, h⟩ := h
    obtain ⟨iu8, hu7⟩ := kx_hp_at hu7
    obtain ⟨o9, h10, h⟩ := h
    refine kj_cVip (w := (kx_W cA h0 q (u1.2))) (As := []) (rest := []) F dX7_put_27 (kw_h h10) (fun o h1 => ch_volume (w := (kx_W cA h0 q (u1.2))) (kx_pool hu7) h1) (cwV 0 F.2.2.2.2.1 gX7_put_X1_volume rfl rfl rfl (by decide +kernel) ⟨Nat.le_of_ble_eq_true rfl, Nat.le_of_ble_eq_true rfl⟩) _ (kx_pool hu7) rfl rfl rfl rfl (Nat.le_of_ble_eq_true rfl) ⟨(by exact Nat.le_of_ble_eq_true rfl), (by exact Nat.le_of_ble_eq_true rfl)⟩ (kw_e ?_)
    exact kn_iret (z := ((z3, (u1.2)) : kx_S × va_W)) F dX7_put_30 (Nat.le_of_ble_eq_true rfl) (Nat.le_of_ble_eq_true rfl) h
theorem dc_put {l : Launch} {D : va_G} {cA : Nat → ClassId} {h0 : Nat} {q : Nat → Nat} {P : va_W} {z : kx_S} {x1 : (Option Nat)} {x2 : Int32} {K : Int32 → kx_S → va_W → Prop} (h : vc_put cA x1 x2 z P K) : kn_Mi l yX7_put wsX7_put rm_X7_put D (kx_T cA) (kx_V cA h0 q) (kx_W cA h0 q P z) [.ref h0, va_rf x1, .int x2] (fun r u => K r u.1 u.2) :=
  fun sz => kn_start (by decide) rfl (by cases x1 <;> exact Nat.le_of_ble_eq_true rfl) (lv := [(0, .ref h0), (1, va_rf x1), (2, .int x2)]) (by cases x1 <;> rfl) fun p e s m args below meth c hsz F hN _ => ec_put F hN h
/-! X7_undo -/
abbrev rm_X7_undo : Room := { frames := 2, cells := 0, slots := 0, locals := 45 }
theorem in_X7_undo_X3 : ∀ w ∈ u_ws RX3 TX3 3, w ∈ wsX7_undo := by decide +kernel
theorem in_X7_undo_X7 : ∀ w ∈ u_ws RX7 TX7 10, w ∈ wsX7_undo := by decide +kernel
def vc_undo (cA : Nat → ClassId) (z : kx_S) (P : va_W) (K : Int32 → kx_S → va_W → Prop) : Prop :=
  ((z.1 8) = 0 →
  K ((-1000002) : Int32) z P) ∧ (¬ (z.1 8) = 0 →
  vp_giveBack cA z P (fun u1z u1p =>
  K (u1z.1 8) u1z u1p))
set_option maxRecDepth 20000 in
set_option maxHeartbeats 1000000 in
theorem ec_undo {p : Program} {l : Launch} {e : Env} {s : State} {m : MethodId} {args : Array Value} {below : List Frame} {meth : Method} {c : Code} {A : Nat → Prop} {D : va_G} {cA : Nat → ClassId} {h0 : Nat} {q : Nat → Nat} {P : va_W} {z : kx_S} {K : Int32 → kx_S → va_W → Prop} (F : kj_Fx p s m args meth c cX7_undo 1 wsX7_undo RX7 (some .int) D (kx_T cA) A) (hN : kn_N s) (h : vc_undo cA z P K) : kj_J p l e rm_X7_undo s m args below meth c 0 0 (MQ below (kn_Qi D (kx_T cA) A (kx_V cA h0 q) (fun r u => K r u.1 u.2)) args s 0 0 A) 1 D A (kx_W cA h0 q P z) 0 [(0, .ref h0)] [] := by
  unfold vc_undo at h
  refine kj_aload_n F dX7_undo_0 0 rfl rfl ?_
  refine kj_get F dX7_undo_1 in_X7_undo_X7 0 rfl rfl 2 (by decide) (by decide +kernel) rfl rfl ?_
  refine kj_get F dX7_undo_4 in_X7_undo_X3 2 rfl rfl 2 (by decide) (by decide +kernel) rfl rfl ?_
  refine kw_if_ne F dX7_undo_7 (tgt := 13) (by decide) (fun hc => ?_) (fun hc => ?_)
  · replace h := h.1 hc
    refine kj_ldc F dX7_undo_10 (v := (-1000002)) (by decide +kernel) ?_
    exact kn_iret (z := ((z, P) : kx_S × va_W)) F dX7_undo_12 (Nat.le_of_ble_eq_true rfl) (Nat.le_of_ble_eq_true rfl) h
  · replace h := h.2 hc
    refine kj_aload_n F dX7_undo_13 0 rfl rfl ?_
    refine kj_get F dX7_undo_14 in_X7_undo_X7 0 rfl rfl 2 (by decide) (by decide +kernel) rfl rfl ?_
    refine kj_aload_n F dX7_undo_17 0 rfl rfl ?_
    refine kj_get F dX7_undo_18 in_X7_undo_X7 0 rfl rfl 1 (by decide) (by decide +kernel) rfl rfl ?_
    refine kn_cVv (As := [.ref (q (0 + 11))]) (rest := []) F hN dX7_undo_21 (dp_giveBack h) (cwV 1 F.2.2.2.2.1 gX7_undo_X3_giveBack rfl rfl rfl (by decide +kernel) ⟨Nat.le_of_ble_eq_true rfl, Nat.le_of_ble_eq_true rfl⟩) 2 rfl rfl rfl rfl rfl (Nat.le_of_ble_eq_true rfl) ⟨(by exact Nat.le_of_ble_eq_true rfl), (by exact Nat.le_of_ble_eq_true rfl)⟩ (fun u1 h => ?_)
    refine kj_cast (ww' := kx_W cA h0 q u1.2 u1.1) rfl ?_
    refine kn_widen (k := 0) (n := 0) (Nat.le_of_ble_eq_true rfl) (Nat.le_of_ble_eq_true rfl) ?_
    refine kj_aload_n F dX7_undo_24 0 rfl rfl ?_
    refine kj_get F dX7_undo_25 in_X7_undo_X7 0 rfl rfl 2 (by decide) (by decide +kernel) rfl rfl ?_
    refine kj_get F dX7_undo_28 in_X7_undo_X3 2 rfl rfl 2 (by decide) (by decide +kernel) rfl rfl ?_
    exact kn_iret (z := (((u1.1), (u1.2)) : kx_S × va_W)) F dX7_undo_31 (Nat.le_of_ble_eq_true rfl) (Nat.le_of_ble_eq_true rfl) h
theorem dc_undo {l : Launch} {D : va_G} {cA : Nat → ClassId} {h0 : Nat} {q : Nat → Nat} {P : va_W} {z : kx_S} {K : Int32 → kx_S → va_W → Prop} (h : vc_undo cA z P K) : kn_Mi l yX7_undo wsX7_undo rm_X7_undo D (kx_T cA) (kx_V cA h0 q) (kx_W cA h0 q P z) [.ref h0] (fun r u => K r u.1 u.2) :=
  fun sz => kn_start (by decide) rfl (Nat.le_of_ble_eq_true rfl) rfl fun p e s m args below meth c hsz F hN _ => ec_undo F hN h
/-! X7_drop -/
abbrev rm_X7_drop : Room := { frames := 3, cells := 0, slots := 0, locals := 67 }
def vc_drop (cA : Nat → ClassId) (x1 : Int32) (z : kx_S) (P : va_W) (K : Int32 → kx_S → va_W → Prop) : Prop :=
  ∃ o1, fc_heapAt P x1 z = some o1 ∧
  ((o1.1) = none →
  K ((-1000001) : Int32) (o1.2) P) ∧ (∀ a3, (o1.1) = some a3 →
  vc_put cA none x1 (o1.2) P (fun r6 u5z u5p =>
  ∃ u7, kx_hp u5p a3 = some u7 ∧
  ∃ o10, fh_volume u7.2 = some o10 ∧
  K o10 u5z u5p))
set_option maxRecDepth 20000 in
set_option maxHeartbeats 1000000 in
theorem ec_drop {p : Program} {l : Launch} {e : Env} {s : State} {m : MethodId} {args : Array Value} {below : List Frame} {meth : Method} {c : Code} {A : Nat → Prop} {D : va_G} {cA : Nat → ClassId} {h0 : Nat} {q : Nat → Nat} {P : va_W} {z : kx_S} {x1 : Int32} {K : Int32 → kx_S → va_W → Prop} (F : kj_Fx p s m args meth c cX7_drop 3 wsX7_drop RX7 (some .int) D (kx_T cA) A) (hN : kn_N s) (h : vc_drop cA x1 z P K) : kj_J p l e rm_X7_drop s m args below meth c 0 0 (MQ below (kn_Qi D (kx_T cA) A (kx_V cA h0 q) (fun r u => K r u.1 u.2)) args s 0 0 A) 3 D A (kx_W cA h0 q P z) 0 [(0, .ref h0), (1, .int x1)] [] := by
  unfold vc_drop at h
  refine kj_aload_n F dX7_drop_0 0 rfl rfl ?_
  refine kj_iload_n F dX7_drop_1 1 rfl rfl ?_
  obtain ⟨o1, h2, h⟩ := h
  refine kj_cVq (w := (kx_W cA h0 q P)) (As := [.int x1]) (rest := []) F dX7_drop_2 (kw_h h2) (fun o h1 => cc_heapAt h1) (cwV 1 F.2.2.2.2.1 gX7_drop_X7_heapAt rfl rfl rfl (by decide +kernel) ⟨Nat.le_of_ble_eq_true rfl, Nat.le_of_ble_eq_true rfl⟩) 0 rfl rfl rfl rfl rfl (Nat.le_of_ble_eq_true rfl) ⟨(by exact Nat.le_of_ble_eq_true rfl), (by exact Nat.le_of_ble_eq_true rfl)⟩ (kw_e ?_)
  refine kj_astoreq_n (i := 2) (v := (o1.1)) F dX7_drop_5 (lv' := [(2, va_rf (o1.1)), (0, .ref h0), (1, .int x1)]) rfl (by decide) rfl ?_
  refine kj_aloadq_n F dX7_drop_6 0 rfl rfl ?_
  refine kj_ifnonnull F dX7_drop_7 (tgt := 13) (by decide) (fun e4 => ?_) (fun a3 e4 => ?_)
  · replace h := h.1 e4
    refine kj_ldc F dX7_drop_10 (v := (-1000001)) (by decide +kernel) ?_
    exact kn_iret (z := (((o1.2), P) : kx_S × va_W)) F dX7_drop_12 (Nat.le_of_ble_eq_true rfl) (Nat.le_of_ble_eq_true rfl) h
  · replace h := h.2 a3 e4
    refine kj_aload_n F dX7_drop_13 1 rfl rfl ?_
    refine kj_null F dX7_drop_14 ?_
    refine kj_iload_n F dX7_drop_15 2 rfl rfl ?_
    refine kn_cVi (As := [va_rf none, .int x1]) (rest := []) F hN dX7_drop_16 (dc_put h) (cwV 2 F.2.2.2.2.1 gX7_drop_X7_put rfl rfl rfl (by decide +kernel) ⟨Nat.le_of_ble_eq_true rfl, Nat.le_of_ble_eq_true rfl⟩) 0 rfl rfl rfl rfl rfl (Nat.le_of_ble_eq_true rfl) ⟨(by exact Nat.le_of_ble_eq_true rfl), (by exact Nat.le_of_ble_eq_true rfl)⟩ (fun r6 u5 h => ?_)
    refine kj_cast (ww' := kx_W cA h0 q u5.2 u5.1) rfl ?_
    refine kn_widen (k := 0) (n := 0) (Nat.le_of_ble_eq_true rfl) (Nat.le_of_ble_eq_true rfl) ?_
    refine kj_pop F dX7_drop_19 rfl ?_
    refine kj_aloadq_n F dX7_drop_20 0 rfl rfl ?_
    refine kj_deref e4 ?_
    obtain ⟨u7, hu8, h⟩ := h
    obtain ⟨iu9, hu8⟩ := kx_hp_at hu8
    obtain ⟨o10, h11, h⟩ := h
    refine kj_cVip (w := (kx_W cA h0 q (u5.2))) (As := []) (rest := []) F dX7_drop_21 (kw_h h11) (fun o h1 => ch_volume (w := (kx_W cA h0 q (u5.2))) (kx_pool hu8) h1) (cwV 0 F.2.2.2.2.1 gX7_drop_X1_volume rfl rfl rfl (by decide +kernel) ⟨Nat.le_of_ble_eq_true rfl, Nat.le_of_ble_eq_true rfl⟩) _ (kx_pool hu8) rfl rfl rfl rfl (Nat.le_of_ble_eq_true rfl) ⟨(by exact Nat.le_of_ble_eq_true rfl), (by exact Nat.le_of_ble_eq_true rfl)⟩ (kw_e ?_)
    exact kn_iret (z := (((u5.1), (u5.2)) : kx_S × va_W)) F dX7_drop_24 (Nat.le_of_ble_eq_true rfl) (Nat.le_of_ble_eq_true rfl) h
theorem dc_drop {l : Launch} {D : va_G} {cA : Nat → ClassId} {h0 : Nat} {q : Nat → Nat} {P : va_W} {z : kx_S} {x1 : Int32} {K : Int32 → kx_S → va_W → Prop} (h : vc_drop cA x1 z P K) : kn_Mi l yX7_drop wsX7_drop rm_X7_drop D (kx_T cA) (kx_V cA h0 q) (kx_W cA h0 q P z) [.ref h0, .int x1] (fun r u => K r u.1 u.2) :=
  fun sz => kn_start (by decide) rfl (Nat.le_of_ble_eq_true rfl) rfl fun p e s m args below meth c hsz F hN _ => ec_drop F hN h
/-! X0_of -/
abbrev rm_X0_of : Room := { frames := 2, cells := 1, slots := 3, locals := 43 }
theorem in_X0_of_X0 : ∀ w ∈ u_ws RX0 TX0 3, w ∈ wsX0_of := by decide +kernel
def vx_of (cA : Nat → ClassId) (x0 : Int32) (x1 : Int32) (x2 : Int32) (z : kx_S) (P : va_W) (K : Option Nat → kx_S → va_W → Prop) : Prop :=
  ∃ o1, fx_inRange x0 x1 x2 = some o1 ∧
  (o1 = 0 →
  K none z P) ∧ (¬ o1 = 0 →
  ∀ q3, (∀ x ∈ P, x.1 ≠ q3) →
  K (some q3) z (P ++ [((q3, .inr (0, [.int x0, .int x1, .int x2])) : Nat × va_E)]))
set_option maxRecDepth 20000 in
set_option maxHeartbeats 1000000 in
theorem ex_of {p : Program} {l : Launch} {e : Env} {s : State} {m : MethodId} {args : Array Value} {below : List Frame} {meth : Method} {c : Code} {A : Nat → Prop} {D : va_G} {cA : Nat → ClassId} {h0 : Nat} {q : Nat → Nat} {P : va_W} {z : kx_S} {x0 : Int32} {x1 : Int32} {x2 : Int32} {K : Option Nat → kx_S → va_W → Prop} (F : kj_Fx p s m args meth c cX0_of 3 wsX0_of RX0 (some (.object "CornerHeaps$Box")) D (kx_T cA) A) (hN : kn_N s) (h : vx_of cA x0 x1 x2 z P K) : kj_J p l e rm_X0_of s m args below meth c 0 0 (MQ below (kn_Qq D (kx_T cA) A (kx_V cA h0 q) (fun r u => K r u.1 u.2)) args s 1 3 A) 3 D A (kx_W cA h0 q P z) 0 [(0, .int x0), (1, .int x1), (2, .int x2)] [] := by
  unfold vx_of at h
  refine kj_iload_n F dX0_of_0 0 rfl rfl ?_
  refine kj_iload_n F dX0_of_1 1 rfl rfl ?_
  refine kj_iload_n F dX0_of_2 2 rfl rfl ?_
  obtain ⟨o1, h2, h⟩ := h
  refine kj_cSip (w := (kx_W cA h0 q P)) (As := [.int x0, .int x1, .int x2]) (rest := []) F dX0_of_3 (kw_h h2) (fun o h1 => cx_inRange (w := (kx_W cA h0 q P)) h1) (va_cwS 3 F.2.2.2.2.1 gX0_of_X0_inRange rfl rfl rfl (by decide +kernel) ⟨Nat.le_of_ble_eq_true rfl, Nat.le_of_ble_eq_true rfl⟩) rfl rfl (Nat.le_of_ble_eq_true rfl) ⟨(by exact Nat.le_of_ble_eq_true rfl), (by exact Nat.le_of_ble_eq_true rfl)⟩ (kw_e ?_)
  refine kw_if_eq F dX0_of_6 (tgt := 22) (by decide) (fun hc => ?_) (fun hc => ?_)
  · replace h := h.1 hc
    refine kj_null F dX0_of_22 ?_
    exact kn_aret (v := none) (z := ((z, P) : kx_S × va_W)) F dX0_of_23 (Nat.le_of_ble_eq_true rfl) (Nat.le_of_ble_eq_true rfl) h
  · replace h := h.2 hc
    refine kn_new (fs := [.int 0, .int 0, .int 0]) F dX0_of_9 in_X0_of_X0 tyX0 tyX0_ok (by decide +kernel) (by decide +kernel) (by decide +kernel) (ci := 0) rfl (fun j hj => by rcases (show j = 0 ∨ j = 1 ∨ j = 2 by omega) with rfl | rfl | rfl <;> rfl) (Nat.le_of_ble_eq_true rfl) (Nat.le_of_ble_eq_true rfl) (fun q3 hq4 => ?_)
    replace h := h q3 (fun x hx => hq4 x (kx_inP hx))
    refine kj_cast (ww' := (kx_W cA h0 q (P ++ [((q3, .inr (0, [.int 0, .int 0, .int 0])) : Nat × va_E)]) z)) (by simp [kx_W]) ?_
    refine kj_dup F dX0_of_12 rfl ?_
    refine kj_iload_n F dX0_of_13 0 rfl rfl ?_
    refine kj_iload_n F dX0_of_14 1 rfl rfl ?_
    refine kj_iload_n F dX0_of_15 2 rfl rfl ?_
    refine kj_cast (ww' := (fun (v : Int32 × Int32 × Int32) => kx_W cA h0 q (P ++ (([] : va_W) ++ (fun (v : Int32 × Int32 × Int32) => ((q3, .inr (0, [.int v.1, .int v.2.1, .int v.2.2])) : Nat × va_E)) v :: [])) z) (0, 0, 0)) rfl ?_
    refine kj_cIv (w := (fun (v : Int32 × Int32 × Int32) => kx_W cA h0 q (P ++ (([] : va_W) ++ (fun (v : Int32 × Int32 × Int32) => ((q3, .inr (0, [.int v.1, .int v.2.1, .int v.2.2])) : Nat × va_E)) v :: [])) z)) (z := (0, 0, 0)) (o := (x0, x1, x2)) (As := [.int x0, .int x1, .int x2]) (rest := [.ref q3]) F dX0_of_16 (cx_init (kx_lensP cA h0 q z P [] [] (fun (v : Int32 × Int32 × Int32) => ((q3, .inr (0, [.int v.1, .int v.2.1, .int v.2.2])) : Nat × va_E))).1 (kx_lensP cA h0 q z P [] [] (fun (v : Int32 × Int32 × Int32) => ((q3, .inr (0, [.int v.1, .int v.2.1, .int v.2.2])) : Nat × va_E))).2) (cwI 3 F.2.2.2.2.1 gX0_of_X0_init rfl rfl rfl (F.2.2.2.2.1 _ (by decide +kernel)) (F.2.2.2.2.1 _ (by decide +kernel)) (F.2.2.2.2.1 _ (by decide +kernel)) rfl (by decide +kernel) ⟨Nat.le_of_ble_eq_true rfl, Nat.le_of_ble_eq_true rfl⟩) rfl rfl (Nat.le_of_ble_eq_true rfl) ⟨(by exact Nat.le_of_ble_eq_true rfl), (by exact Nat.le_of_ble_eq_true rfl)⟩ ?_
    refine kj_cast (ww' := (kx_W cA h0 q (P ++ [((q3, .inr (0, [.int x0, .int x1, .int x2])) : Nat × va_E)]) z)) rfl ?_
    refine kj_goto F dX0_of_19 (tgt := 23) (by decide) ?_
    exact kn_aret (v := (some q3)) (z := ((z, (P ++ [((q3, .inr (0, [.int x0, .int x1, .int x2])) : Nat × va_E)])) : kx_S × va_W)) F dX0_of_23 (Nat.le_of_ble_eq_true rfl) (Nat.le_of_ble_eq_true rfl) h
theorem dx_of {l : Launch} {D : va_G} {cA : Nat → ClassId} {h0 : Nat} {q : Nat → Nat} {P : va_W} {z : kx_S} {x0 : Int32} {x1 : Int32} {x2 : Int32} {K : Option Nat → kx_S → va_W → Prop} (h : vx_of cA x0 x1 x2 z P K) : kn_Mq l yX0_of wsX0_of rm_X0_of D (kx_T cA) (kx_V cA h0 q) (kx_W cA h0 q P z) [.int x0, .int x1, .int x2] (fun r u => K r u.1 u.2) :=
  fun sz => kn_start (by decide) rfl (Nat.le_of_ble_eq_true rfl) rfl fun p e s m args below meth c hsz F hN _ => ex_of F hN h
/-! X1_turned -/
abbrev rm_X1_turned : Room := { frames := 2, cells := 2, slots := 5, locals := 52 }
theorem in_X1_turned_X0 : ∀ w ∈ u_ws RX0 TX0 3, w ∈ wsX1_turned := by decide +kernel
theorem in_X1_turned_X1 : ∀ w ∈ u_ws RX1 TX1 2, w ∈ wsX1_turned := by decide +kernel
def vh_turned (cA : Nat → ClassId) (x0 : Nat) (x1 : Int32) (z : kx_S) (P : va_W) (K : Option Nat → kx_S → va_W → Prop) : Prop :=
  (x1 = 0 →
  ∀ q1, (∀ x ∈ P, x.1 ≠ q1) →
  ∀ q3, (∀ x ∈ (P ++ [((q1, .inr (1, [.null, .long 0])) : Nat × va_E)]), x.1 ≠ q3) →
  ∃ v5, kx_hp (P ++ [((q1, .inr (1, [.null, .long 0])) : Nat × va_E), ((q3, .inr (0, [.int 0, .int 0, .int 0])) : Nat × va_E)]) x0 = some v5 ∧
  ∃ v6, kx_bx (P ++ [((q1, .inr (1, [.null, .long 0])) : Nat × va_E), ((q3, .inr (0, [.int 0, .int 0, .int 0])) : Nat × va_E)]) (v5.1) = some v6 ∧
  ∃ v7, kx_hp (P ++ [((q1, .inr (1, [.null, .long 0])) : Nat × va_E), ((q3, .inr (0, [.int 0, .int 0, .int 0])) : Nat × va_E)]) x0 = some v7 ∧
  ∃ v8, kx_bx (P ++ [((q1, .inr (1, [.null, .long 0])) : Nat × va_E), ((q3, .inr (0, [.int 0, .int 0, .int 0])) : Nat × va_E)]) (v7.1) = some v8 ∧
  ∃ v9, kx_hp (P ++ [((q1, .inr (1, [.null, .long 0])) : Nat × va_E), ((q3, .inr (0, [.int 0, .int 0, .int 0])) : Nat × va_E)]) x0 = some v9 ∧
  ∃ v10, kx_bx (P ++ [((q1, .inr (1, [.null, .long 0])) : Nat × va_E), ((q3, .inr (0, [.int 0, .int 0, .int 0])) : Nat × va_E)]) (v9.1) = some v10 ∧
  ∃ v11, kx_hp (P ++ [((q1, .inr (1, [.null, .long 0])) : Nat × va_E), ((q3, .inr (0, [.int (v6.2.1), .int (v8.1), .int (v10.2.2)])) : Nat × va_E)]) x0 = some v11 ∧
  ∃ v12, kx_hp (P ++ [((q1, .inr (1, [.null, .long 0])) : Nat × va_E), ((q3, .inr (0, [.int (v6.2.1), .int (v8.1), .int (v10.2.2)])) : Nat × va_E)]) x0 = some v12 ∧
  ∃ u13, kx_bx (P ++ [((q1, .inr (1, [.null, .long 0])) : Nat × va_E), ((q3, .inr (0, [.int (v6.2.1), .int (v8.1), .int (v10.2.2)])) : Nat × va_E)]) (v11.1) = some u13 ∧
  ∃ o16, fx_transposed u13.1 u13.2.1 u13.2.2 (v12.2) = some o16 ∧
  K (some q1) z (P ++ [((q1, .inr (1, [.ref q3, .long o16])) : Nat × va_E), ((q3, .inr (0, [.int (v6.2.1), .int (v8.1), .int (v10.2.2)])) : Nat × va_E)])) ∧ (¬ x1 = 0 →
  (x1 = 1 →
  ∀ q26, (∀ x ∈ P, x.1 ≠ q26) →
  ∀ q28, (∀ x ∈ (P ++ [((q26, .inr (1, [.null, .long 0])) : Nat × va_E)]), x.1 ≠ q28) →
  ∃ v30, kx_hp (P ++ [((q26, .inr (1, [.null, .long 0])) : Nat × va_E), ((q28, .inr (0, [.int 0, .int 0, .int 0])) : Nat × va_E)]) x0 = some v30 ∧
  ∃ v31, kx_bx (P ++ [((q26, .inr (1, [.null, .long 0])) : Nat × va_E), ((q28, .inr (0, [.int 0, .int 0, .int 0])) : Nat × va_E)]) (v30.1) = some v31 ∧
  ∃ v32, kx_hp (P ++ [((q26, .inr (1, [.null, .long 0])) : Nat × va_E), ((q28, .inr (0, [.int 0, .int 0, .int 0])) : Nat × va_E)]) x0 = some v32 ∧
  ∃ v33, kx_bx (P ++ [((q26, .inr (1, [.null, .long 0])) : Nat × va_E), ((q28, .inr (0, [.int 0, .int 0, .int 0])) : Nat × va_E)]) (v32.1) = some v33 ∧
  ∃ v34, kx_hp (P ++ [((q26, .inr (1, [.null, .long 0])) : Nat × va_E), ((q28, .inr (0, [.int 0, .int 0, .int 0])) : Nat × va_E)]) x0 = some v34 ∧
  ∃ v35, kx_bx (P ++ [((q26, .inr (1, [.null, .long 0])) : Nat × va_E), ((q28, .inr (0, [.int 0, .int 0, .int 0])) : Nat × va_E)]) (v34.1) = some v35 ∧
  ∃ v36, kx_hp (P ++ [((q26, .inr (1, [.null, .long 0])) : Nat × va_E), ((q28, .inr (0, [.int (v31.2.1), .int (v33.2.2), .int (v35.1)])) : Nat × va_E)]) x0 = some v36 ∧
  ∃ v37, kx_hp (P ++ [((q26, .inr (1, [.null, .long 0])) : Nat × va_E), ((q28, .inr (0, [.int (v31.2.1), .int (v33.2.2), .int (v35.1)])) : Nat × va_E)]) x0 = some v37 ∧
  ∃ u38, kx_bx (P ++ [((q26, .inr (1, [.null, .long 0])) : Nat × va_E), ((q28, .inr (0, [.int (v31.2.1), .int (v33.2.2), .int (v35.1)])) : Nat × va_E)]) (v36.1) = some u38 ∧
  ∃ o41, fx_rotated u38.1 u38.2.1 u38.2.2 (v37.2) = some o41 ∧
  K (some q26) z (P ++ [((q26, .inr (1, [.ref q28, .long o41])) : Nat × va_E), ((q28, .inr (0, [.int (v31.2.1), .int (v33.2.2), .int (v35.1)])) : Nat × va_E)])) ∧ (¬ x1 = 1 →
  ∀ q51, (∀ x ∈ P, x.1 ≠ q51) →
  ∃ v53, kx_hp (P ++ [((q51, .inr (1, [.null, .long 0])) : Nat × va_E)]) x0 = some v53 ∧
  ∃ v54, kx_hp (P ++ [((q51, .inr (1, [.null, .long 0])) : Nat × va_E)]) x0 = some v54 ∧
  ∃ v55, kx_hp (P ++ [((q51, .inr (1, [.null, .long 0])) : Nat × va_E)]) x0 = some v55 ∧
  ∃ u56, kx_bx (P ++ [((q51, .inr (1, [.null, .long 0])) : Nat × va_E)]) (v54.1) = some u56 ∧
  ∃ o59, fx_complemented u56.1 u56.2.1 u56.2.2 (v55.2) = some o59 ∧
  K (some q51) z (P ++ [((q51, .inr (1, [.ref (v53.1), .long o59])) : Nat × va_E)])))
set_option maxRecDepth 20000 in
set_option maxHeartbeats 1000000 in
theorem eh_turned {p : Program} {l : Launch} {e : Env} {s : State} {m : MethodId} {args : Array Value} {below : List Frame} {meth : Method} {c : Code} {A : Nat → Prop} {D : va_G} {cA : Nat → ClassId} {h0 : Nat} {q : Nat → Nat} {P : va_W} {z : kx_S} {x0 : Nat} {x1 : Int32} {K : Option Nat → kx_S → va_W → Prop} (F : kj_Fx p s m args meth c cX1_turned 2 wsX1_turned RX1 (some (.object "CornerHeaps$Heap")) D (kx_T cA) A) (hN : kn_N s) (h : vh_turned cA x0 x1 z P K) : kj_J p l e rm_X1_turned s m args below meth c 0 0 (MQ below (kn_Qq D (kx_T cA) A (kx_V cA h0 q) (fun r u => K r u.1 u.2)) args s 2 5 A) 2 D A (kx_W cA h0 q P z) 0 [(0, .ref x0), (1, .int x1)] [] := by
  unfold vh_turned at h
  refine kj_iload_n F dX1_turned_0 1 rfl rfl ?_
  refine Classical.byCases (p := x1 = 0) (fun hc => ?_) (fun hn1_0 => ?_)
  · replace h := h.1 hc
    refine kj_lookup F dX1_turned_1 (off := 27) (tgt := 28) (by decide) (by rw [hc]; decide) (by decide) ?_
    refine kn_new (fs := [.null, .long 0]) F dX1_turned_28 in_X1_turned_X1 tyX1 tyX1_ok (by decide +kernel) (by decide +kernel) (by decide +kernel) (ci := 1) rfl (fun j hj => by rcases (show j = 0 ∨ j = 1 by omega) with rfl | rfl <;> rfl) (Nat.le_of_ble_eq_true rfl) (Nat.le_of_ble_eq_true rfl) (fun q1 hq2 => ?_)
    replace h := h q1 (fun x hx => hq2 x (kx_inP hx))
    refine kj_cast (ww' := (kx_W cA h0 q (P ++ [((q1, .inr (1, [.null, .long 0])) : Nat × va_E)]) z)) (by simp [kx_W]) ?_
    refine kj_dup F dX1_turned_31 rfl ?_
    refine kn_new (fs := [.int 0, .int 0, .int 0]) F dX1_turned_32 in_X1_turned_X0 tyX0 tyX0_ok (by decide +kernel) (by decide +kernel) (by decide +kernel) (ci := 0) rfl (fun j hj => by rcases (show j = 0 ∨ j = 1 ∨ j = 2 by omega) with rfl | rfl | rfl <;> rfl) (Nat.le_of_ble_eq_true rfl) (Nat.le_of_ble_eq_true rfl) (fun q3 hq4 => ?_)
    replace h := h q3 (fun x hx => hq4 x (kx_inP hx))
    refine kj_cast (ww' := (kx_W cA h0 q (P ++ [((q1, .inr (1, [.null, .long 0])) : Nat × va_E), ((q3, .inr (0, [.int 0, .int 0, .int 0])) : Nat × va_E)]) z)) (by simp [kx_W]) ?_
    refine kj_dup F dX1_turned_35 rfl ?_
    refine kj_aload_n F dX1_turned_36 0 rfl rfl ?_
    obtain ⟨v5, h25, h⟩ := h
    refine kx_gbox F dX1_turned_37 in_X1_turned_X1 (by decide +kernel) (kw_h h25) (kw_e ?_)
    obtain ⟨v6, h24, h⟩ := h
    refine kx_gbb F dX1_turned_40 in_X1_turned_X0 (by decide +kernel) (kw_h h24) (kw_e ?_)
    refine kj_aload_n F dX1_turned_43 0 rfl rfl ?_
    obtain ⟨v7, h23, h⟩ := h
    refine kx_gbox F dX1_turned_44 in_X1_turned_X1 (by decide +kernel) (kw_h h23) (kw_e ?_)
    obtain ⟨v8, h22, h⟩ := h
    refine kx_gba F dX1_turned_47 in_X1_turned_X0 (by decide +kernel) (kw_h h22) (kw_e ?_)
    refine kj_aload_n F dX1_turned_50 0 rfl rfl ?_
    obtain ⟨v9, h21, h⟩ := h
    refine kx_gbox F dX1_turned_51 in_X1_turned_X1 (by decide +kernel) (kw_h h21) (kw_e ?_)
    obtain ⟨v10, h20, h⟩ := h
    refine kx_gbc F dX1_turned_54 in_X1_turned_X0 (by decide +kernel) (kw_h h20) (kw_e ?_)
    refine kj_cast (ww' := (fun (v : Int32 × Int32 × Int32) => kx_W cA h0 q (P ++ (([((q1, .inr (1, [.null, .long 0])) : Nat × va_E)] : va_W) ++ (fun (v : Int32 × Int32 × Int32) => ((q3, .inr (0, [.int v.1, .int v.2.1, .int v.2.2])) : Nat × va_E)) v :: [])) z) (0, 0, 0)) rfl ?_
    refine kj_cINv (w := (fun (v : Int32 × Int32 × Int32) => kx_W cA h0 q (P ++ (([((q1, .inr (1, [.null, .long 0])) : Nat × va_E)] : va_W) ++ (fun (v : Int32 × Int32 × Int32) => ((q3, .inr (0, [.int v.1, .int v.2.1, .int v.2.2])) : Nat × va_E)) v :: [])) z)) (z := (0, 0, 0)) (o := ((v6.2.1), (v8.1), (v10.2.2))) (As := [.int (v6.2.1), .int (v8.1), .int (v10.2.2)]) (rest := [.ref q3, .ref q1, .ref q1]) F dX1_turned_57 (cx_init (kx_lensP cA h0 q z P [((q1, .inr (1, [.null, .long 0])) : Nat × va_E)] [] (fun (v : Int32 × Int32 × Int32) => ((q3, .inr (0, [.int v.1, .int v.2.1, .int v.2.2])) : Nat × va_E))).1 (kx_lensP cA h0 q z P [((q1, .inr (1, [.null, .long 0])) : Nat × va_E)] [] (fun (v : Int32 × Int32 × Int32) => ((q3, .inr (0, [.int v.1, .int v.2.1, .int v.2.2])) : Nat × va_E))).2) ⟨va_cnB 3 F.2.2.2.2.1 gX1_turned_X0_init_n33 rfl rfl rfl hN.2.2.2.2.2.2.2.2.1 (F.2.2.2.2.1 _ (by decide +kernel)) (by decide +kernel) ⟨Nat.le_of_ble_eq_true rfl, Nat.le_of_ble_eq_true rfl⟩, rfl, F.2.2.2.2.1 _ (by decide +kernel)⟩ rfl rfl (Nat.le_of_ble_eq_true rfl) ⟨(by exact Nat.le_of_ble_eq_true rfl), (by exact Nat.le_of_ble_eq_true rfl)⟩ ?_
    refine kj_cast (ww' := (kx_W cA h0 q (P ++ [((q1, .inr (1, [.null, .long 0])) : Nat × va_E), ((q3, .inr (0, [.int (v6.2.1), .int (v8.1), .int (v10.2.2)])) : Nat × va_E)]) z)) rfl ?_
    refine kj_aload_n F dX1_turned_60 0 rfl rfl ?_
    obtain ⟨v11, h19, h⟩ := h
    refine kx_gbox F dX1_turned_61 in_X1_turned_X1 (by decide +kernel) (kw_h h19) (kw_e ?_)
    refine kj_aload_n F dX1_turned_64 0 rfl rfl ?_
    obtain ⟨v12, h18, h⟩ := h
    refine kx_gcubes F dX1_turned_65 in_X1_turned_X1 (by decide +kernel) (kw_h h18) (kw_e ?_)
    obtain ⟨u13, hu14, h⟩ := h
    obtain ⟨iu15, hu14⟩ := kx_bx_at hu14
    obtain ⟨o16, h17, h⟩ := h
    refine kj_cVlp (w := (kx_W cA h0 q (P ++ [((q1, .inr (1, [.null, .long 0])) : Nat × va_E), ((q3, .inr (0, [.int (v6.2.1), .int (v8.1), .int (v10.2.2)])) : Nat × va_E)]))) (As := [.long (v12.2)]) (rest := [.ref q3, .ref q1, .ref q1]) F dX1_turned_68 (kw_h h17) (fun o h1 => cx_transposed (w := (kx_W cA h0 q (P ++ [((q1, .inr (1, [.null, .long 0])) : Nat × va_E), ((q3, .inr (0, [.int (v6.2.1), .int (v8.1), .int (v10.2.2)])) : Nat × va_E)]))) (kx_pool hu14) h1) (cwV 1 F.2.2.2.2.1 gX1_turned_X0_transposed rfl rfl rfl (by decide +kernel) ⟨Nat.le_of_ble_eq_true rfl, Nat.le_of_ble_eq_true rfl⟩) _ (kx_pool hu14) rfl rfl rfl rfl (Nat.le_of_ble_eq_true rfl) ⟨(by exact Nat.le_of_ble_eq_true rfl), (by exact Nat.le_of_ble_eq_true rfl)⟩ (kw_e ?_)
    refine kj_cast (ww' := (fun (v : Value × Int64) => kx_W cA h0 q (P ++ (([] : va_W) ++ (fun (v : Value × Int64) => ((q1, .inr (1, [v.1, .long v.2])) : Nat × va_E)) v :: [((q3, .inr (0, [.int (v6.2.1), .int (v8.1), .int (v10.2.2)])) : Nat × va_E)])) z) (.null, 0)) rfl ?_
    refine kj_cIv (w := (fun (v : Value × Int64) => kx_W cA h0 q (P ++ (([] : va_W) ++ (fun (v : Value × Int64) => ((q1, .inr (1, [v.1, .long v.2])) : Nat × va_E)) v :: [((q3, .inr (0, [.int (v6.2.1), .int (v8.1), .int (v10.2.2)])) : Nat × va_E)])) z)) (z := (.null, 0)) (o := (.ref q3, o16)) (As := [.ref q3, .long o16]) (rest := [.ref q1]) F dX1_turned_71 (ch_init (kx_lensP cA h0 q z P [] [((q3, .inr (0, [.int (v6.2.1), .int (v8.1), .int (v10.2.2)])) : Nat × va_E)] (fun (v : Value × Int64) => ((q1, .inr (1, [v.1, .long v.2])) : Nat × va_E))).1 (kx_lensP cA h0 q z P [] [((q3, .inr (0, [.int (v6.2.1), .int (v8.1), .int (v10.2.2)])) : Nat × va_E)] (fun (v : Value × Int64) => ((q1, .inr (1, [v.1, .long v.2])) : Nat × va_E))).2) (cwI 2 F.2.2.2.2.1 gX1_turned_X1_init rfl rfl rfl (F.2.2.2.2.1 _ (by decide +kernel)) (F.2.2.2.2.1 _ (by decide +kernel)) (F.2.2.2.2.1 _ (by decide +kernel)) rfl (by decide +kernel) ⟨Nat.le_of_ble_eq_true rfl, Nat.le_of_ble_eq_true rfl⟩) rfl rfl (Nat.le_of_ble_eq_true rfl) ⟨(by exact Nat.le_of_ble_eq_true rfl), (by exact Nat.le_of_ble_eq_true rfl)⟩ ?_
    refine kj_cast (ww' := (kx_W cA h0 q (P ++ [((q1, .inr (1, [.ref q3, .long o16])) : Nat × va_E), ((q3, .inr (0, [.int (v6.2.1), .int (v8.1), .int (v10.2.2)])) : Nat × va_E)]) z)) rfl ?_
    exact kn_aret (v := (some q1)) (z := ((z, (P ++ [((q1, .inr (1, [.ref q3, .long o16])) : Nat × va_E), ((q3, .inr (0, [.int (v6.2.1), .int (v8.1), .int (v10.2.2)])) : Nat × va_E)])) : kx_S × va_W)) F dX1_turned_74 (Nat.le_of_ble_eq_true rfl) (Nat.le_of_ble_eq_true rfl) h
  replace h := h.2 hn1_0
  refine Classical.byCases (p := x1 = 1) (fun hc => ?_) (fun hn1_1 => ?_)
  · replace h := h.1 hc
    refine kj_lookup F dX1_turned_1 (off := 74) (tgt := 75) (by decide) (by rw [hc]; decide) (by decide) ?_
    refine kn_new (fs := [.null, .long 0]) F dX1_turned_75 in_X1_turned_X1 tyX1 tyX1_ok (by decide +kernel) (by decide +kernel) (by decide +kernel) (ci := 1) rfl (fun j hj => by rcases (show j = 0 ∨ j = 1 by omega) with rfl | rfl <;> rfl) (Nat.le_of_ble_eq_true rfl) (Nat.le_of_ble_eq_true rfl) (fun q26 hq27 => ?_)
    replace h := h q26 (fun x hx => hq27 x (kx_inP hx))
    refine kj_cast (ww' := (kx_W cA h0 q (P ++ [((q26, .inr (1, [.null, .long 0])) : Nat × va_E)]) z)) (by simp [kx_W]) ?_
    refine kj_dup F dX1_turned_78 rfl ?_
    refine kn_new (fs := [.int 0, .int 0, .int 0]) F dX1_turned_79 in_X1_turned_X0 tyX0 tyX0_ok (by decide +kernel) (by decide +kernel) (by decide +kernel) (ci := 0) rfl (fun j hj => by rcases (show j = 0 ∨ j = 1 ∨ j = 2 by omega) with rfl | rfl | rfl <;> rfl) (Nat.le_of_ble_eq_true rfl) (Nat.le_of_ble_eq_true rfl) (fun q28 hq29 => ?_)
    replace h := h q28 (fun x hx => hq29 x (kx_inP hx))
    refine kj_cast (ww' := (kx_W cA h0 q (P ++ [((q26, .inr (1, [.null, .long 0])) : Nat × va_E), ((q28, .inr (0, [.int 0, .int 0, .int 0])) : Nat × va_E)]) z)) (by simp [kx_W]) ?_
    refine kj_dup F dX1_turned_82 rfl ?_
    refine kj_aload_n F dX1_turned_83 0 rfl rfl ?_
    obtain ⟨v30, h50, h⟩ := h
    refine kx_gbox F dX1_turned_84 in_X1_turned_X1 (by decide +kernel) (kw_h h50) (kw_e ?_)
    obtain ⟨v31, h49, h⟩ := h
    refine kx_gbb F dX1_turned_87 in_X1_turned_X0 (by decide +kernel) (kw_h h49) (kw_e ?_)
    refine kj_aload_n F dX1_turned_90 0 rfl rfl ?_
    obtain ⟨v32, h48, h⟩ := h
    refine kx_gbox F dX1_turned_91 in_X1_turned_X1 (by decide +kernel) (kw_h h48) (kw_e ?_)
    obtain ⟨v33, h47, h⟩ := h
    refine kx_gbc F dX1_turned_94 in_X1_turned_X0 (by decide +kernel) (kw_h h47) (kw_e ?_)
    refine kj_aload_n F dX1_turned_97 0 rfl rfl ?_
    obtain ⟨v34, h46, h⟩ := h
    refine kx_gbox F dX1_turned_98 in_X1_turned_X1 (by decide +kernel) (kw_h h46) (kw_e ?_)
    obtain ⟨v35, h45, h⟩ := h
    refine kx_gba F dX1_turned_101 in_X1_turned_X0 (by decide +kernel) (kw_h h45) (kw_e ?_)
    refine kj_cast (ww' := (fun (v : Int32 × Int32 × Int32) => kx_W cA h0 q (P ++ (([((q26, .inr (1, [.null, .long 0])) : Nat × va_E)] : va_W) ++ (fun (v : Int32 × Int32 × Int32) => ((q28, .inr (0, [.int v.1, .int v.2.1, .int v.2.2])) : Nat × va_E)) v :: [])) z) (0, 0, 0)) rfl ?_
    refine kj_cINv (w := (fun (v : Int32 × Int32 × Int32) => kx_W cA h0 q (P ++ (([((q26, .inr (1, [.null, .long 0])) : Nat × va_E)] : va_W) ++ (fun (v : Int32 × Int32 × Int32) => ((q28, .inr (0, [.int v.1, .int v.2.1, .int v.2.2])) : Nat × va_E)) v :: [])) z)) (z := (0, 0, 0)) (o := ((v31.2.1), (v33.2.2), (v35.1))) (As := [.int (v31.2.1), .int (v33.2.2), .int (v35.1)]) (rest := [.ref q28, .ref q26, .ref q26]) F dX1_turned_104 (cx_init (kx_lensP cA h0 q z P [((q26, .inr (1, [.null, .long 0])) : Nat × va_E)] [] (fun (v : Int32 × Int32 × Int32) => ((q28, .inr (0, [.int v.1, .int v.2.1, .int v.2.2])) : Nat × va_E))).1 (kx_lensP cA h0 q z P [((q26, .inr (1, [.null, .long 0])) : Nat × va_E)] [] (fun (v : Int32 × Int32 × Int32) => ((q28, .inr (0, [.int v.1, .int v.2.1, .int v.2.2])) : Nat × va_E))).2) ⟨va_cnB 3 F.2.2.2.2.1 gX1_turned_X0_init_n33 rfl rfl rfl hN.2.2.2.2.2.2.2.2.1 (F.2.2.2.2.1 _ (by decide +kernel)) (by decide +kernel) ⟨Nat.le_of_ble_eq_true rfl, Nat.le_of_ble_eq_true rfl⟩, rfl, F.2.2.2.2.1 _ (by decide +kernel)⟩ rfl rfl (Nat.le_of_ble_eq_true rfl) ⟨(by exact Nat.le_of_ble_eq_true rfl), (by exact Nat.le_of_ble_eq_true rfl)⟩ ?_
    refine kj_cast (ww' := (kx_W cA h0 q (P ++ [((q26, .inr (1, [.null, .long 0])) : Nat × va_E), ((q28, .inr (0, [.int (v31.2.1), .int (v33.2.2), .int (v35.1)])) : Nat × va_E)]) z)) rfl ?_
    refine kj_aload_n F dX1_turned_107 0 rfl rfl ?_
    obtain ⟨v36, h44, h⟩ := h
    refine kx_gbox F dX1_turned_108 in_X1_turned_X1 (by decide +kernel) (kw_h h44) (kw_e ?_)
    refine kj_aload_n F dX1_turned_111 0 rfl rfl ?_
    obtain ⟨v37, h43, h⟩ := h
    refine kx_gcubes F dX1_turned_112 in_X1_turned_X1 (by decide +kernel) (kw_h h43) (kw_e ?_)
    obtain ⟨u38, hu39, h⟩ := h
    obtain ⟨iu40, hu39⟩ := kx_bx_at hu39
    obtain ⟨o41, h42, h⟩ := h
    refine kj_cVlp (w := (kx_W cA h0 q (P ++ [((q26, .inr (1, [.null, .long 0])) : Nat × va_E), ((q28, .inr (0, [.int (v31.2.1), .int (v33.2.2), .int (v35.1)])) : Nat × va_E)]))) (As := [.long (v37.2)]) (rest := [.ref q28, .ref q26, .ref q26]) F dX1_turned_115 (kw_h h42) (fun o h1 => cx_rotated (w := (kx_W cA h0 q (P ++ [((q26, .inr (1, [.null, .long 0])) : Nat × va_E), ((q28, .inr (0, [.int (v31.2.1), .int (v33.2.2), .int (v35.1)])) : Nat × va_E)]))) (kx_pool hu39) h1) (cwV 1 F.2.2.2.2.1 gX1_turned_X0_rotated rfl rfl rfl (by decide +kernel) ⟨Nat.le_of_ble_eq_true rfl, Nat.le_of_ble_eq_true rfl⟩) _ (kx_pool hu39) rfl rfl rfl rfl (Nat.le_of_ble_eq_true rfl) ⟨(by exact Nat.le_of_ble_eq_true rfl), (by exact Nat.le_of_ble_eq_true rfl)⟩ (kw_e ?_)
    refine kj_cast (ww' := (fun (v : Value × Int64) => kx_W cA h0 q (P ++ (([] : va_W) ++ (fun (v : Value × Int64) => ((q26, .inr (1, [v.1, .long v.2])) : Nat × va_E)) v :: [((q28, .inr (0, [.int (v31.2.1), .int (v33.2.2), .int (v35.1)])) : Nat × va_E)])) z) (.null, 0)) rfl ?_
    refine kj_cIv (w := (fun (v : Value × Int64) => kx_W cA h0 q (P ++ (([] : va_W) ++ (fun (v : Value × Int64) => ((q26, .inr (1, [v.1, .long v.2])) : Nat × va_E)) v :: [((q28, .inr (0, [.int (v31.2.1), .int (v33.2.2), .int (v35.1)])) : Nat × va_E)])) z)) (z := (.null, 0)) (o := (.ref q28, o41)) (As := [.ref q28, .long o41]) (rest := [.ref q26]) F dX1_turned_118 (ch_init (kx_lensP cA h0 q z P [] [((q28, .inr (0, [.int (v31.2.1), .int (v33.2.2), .int (v35.1)])) : Nat × va_E)] (fun (v : Value × Int64) => ((q26, .inr (1, [v.1, .long v.2])) : Nat × va_E))).1 (kx_lensP cA h0 q z P [] [((q28, .inr (0, [.int (v31.2.1), .int (v33.2.2), .int (v35.1)])) : Nat × va_E)] (fun (v : Value × Int64) => ((q26, .inr (1, [v.1, .long v.2])) : Nat × va_E))).2) (cwI 2 F.2.2.2.2.1 gX1_turned_X1_init rfl rfl rfl (F.2.2.2.2.1 _ (by decide +kernel)) (F.2.2.2.2.1 _ (by decide +kernel)) (F.2.2.2.2.1 _ (by decide +kernel)) rfl (by decide +kernel) ⟨Nat.le_of_ble_eq_true rfl, Nat.le_of_ble_eq_true rfl⟩) rfl rfl (Nat.le_of_ble_eq_true rfl) ⟨(by exact Nat.le_of_ble_eq_true rfl), (by exact Nat.le_of_ble_eq_true rfl)⟩ ?_
    refine kj_cast (ww' := (kx_W cA h0 q (P ++ [((q26, .inr (1, [.ref q28, .long o41])) : Nat × va_E), ((q28, .inr (0, [.int (v31.2.1), .int (v33.2.2), .int (v35.1)])) : Nat × va_E)]) z)) rfl ?_
    exact kn_aret (v := (some q26)) (z := ((z, (P ++ [((q26, .inr (1, [.ref q28, .long o41])) : Nat × va_E), ((q28, .inr (0, [.int (v31.2.1), .int (v33.2.2), .int (v35.1)])) : Nat × va_E)])) : kx_S × va_W)) F dX1_turned_121 (Nat.le_of_ble_eq_true rfl) (Nat.le_of_ble_eq_true rfl) h
  replace h := h.2 hn1_1
  refine kj_lookup F dX1_turned_1 (off := 121) (tgt := 122) (by decide) (by have e0 : Int32.toInt x1 ≠ 0 := fun q => hn1_0 (Int32.toInt_inj.mp (q.trans (by decide))); have e1 : Int32.toInt x1 ≠ 1 := fun q => hn1_1 (Int32.toInt_inj.mp (q.trans (by decide))); simp [Op.lookupswitch.offset, e0, e1, Ne.symm e0, Ne.symm e1]) (by decide) ?_
  refine kn_new (fs := [.null, .long 0]) F dX1_turned_122 in_X1_turned_X1 tyX1 tyX1_ok (by decide +kernel) (by decide +kernel) (by decide +kernel) (ci := 1) rfl (fun j hj => by rcases (show j = 0 ∨ j = 1 by omega) with rfl | rfl <;> rfl) (Nat.le_of_ble_eq_true rfl) (Nat.le_of_ble_eq_true rfl) (fun q51 hq52 => ?_)
  replace h := h q51 (fun x hx => hq52 x (kx_inP hx))
  refine kj_cast (ww' := (kx_W cA h0 q (P ++ [((q51, .inr (1, [.null, .long 0])) : Nat × va_E)]) z)) (by simp [kx_W]) ?_
  refine kj_dup F dX1_turned_125 rfl ?_
  refine kj_aload_n F dX1_turned_126 0 rfl rfl ?_
  obtain ⟨v53, h63, h⟩ := h
  refine kx_gbox F dX1_turned_127 in_X1_turned_X1 (by decide +kernel) (kw_h h63) (kw_e ?_)
  refine kj_aload_n F dX1_turned_130 0 rfl rfl ?_
  obtain ⟨v54, h62, h⟩ := h
  refine kx_gbox F dX1_turned_131 in_X1_turned_X1 (by decide +kernel) (kw_h h62) (kw_e ?_)
  refine kj_aload_n F dX1_turned_134 0 rfl rfl ?_
  obtain ⟨v55, h61, h⟩ := h
  refine kx_gcubes F dX1_turned_135 in_X1_turned_X1 (by decide +kernel) (kw_h h61) (kw_e ?_)
  obtain ⟨u56, hu57, h⟩ := h
  obtain ⟨iu58, hu57⟩ := kx_bx_at hu57
  obtain ⟨o59, h60, h⟩ := h
  refine kj_cVlp (w := (kx_W cA h0 q (P ++ [((q51, .inr (1, [.null, .long 0])) : Nat × va_E)]))) (As := [.long (v55.2)]) (rest := [.ref (v53.1), .ref q51, .ref q51]) F dX1_turned_138 (kw_h h60) (fun o h1 => cx_complemented (w := (kx_W cA h0 q (P ++ [((q51, .inr (1, [.null, .long 0])) : Nat × va_E)]))) (kx_pool hu57) h1) (cwV 1 F.2.2.2.2.1 gX1_turned_X0_complemented rfl rfl rfl (by decide +kernel) ⟨Nat.le_of_ble_eq_true rfl, Nat.le_of_ble_eq_true rfl⟩) _ (kx_pool hu57) rfl rfl rfl rfl (Nat.le_of_ble_eq_true rfl) ⟨(by exact Nat.le_of_ble_eq_true rfl), (by exact Nat.le_of_ble_eq_true rfl)⟩ (kw_e ?_)
  refine kj_cast (ww' := (fun (v : Value × Int64) => kx_W cA h0 q (P ++ (([] : va_W) ++ (fun (v : Value × Int64) => ((q51, .inr (1, [v.1, .long v.2])) : Nat × va_E)) v :: [])) z) (.null, 0)) rfl ?_
  refine kj_cIv (w := (fun (v : Value × Int64) => kx_W cA h0 q (P ++ (([] : va_W) ++ (fun (v : Value × Int64) => ((q51, .inr (1, [v.1, .long v.2])) : Nat × va_E)) v :: [])) z)) (z := (.null, 0)) (o := (.ref (v53.1), o59)) (As := [.ref (v53.1), .long o59]) (rest := [.ref q51]) F dX1_turned_141 (ch_init (kx_lensP cA h0 q z P [] [] (fun (v : Value × Int64) => ((q51, .inr (1, [v.1, .long v.2])) : Nat × va_E))).1 (kx_lensP cA h0 q z P [] [] (fun (v : Value × Int64) => ((q51, .inr (1, [v.1, .long v.2])) : Nat × va_E))).2) (cwI 2 F.2.2.2.2.1 gX1_turned_X1_init rfl rfl rfl (F.2.2.2.2.1 _ (by decide +kernel)) (F.2.2.2.2.1 _ (by decide +kernel)) (F.2.2.2.2.1 _ (by decide +kernel)) rfl (by decide +kernel) ⟨Nat.le_of_ble_eq_true rfl, Nat.le_of_ble_eq_true rfl⟩) rfl rfl (Nat.le_of_ble_eq_true rfl) ⟨(by exact Nat.le_of_ble_eq_true rfl), (by exact Nat.le_of_ble_eq_true rfl)⟩ ?_
  refine kj_cast (ww' := (kx_W cA h0 q (P ++ [((q51, .inr (1, [.ref (v53.1), .long o59])) : Nat × va_E)]) z)) rfl ?_
  exact kn_aret (v := (some q51)) (z := ((z, (P ++ [((q51, .inr (1, [.ref (v53.1), .long o59])) : Nat × va_E)])) : kx_S × va_W)) F dX1_turned_144 (Nat.le_of_ble_eq_true rfl) (Nat.le_of_ble_eq_true rfl) h
theorem dh_turned {l : Launch} {D : va_G} {cA : Nat → ClassId} {h0 : Nat} {q : Nat → Nat} {P : va_W} {z : kx_S} {x0 : Nat} {x1 : Int32} {K : Option Nat → kx_S → va_W → Prop} (h : vh_turned cA x0 x1 z P K) : kn_Mq l yX1_turned wsX1_turned rm_X1_turned D (kx_T cA) (kx_V cA h0 q) (kx_W cA h0 q P z) [.ref x0, .int x1] (fun r u => K r u.1 u.2) :=
  fun sz => kn_start (by decide) rfl (Nat.le_of_ble_eq_true rfl) rfl fun p e s m args below meth c hsz F hN _ => eh_turned F hN h
/-! X6_readHeap -/
abbrev rm_X6_readHeap : Room := { frames := 5, cells := 2, slots := 5, locals := 116 }
theorem in_X6_readHeap_X0 : ∀ w ∈ u_ws RX0 TX0 3, w ∈ wsX6_readHeap := by decide +kernel
theorem in_X6_readHeap_X1 : ∀ w ∈ u_ws RX1 TX1 2, w ∈ wsX6_readHeap := by decide +kernel
theorem in_X6_readHeap_X6 : ∀ w ∈ u_ws RX6 TX6 8, w ∈ wsX6_readHeap := by decide +kernel
def vt_readHeap (cA : Nat → ClassId) (z : kx_S) (P : va_W) (K : Option Nat → kx_S → va_W → Prop) : Prop :=
  ∃ z1, kx_pI z 5 (0 : Int32) = some z1 ∧
  ∃ z2, kx_pI z1 6 (0 : Int32) = some z2 ∧
  ∃ o3, fj_fill_53178 16 (-1 : Int32) (z2.2.1 1) = some o3 ∧
  ∃ o5, ft_readSign (120 : Int32) (z2.1, va_up z2.2.1 1 o3, z2.2.2) = some o5 ∧
  ((o5.1) = 0 →
  K none (o5.2) P) ∧ (¬ (o5.1) = 0 →
  ∃ o7, ft_readSides (o5.2) = some o7 ∧
  ((o7.1) = 0 →
  K none (o7.2) P) ∧ (¬ (o7.1) = 0 →
  ∃ o9, ft_readHeights (o7.2) = some o9 ∧
  ((o9.1) = 0 →
  K none (o9.2) P) ∧ (¬ (o9.1) = 0 →
  ∃ o11, ft_readSign (59 : Int32) (o9.2) = some o11 ∧
  ((o11.1) = 0 →
  K none (o11.2) P) ∧ (¬ (o11.1) = 0 →
  (((o11.2).1 4) ≤ ((o11.2).1 5) →
  ∀ q13, (∀ x ∈ P, x.1 ≠ q13) →
  ∀ q15, (∀ x ∈ (P ++ [((q13, .inr (1, [.null, .long 0])) : Nat × va_E)]), x.1 ≠ q15) →
  ∃ o17, ft_toldCubes (o11.2) = some o17 ∧
  K (some q13) (o17.2) (P ++ [((q13, .inr (1, [.ref q15, .long (o17.1)])) : Nat × va_E), ((q15, .inr (0, [.int ((o11.2).1 1), .int ((o11.2).1 2), .int ((o11.2).1 3)])) : Nat × va_E)])) ∧ (¬ ((o11.2).1 4) ≤ ((o11.2).1 5) →
  ∃ o19, ft_failed (1 : Int32) (o11.2) = some o19 ∧
  K none (o19.2) P)))))
set_option maxRecDepth 20000 in
set_option maxHeartbeats 1000000 in
theorem et_readHeap {p : Program} {l : Launch} {e : Env} {s : State} {m : MethodId} {args : Array Value} {below : List Frame} {meth : Method} {c : Code} {A : Nat → Prop} {D : va_G} {cA : Nat → ClassId} {h0 : Nat} {q : Nat → Nat} {P : va_W} {z : kx_S} {K : Option Nat → kx_S → va_W → Prop} (F : kj_Fx p s m args meth c cX6_readHeap 1 wsX6_readHeap RX6 (some (.object "CornerHeaps$Heap")) D (kx_T cA) A) (hN : kn_N s) (h : vt_readHeap cA z P K) : kj_J p l e rm_X6_readHeap s m args below meth c 0 0 (MQ below (kn_Qq D (kx_T cA) A (kx_V cA h0 q) (fun r u => K r u.1 u.2)) args s 2 5 A) 1 D A (kx_W cA h0 q P z) 0 [(0, .ref (q 0))] [] := by
  unfold vt_readHeap at h
  refine kj_aload_n F dX6_readHeap_0 0 rfl rfl ?_
  refine kj_iconst F dX6_readHeap_1 (v := 0) (by decide) ?_
  obtain ⟨z1, h22, h⟩ := h
  refine kx_pt F dX6_readHeap_2 in_X6_readHeap_X6 tyX6 tyX6_ok nmX6 1 rfl rfl 6 5 (by decide) (by decide +kernel) rfl rfl (by decide +kernel) (Nat.le_of_ble_eq_true rfl) (kx_put5 cA h0 q _ _ _) (kw_h h22) (kw_e ?_)
  refine kj_aload_n F dX6_readHeap_5 0 rfl rfl ?_
  refine kj_iconst F dX6_readHeap_6 (v := 0) (by decide) ?_
  obtain ⟨z2, h21, h⟩ := h
  refine kx_pt F dX6_readHeap_7 in_X6_readHeap_X6 tyX6 tyX6_ok nmX6 1 rfl rfl 7 6 (by decide) (by decide +kernel) rfl rfl (by decide +kernel) (Nat.le_of_ble_eq_true rfl) (kx_put6 cA h0 q _ _ _) (kw_h h21) (kw_e ?_)
  refine kj_aload_n F dX6_readHeap_10 0 rfl rfl ?_
  refine kj_get F dX6_readHeap_11 in_X6_readHeap_X6 1 rfl rfl 1 (by decide) (by decide +kernel) rfl rfl ?_
  refine kj_iconst F dX6_readHeap_14 (v := (-1)) (by decide) ?_
  obtain ⟨o3, h4, h⟩ := h
  refine kj_cast (kx_lensA (cA := cA) (h0 := h0) (q := q) (P := P) z2).1 ?_
  refine kj_cSv (w := (fun f => kx_W cA h0 q P (z2.1, va_up z2.2.1 1 f, z2.2.2))) (As := [.ref (q (1 + 4)), .int (-1 : Int32)]) (rest := []) F dX6_readHeap_15 (kw_h h4) (fun o h1 => cj_fill_53178 (t0 := 0) (kx_lensA (cA := cA) (h0 := h0) (q := q) (P := P) z2).2.1 (kx_lensA (cA := cA) (h0 := h0) (q := q) (P := P) z2).2.2 rfl h1) (va_cwS 2 F.2.2.2.2.1 gX6_readHeap_J7_fill_53178 rfl rfl rfl (by decide +kernel) ⟨Nat.le_of_ble_eq_true rfl, Nat.le_of_ble_eq_true rfl⟩) rfl rfl (Nat.le_of_ble_eq_true rfl) ⟨(by exact Nat.le_of_ble_eq_true rfl), (by exact Nat.le_of_ble_eq_true rfl)⟩ (kw_e ?_)
  refine kj_aload_n F dX6_readHeap_18 0 rfl rfl ?_
  refine kj_bipush F dX6_readHeap_19 (v := 120) (by decide) ?_
  obtain ⟨o5, h6, h⟩ := h
  refine kj_cVi (w := (kx_W cA h0 q P)) (As := [.int (120 : Int32)]) (rest := []) F dX6_readHeap_21 (kw_h h6) (fun o h1 => ct_readSign h1) (cwV 1 F.2.2.2.2.1 gX6_readHeap_X6_readSign rfl rfl rfl (by decide +kernel) ⟨Nat.le_of_ble_eq_true rfl, Nat.le_of_ble_eq_true rfl⟩) 1 rfl rfl rfl rfl rfl (Nat.le_of_ble_eq_true rfl) ⟨(by exact Nat.le_of_ble_eq_true rfl), (by exact Nat.le_of_ble_eq_true rfl)⟩ (kw_e ?_)
  refine kw_if_eq F dX6_readHeap_24 (tgt := 50) (by decide) (fun hc => ?_) (fun hc => ?_)
  · replace h := h.1 hc
    refine kj_null F dX6_readHeap_50 ?_
    exact kn_aret (v := none) (z := (((o5.2), P) : kx_S × va_W)) F dX6_readHeap_51 (Nat.le_of_ble_eq_true rfl) (Nat.le_of_ble_eq_true rfl) h
  · replace h := h.2 hc
    refine kj_aload_n F dX6_readHeap_27 0 rfl rfl ?_
    obtain ⟨o7, h8, h⟩ := h
    refine kj_cVi (w := (kx_W cA h0 q P)) (As := []) (rest := []) F dX6_readHeap_28 (kw_h h8) (fun o h1 => ct_readSides h1) (cwV 0 F.2.2.2.2.1 gX6_readHeap_X6_readSides rfl rfl rfl (by decide +kernel) ⟨Nat.le_of_ble_eq_true rfl, Nat.le_of_ble_eq_true rfl⟩) 1 rfl rfl rfl rfl rfl (Nat.le_of_ble_eq_true rfl) ⟨(by exact Nat.le_of_ble_eq_true rfl), (by exact Nat.le_of_ble_eq_true rfl)⟩ (kw_e ?_)
    refine kw_if_eq F dX6_readHeap_31 (tgt := 50) (by decide) (fun hc => ?_) (fun hc => ?_)
    · replace h := h.1 hc
      refine kj_null F dX6_readHeap_50 ?_
      exact kn_aret (v := none) (z := (((o7.2), P) : kx_S × va_W)) F dX6_readHeap_51 (Nat.le_of_ble_eq_true rfl) (Nat.le_of_ble_eq_true rfl) h
    · replace h := h.2 hc
      refine kj_aload_n F dX6_readHeap_34 0 rfl rfl ?_
      obtain ⟨o9, h10, h⟩ := h
      refine kj_cVi (w := (kx_W cA h0 q P)) (As := []) (rest := []) F dX6_readHeap_35 (kw_h h10) (fun o h1 => ct_readHeights h1) (cwV 0 F.2.2.2.2.1 gX6_readHeap_X6_readHeights rfl rfl rfl (by decide +kernel) ⟨Nat.le_of_ble_eq_true rfl, Nat.le_of_ble_eq_true rfl⟩) 1 rfl rfl rfl rfl rfl (Nat.le_of_ble_eq_true rfl) ⟨(by exact Nat.le_of_ble_eq_true rfl), (by exact Nat.le_of_ble_eq_true rfl)⟩ (kw_e ?_)
      refine kw_if_eq F dX6_readHeap_38 (tgt := 50) (by decide) (fun hc => ?_) (fun hc => ?_)
      · replace h := h.1 hc
        refine kj_null F dX6_readHeap_50 ?_
        exact kn_aret (v := none) (z := (((o9.2), P) : kx_S × va_W)) F dX6_readHeap_51 (Nat.le_of_ble_eq_true rfl) (Nat.le_of_ble_eq_true rfl) h
      · replace h := h.2 hc
        refine kj_aload_n F dX6_readHeap_41 0 rfl rfl ?_
        refine kj_bipush F dX6_readHeap_42 (v := 59) (by decide) ?_
        obtain ⟨o11, h12, h⟩ := h
        refine kj_cVi (w := (kx_W cA h0 q P)) (As := [.int (59 : Int32)]) (rest := []) F dX6_readHeap_44 (kw_h h12) (fun o h1 => ct_readSign h1) (cwV 1 F.2.2.2.2.1 gX6_readHeap_X6_readSign rfl rfl rfl (by decide +kernel) ⟨Nat.le_of_ble_eq_true rfl, Nat.le_of_ble_eq_true rfl⟩) 1 rfl rfl rfl rfl rfl (Nat.le_of_ble_eq_true rfl) ⟨(by exact Nat.le_of_ble_eq_true rfl), (by exact Nat.le_of_ble_eq_true rfl)⟩ (kw_e ?_)
        refine kw_if_ne F dX6_readHeap_47 (tgt := 52) (by decide) (fun hc => ?_) (fun hc => ?_)
        · replace h := h.1 hc
          refine kj_null F dX6_readHeap_50 ?_
          exact kn_aret (v := none) (z := (((o11.2), P) : kx_S × va_W)) F dX6_readHeap_51 (Nat.le_of_ble_eq_true rfl) (Nat.le_of_ble_eq_true rfl) h
        · replace h := h.2 hc
          refine kj_aload_n F dX6_readHeap_52 0 rfl rfl ?_
          refine kj_get F dX6_readHeap_53 in_X6_readHeap_X6 1 rfl rfl 6 (by decide) (by decide +kernel) rfl rfl ?_
          refine kj_aload_n F dX6_readHeap_56 0 rfl rfl ?_
          refine kj_get F dX6_readHeap_57 in_X6_readHeap_X6 1 rfl rfl 5 (by decide) (by decide +kernel) rfl rfl ?_
          refine kw_icmp_ge F dX6_readHeap_60 (tgt := 71) (by decide) (fun hc => ?_) (fun hc => ?_)
          · replace h := h.1 hc
            refine kn_new (fs := [.null, .long 0]) F dX6_readHeap_71 in_X6_readHeap_X1 tyX1 tyX1_ok (by decide +kernel) (by decide +kernel) (by decide +kernel) (ci := 1) rfl (fun j hj => by rcases (show j = 0 ∨ j = 1 by omega) with rfl | rfl <;> rfl) (Nat.le_of_ble_eq_true rfl) (Nat.le_of_ble_eq_true rfl) (fun q13 hq14 => ?_)
            replace h := h q13 (fun x hx => hq14 x (kx_inP hx))
            refine kj_cast (ww' := (kx_W cA h0 q (P ++ [((q13, .inr (1, [.null, .long 0])) : Nat × va_E)]) (o11.2))) (by simp [kx_W]) ?_
            refine kj_dup F dX6_readHeap_74 rfl ?_
            refine kn_new (fs := [.int 0, .int 0, .int 0]) F dX6_readHeap_75 in_X6_readHeap_X0 tyX0 tyX0_ok (by decide +kernel) (by decide +kernel) (by decide +kernel) (ci := 0) rfl (fun j hj => by rcases (show j = 0 ∨ j = 1 ∨ j = 2 by omega) with rfl | rfl | rfl <;> rfl) (Nat.le_of_ble_eq_true rfl) (Nat.le_of_ble_eq_true rfl) (fun q15 hq16 => ?_)
            replace h := h q15 (fun x hx => hq16 x (kx_inP hx))
            refine kj_cast (ww' := (kx_W cA h0 q (P ++ [((q13, .inr (1, [.null, .long 0])) : Nat × va_E), ((q15, .inr (0, [.int 0, .int 0, .int 0])) : Nat × va_E)]) (o11.2))) (by simp [kx_W]) ?_
            refine kj_dup F dX6_readHeap_78 rfl ?_
            refine kj_aload_n F dX6_readHeap_79 0 rfl rfl ?_
            refine kj_get F dX6_readHeap_80 in_X6_readHeap_X6 1 rfl rfl 2 (by decide) (by decide +kernel) rfl rfl ?_
            refine kj_aload_n F dX6_readHeap_83 0 rfl rfl ?_
            refine kj_get F dX6_readHeap_84 in_X6_readHeap_X6 1 rfl rfl 3 (by decide) (by decide +kernel) rfl rfl ?_
            refine kj_aload_n F dX6_readHeap_87 0 rfl rfl ?_
            refine kj_get F dX6_readHeap_88 in_X6_readHeap_X6 1 rfl rfl 4 (by decide) (by decide +kernel) rfl rfl ?_
            refine kj_cast (ww' := (fun (v : Int32 × Int32 × Int32) => kx_W cA h0 q (P ++ (([((q13, .inr (1, [.null, .long 0])) : Nat × va_E)] : va_W) ++ (fun (v : Int32 × Int32 × Int32) => ((q15, .inr (0, [.int v.1, .int v.2.1, .int v.2.2])) : Nat × va_E)) v :: [])) (o11.2)) (0, 0, 0)) rfl ?_
            refine kj_cINv (w := (fun (v : Int32 × Int32 × Int32) => kx_W cA h0 q (P ++ (([((q13, .inr (1, [.null, .long 0])) : Nat × va_E)] : va_W) ++ (fun (v : Int32 × Int32 × Int32) => ((q15, .inr (0, [.int v.1, .int v.2.1, .int v.2.2])) : Nat × va_E)) v :: [])) (o11.2))) (z := (0, 0, 0)) (o := (((o11.2).1 1), ((o11.2).1 2), ((o11.2).1 3))) (As := [.int ((o11.2).1 1), .int ((o11.2).1 2), .int ((o11.2).1 3)]) (rest := [.ref q15, .ref q13, .ref q13]) F dX6_readHeap_91 (cx_init (kx_lensP cA h0 q (o11.2) P [((q13, .inr (1, [.null, .long 0])) : Nat × va_E)] [] (fun (v : Int32 × Int32 × Int32) => ((q15, .inr (0, [.int v.1, .int v.2.1, .int v.2.2])) : Nat × va_E))).1 (kx_lensP cA h0 q (o11.2) P [((q13, .inr (1, [.null, .long 0])) : Nat × va_E)] [] (fun (v : Int32 × Int32 × Int32) => ((q15, .inr (0, [.int v.1, .int v.2.1, .int v.2.2])) : Nat × va_E))).2) ⟨va_cnB 3 F.2.2.2.2.1 gX6_readHeap_X0_init_n61 rfl rfl rfl hN.2.2.2.2.1 (F.2.2.2.2.1 _ (by decide +kernel)) (by decide +kernel) ⟨Nat.le_of_ble_eq_true rfl, Nat.le_of_ble_eq_true rfl⟩, rfl, F.2.2.2.2.1 _ (by decide +kernel)⟩ rfl rfl (Nat.le_of_ble_eq_true rfl) ⟨(by exact Nat.le_of_ble_eq_true rfl), (by exact Nat.le_of_ble_eq_true rfl)⟩ ?_
            refine kj_cast (ww' := (kx_W cA h0 q (P ++ [((q13, .inr (1, [.null, .long 0])) : Nat × va_E), ((q15, .inr (0, [.int ((o11.2).1 1), .int ((o11.2).1 2), .int ((o11.2).1 3)])) : Nat × va_E)]) (o11.2))) rfl ?_
            refine kj_aload_n F dX6_readHeap_94 0 rfl rfl ?_
            obtain ⟨o17, h18, h⟩ := h
            refine kj_cVl (w := (kx_W cA h0 q (P ++ [((q13, .inr (1, [.null, .long 0])) : Nat × va_E), ((q15, .inr (0, [.int ((o11.2).1 1), .int ((o11.2).1 2), .int ((o11.2).1 3)])) : Nat × va_E)]))) (As := []) (rest := [.ref q15, .ref q13, .ref q13]) F dX6_readHeap_95 (kw_h h18) (fun o h1 => ct_toldCubes h1) (cwV 0 F.2.2.2.2.1 gX6_readHeap_X6_toldCubes rfl rfl rfl (by decide +kernel) ⟨Nat.le_of_ble_eq_true rfl, Nat.le_of_ble_eq_true rfl⟩) 1 rfl rfl rfl rfl rfl (Nat.le_of_ble_eq_true rfl) ⟨(by exact Nat.le_of_ble_eq_true rfl), (by exact Nat.le_of_ble_eq_true rfl)⟩ (kw_e ?_)
            refine kj_cast (ww' := (fun (v : Value × Int64) => kx_W cA h0 q (P ++ (([] : va_W) ++ (fun (v : Value × Int64) => ((q13, .inr (1, [v.1, .long v.2])) : Nat × va_E)) v :: [((q15, .inr (0, [.int ((o11.2).1 1), .int ((o11.2).1 2), .int ((o11.2).1 3)])) : Nat × va_E)])) (o17.2)) (.null, 0)) rfl ?_
            refine kj_cIv (w := (fun (v : Value × Int64) => kx_W cA h0 q (P ++ (([] : va_W) ++ (fun (v : Value × Int64) => ((q13, .inr (1, [v.1, .long v.2])) : Nat × va_E)) v :: [((q15, .inr (0, [.int ((o11.2).1 1), .int ((o11.2).1 2), .int ((o11.2).1 3)])) : Nat × va_E)])) (o17.2))) (z := (.null, 0)) (o := (.ref q15, (o17.1))) (As := [.ref q15, .long (o17.1)]) (rest := [.ref q13]) F dX6_readHeap_98 (ch_init (kx_lensP cA h0 q (o17.2) P [] [((q15, .inr (0, [.int ((o11.2).1 1), .int ((o11.2).1 2), .int ((o11.2).1 3)])) : Nat × va_E)] (fun (v : Value × Int64) => ((q13, .inr (1, [v.1, .long v.2])) : Nat × va_E))).1 (kx_lensP cA h0 q (o17.2) P [] [((q15, .inr (0, [.int ((o11.2).1 1), .int ((o11.2).1 2), .int ((o11.2).1 3)])) : Nat × va_E)] (fun (v : Value × Int64) => ((q13, .inr (1, [v.1, .long v.2])) : Nat × va_E))).2) (cwI 2 F.2.2.2.2.1 gX6_readHeap_X1_init rfl rfl rfl (F.2.2.2.2.1 _ (by decide +kernel)) (F.2.2.2.2.1 _ (by decide +kernel)) (F.2.2.2.2.1 _ (by decide +kernel)) rfl (by decide +kernel) ⟨Nat.le_of_ble_eq_true rfl, Nat.le_of_ble_eq_true rfl⟩) rfl rfl (Nat.le_of_ble_eq_true rfl) ⟨(by exact Nat.le_of_ble_eq_true rfl), (by exact Nat.le_of_ble_eq_true rfl)⟩ ?_
            refine kj_cast (ww' := (kx_W cA h0 q (P ++ [((q13, .inr (1, [.ref q15, .long (o17.1)])) : Nat × va_E), ((q15, .inr (0, [.int ((o11.2).1 1), .int ((o11.2).1 2), .int ((o11.2).1 3)])) : Nat × va_E)]) (o17.2))) rfl ?_
            exact kn_aret (v := (some q13)) (z := (((o17.2), (P ++ [((q13, .inr (1, [.ref q15, .long (o17.1)])) : Nat × va_E), ((q15, .inr (0, [.int ((o11.2).1 1), .int ((o11.2).1 2), .int ((o11.2).1 3)])) : Nat × va_E)])) : kx_S × va_W)) F dX6_readHeap_101 (Nat.le_of_ble_eq_true rfl) (Nat.le_of_ble_eq_true rfl) h
          · replace h := h.2 hc
            refine kj_aload_n F dX6_readHeap_63 0 rfl rfl ?_
            refine kj_iconst F dX6_readHeap_64 (v := 1) (by decide) ?_
            obtain ⟨o19, h20, h⟩ := h
            refine kj_cVi (w := (kx_W cA h0 q P)) (As := [.int (1 : Int32)]) (rest := []) F dX6_readHeap_65 (kw_h h20) (fun o h1 => ct_failed h1) (cwV 1 F.2.2.2.2.1 gX6_readHeap_X6_failed rfl rfl rfl (by decide +kernel) ⟨Nat.le_of_ble_eq_true rfl, Nat.le_of_ble_eq_true rfl⟩) 1 rfl rfl rfl rfl rfl (Nat.le_of_ble_eq_true rfl) ⟨(by exact Nat.le_of_ble_eq_true rfl), (by exact Nat.le_of_ble_eq_true rfl)⟩ (kw_e ?_)
            refine kj_pop F dX6_readHeap_68 rfl ?_
            refine kj_null F dX6_readHeap_69 ?_
            exact kn_aret (v := none) (z := (((o19.2), P) : kx_S × va_W)) F dX6_readHeap_70 (Nat.le_of_ble_eq_true rfl) (Nat.le_of_ble_eq_true rfl) h
theorem dt_readHeap {l : Launch} {D : va_G} {cA : Nat → ClassId} {h0 : Nat} {q : Nat → Nat} {P : va_W} {z : kx_S} {K : Option Nat → kx_S → va_W → Prop} (h : vt_readHeap cA z P K) : kn_Mq l yX6_readHeap wsX6_readHeap rm_X6_readHeap D (kx_T cA) (kx_V cA h0 q) (kx_W cA h0 q P z) [.ref (q 0)] (fun r u => K r u.1 u.2) :=
  fun sz => kn_start (by decide) rfl (Nat.le_of_ble_eq_true rfl) rfl fun p e s m args below meth c hsz F hN _ => et_readHeap F hN h
/-! X7_heap -/
abbrev rm_X7_heap : Room := { frames := 6, cells := 2, slots := 5, locals := 136 }
theorem in_X7_heap_X6 : ∀ w ∈ u_ws RX6 TX6 8, w ∈ wsX7_heap := by decide +kernel
theorem in_X7_heap_X7 : ∀ w ∈ u_ws RX7 TX7 10, w ∈ wsX7_heap := by decide +kernel
def vc_heap (cA : Nat → ClassId) (x1 : Int32) (z : kx_S) (P : va_W) (K : Int32 → kx_S → va_W → Prop) : Prop :=
  ∃ o1, fc_isPlace x1 = some o1 ∧
  (o1 = 0 →
  K ((-1000001) : Int32) z P) ∧ (¬ o1 = 0 →
  vt_readHeap cA z P (fun r4 u3z u3p =>
  ∃ z5, kx_pI u3z 4 (0 : Int32) = some z5 ∧
  (r4 = none →
  ∃ z8, kx_pI z5 0 (z5.1 6) = some z8 ∧
  K (((-1000100) : Int32) - (z8.1 5)) z8 u3p) ∧ (∀ a6, r4 = some a6 →
  vc_put cA (some a6) x1 z5 u3p (fun r11 u10z u10p =>
  K r11 u10z u10p))))
set_option maxRecDepth 20000 in
set_option maxHeartbeats 1000000 in
theorem ec_heap {p : Program} {l : Launch} {e : Env} {s : State} {m : MethodId} {args : Array Value} {below : List Frame} {meth : Method} {c : Code} {A : Nat → Prop} {D : va_G} {cA : Nat → ClassId} {h0 : Nat} {q : Nat → Nat} {P : va_W} {z : kx_S} {x1 : Int32} {K : Int32 → kx_S → va_W → Prop} (F : kj_Fx p s m args meth c cX7_heap 3 wsX7_heap RX7 (some .int) D (kx_T cA) A) (hN : kn_N s) (h : vc_heap cA x1 z P K) : kj_J p l e rm_X7_heap s m args below meth c 0 0 (MQ below (kn_Qi D (kx_T cA) A (kx_V cA h0 q) (fun r u => K r u.1 u.2)) args s 2 5 A) 3 D A (kx_W cA h0 q P z) 0 [(0, .ref h0), (1, .int x1)] [] := by
  unfold vc_heap at h
  refine kj_iload_n F dX7_heap_0 1 rfl rfl ?_
  obtain ⟨o1, h2, h⟩ := h
  refine kj_cSip (w := (kx_W cA h0 q P)) (As := [.int x1]) (rest := []) F dX7_heap_1 (kw_h h2) (fun o h1 => cc_isPlace (w := (kx_W cA h0 q P)) h1) (va_cwS 1 F.2.2.2.2.1 gX7_heap_X7_isPlace rfl rfl rfl (by decide +kernel) ⟨Nat.le_of_ble_eq_true rfl, Nat.le_of_ble_eq_true rfl⟩) rfl rfl (Nat.le_of_ble_eq_true rfl) ⟨(by exact Nat.le_of_ble_eq_true rfl), (by exact Nat.le_of_ble_eq_true rfl)⟩ (kw_e ?_)
  refine kw_if_ne F dX7_heap_4 (tgt := 10) (by decide) (fun hc => ?_) (fun hc => ?_)
  · replace h := h.1 hc
    refine kj_ldc F dX7_heap_7 (v := (-1000001)) (by decide +kernel) ?_
    exact kn_iret (z := ((z, P) : kx_S × va_W)) F dX7_heap_9 (Nat.le_of_ble_eq_true rfl) (Nat.le_of_ble_eq_true rfl) h
  · replace h := h.2 hc
    refine kj_aload_n F dX7_heap_10 0 rfl rfl ?_
    refine kj_get F dX7_heap_11 in_X7_heap_X7 0 rfl rfl 0 (by decide) (by decide +kernel) rfl rfl ?_
    refine kn_cVq (As := []) (rest := []) F hN dX7_heap_14 (dt_readHeap h) (cwV 0 F.2.2.2.2.1 gX7_heap_X6_readHeap rfl rfl rfl (by decide +kernel) ⟨Nat.le_of_ble_eq_true rfl, Nat.le_of_ble_eq_true rfl⟩) 1 rfl rfl rfl rfl rfl (Nat.le_of_ble_eq_true rfl) ⟨(by exact Nat.le_of_ble_eq_true rfl), (by exact Nat.le_of_ble_eq_true rfl)⟩ (fun r4 u3 h => ?_)
    refine kj_cast (ww' := kx_W cA h0 q u3.2 u3.1) rfl ?_
    refine kn_widen (k := 2) (n := 5) (Nat.le_of_ble_eq_true rfl) (Nat.le_of_ble_eq_true rfl) ?_
    refine kj_astoreq_n (i := 2) (v := r4) F dX7_heap_17 (lv' := [(2, va_rf r4), (0, .ref h0), (1, .int x1)]) rfl (by decide) rfl ?_
    refine kj_aload_n F dX7_heap_18 1 rfl rfl ?_
    refine kj_get F dX7_heap_19 in_X7_heap_X7 0 rfl rfl 0 (by decide) (by decide +kernel) rfl rfl ?_
    refine kj_iconst F dX7_heap_22 (v := 0) (by decide) ?_
    obtain ⟨z5, h12, h⟩ := h
    refine kx_pt F dX7_heap_23 in_X7_heap_X6 tyX6 tyX6_ok nmX6 1 rfl rfl 5 4 (by decide) (by decide +kernel) rfl rfl (by decide +kernel) (Nat.le_of_ble_eq_true rfl) (kx_put4 cA h0 q _ _ _) (kw_h h12) (kw_e ?_)
    refine kj_aloadq_n F dX7_heap_26 0 rfl rfl ?_
    refine kj_ifnonnull F dX7_heap_27 (tgt := 52) (by decide) (fun e7 => ?_) (fun a6 e7 => ?_)
    · replace h := h.1 e7
      refine kj_aload_n F dX7_heap_30 1 rfl rfl ?_
      refine kj_aload_n F dX7_heap_31 1 rfl rfl ?_
      refine kj_get F dX7_heap_32 in_X7_heap_X7 0 rfl rfl 0 (by decide) (by decide +kernel) rfl rfl ?_
      refine kj_get F dX7_heap_35 in_X7_heap_X6 1 rfl rfl 7 (by decide) (by decide +kernel) rfl rfl ?_
      obtain ⟨z8, h9, h⟩ := h
      refine kx_pt F dX7_heap_38 in_X7_heap_X7 tyX7 tyX7_ok nmX7 0 rfl rfl 9 0 (by decide) (by decide +kernel) rfl rfl (by decide +kernel) (Nat.le_of_ble_eq_true rfl) (kx_put0 cA h0 q _ _ _) (kw_h h9) (kw_e ?_)
      refine kj_ldc F dX7_heap_41 (v := (-1000100)) (by decide +kernel) ?_
      refine kj_aload_n F dX7_heap_43 1 rfl rfl ?_
      refine kj_get F dX7_heap_44 in_X7_heap_X7 0 rfl rfl 0 (by decide) (by decide +kernel) rfl rfl ?_
      refine kj_get F dX7_heap_47 in_X7_heap_X6 1 rfl rfl 6 (by decide) (by decide +kernel) rfl rfl ?_
      refine kj_isub F dX7_heap_50 ?_
      exact kn_iret (z := ((z8, (u3.2)) : kx_S × va_W)) F dX7_heap_51 (Nat.le_of_ble_eq_true rfl) (Nat.le_of_ble_eq_true rfl) h
    · replace h := h.2 a6 e7
      refine kj_aload_n F dX7_heap_52 1 rfl rfl ?_
      refine kj_aloadq_n F dX7_heap_53 0 rfl rfl ?_
      refine kj_deref e7 ?_
      refine kj_iload_n F dX7_heap_54 2 rfl rfl ?_
      refine kn_cVi (As := [.ref a6, .int x1]) (rest := []) F hN dX7_heap_55 (dc_put h) (cwV 2 F.2.2.2.2.1 gX7_heap_X7_put rfl rfl rfl (by decide +kernel) ⟨Nat.le_of_ble_eq_true rfl, Nat.le_of_ble_eq_true rfl⟩) 0 rfl rfl rfl rfl rfl (Nat.le_of_ble_eq_true rfl) ⟨(by exact Nat.le_of_ble_eq_true rfl), (by exact Nat.le_of_ble_eq_true rfl)⟩ (fun r11 u10 h => ?_)
      refine kj_cast (ww' := kx_W cA h0 q u10.2 u10.1) rfl ?_
      refine kn_widen (k := 2) (n := 5) (Nat.le_of_ble_eq_true rfl) (Nat.le_of_ble_eq_true rfl) ?_
      exact kn_iret (z := (((u10.1), (u10.2)) : kx_S × va_W)) F dX7_heap_58 (Nat.le_of_ble_eq_true rfl) (Nat.le_of_ble_eq_true rfl) h
theorem dc_heap {l : Launch} {D : va_G} {cA : Nat → ClassId} {h0 : Nat} {q : Nat → Nat} {P : va_W} {z : kx_S} {x1 : Int32} {K : Int32 → kx_S → va_W → Prop} (h : vc_heap cA x1 z P K) : kn_Mi l yX7_heap wsX7_heap rm_X7_heap D (kx_T cA) (kx_V cA h0 q) (kx_W cA h0 q P z) [.ref h0, .int x1] (fun r u => K r u.1 u.2) :=
  fun sz => kn_start (by decide) rfl (Nat.le_of_ble_eq_true rfl) rfl fun p e s m args below meth c hsz F hN _ => ec_heap F hN h
/-! X7_turn -/
abbrev rm_X7_turn : Room := { frames := 3, cells := 2, slots := 5, locals := 73 }
def vc_turn (cA : Nat → ClassId) (x1 : Int32) (x2 : Int32) (x3 : Int32) (z : kx_S) (P : va_W) (K : Int32 → kx_S → va_W → Prop) : Prop :=
  ∃ o1, fc_heapAt P x1 z = some o1 ∧
  ((o1.1) = none →
  K ((-1000001) : Int32) (o1.2) P) ∧ (∀ a3, (o1.1) = some a3 →
  (x2 < 0 →
  K ((-1000001) : Int32) (o1.2) P) ∧ (¬ x2 < 0 →
  ((2 : Int32) < x2 →
  K ((-1000001) : Int32) (o1.2) P) ∧ (¬ (2 : Int32) < x2 →
  ∃ o5, fc_isPlace x3 = some o5 ∧
  (o5 = 0 →
  K ((-1000001) : Int32) (o1.2) P) ∧ (¬ o5 = 0 →
  ∃ v11, kx_hp P a3 = some v11 ∧
  vh_turned cA a3 x2 (o1.2) P (fun r8 u7z u7p =>
  vc_put cA r8 x3 u7z u7p (fun r10 u9z u9p =>
  K r10 u9z u9p))))))
set_option maxRecDepth 20000 in
set_option maxHeartbeats 1000000 in
theorem ec_turn {p : Program} {l : Launch} {e : Env} {s : State} {m : MethodId} {args : Array Value} {below : List Frame} {meth : Method} {c : Code} {A : Nat → Prop} {D : va_G} {cA : Nat → ClassId} {h0 : Nat} {q : Nat → Nat} {P : va_W} {z : kx_S} {x1 : Int32} {x2 : Int32} {x3 : Int32} {K : Int32 → kx_S → va_W → Prop} (F : kj_Fx p s m args meth c cX7_turn 5 wsX7_turn RX7 (some .int) D (kx_T cA) A) (hN : kn_N s) (h : vc_turn cA x1 x2 x3 z P K) : kj_J p l e rm_X7_turn s m args below meth c 0 0 (MQ below (kn_Qi D (kx_T cA) A (kx_V cA h0 q) (fun r u => K r u.1 u.2)) args s 2 5 A) 5 D A (kx_W cA h0 q P z) 0 [(0, .ref h0), (1, .int x1), (2, .int x2), (3, .int x3)] [] := by
  unfold vc_turn at h
  refine kj_aload_n F dX7_turn_0 0 rfl rfl ?_
  refine kj_iload_n F dX7_turn_1 1 rfl rfl ?_
  obtain ⟨o1, h2, h⟩ := h
  refine kj_cVq (w := (kx_W cA h0 q P)) (As := [.int x1]) (rest := []) F dX7_turn_2 (kw_h h2) (fun o h1 => cc_heapAt h1) (cwV 1 F.2.2.2.2.1 gX7_turn_X7_heapAt rfl rfl rfl (by decide +kernel) ⟨Nat.le_of_ble_eq_true rfl, Nat.le_of_ble_eq_true rfl⟩) 0 rfl rfl rfl rfl rfl (Nat.le_of_ble_eq_true rfl) ⟨(by exact Nat.le_of_ble_eq_true rfl), (by exact Nat.le_of_ble_eq_true rfl)⟩ (kw_e ?_)
  refine kj_astoreq (i := 4) (v := (o1.1)) F dX7_turn_5 (lv' := [(4, va_rf (o1.1)), (0, .ref h0), (1, .int x1), (2, .int x2), (3, .int x3)]) (by decide) rfl ?_
  refine kj_aloadq F dX7_turn_7 0 rfl ?_
  refine kj_ifnull F dX7_turn_9 (tgt := 28) (by decide) (fun e4 => ?_) (fun a3 e4 => ?_)
  · replace h := h.1 e4
    refine kj_ldc F dX7_turn_28 (v := (-1000001)) (by decide +kernel) ?_
    exact kn_iret (z := (((o1.2), P) : kx_S × va_W)) F dX7_turn_30 (Nat.le_of_ble_eq_true rfl) (Nat.le_of_ble_eq_true rfl) h
  · replace h := h.2 a3 e4
    refine kj_iload_n F dX7_turn_12 3 rfl rfl ?_
    refine kw_if_lt F dX7_turn_13 (tgt := 28) (by decide) (fun hc => ?_) (fun hc => ?_)
    · replace h := h.1 hc
      refine kj_ldc F dX7_turn_28 (v := (-1000001)) (by decide +kernel) ?_
      exact kn_iret (z := (((o1.2), P) : kx_S × va_W)) F dX7_turn_30 (Nat.le_of_ble_eq_true rfl) (Nat.le_of_ble_eq_true rfl) h
    · replace h := h.2 hc
      refine kj_iload_n F dX7_turn_16 3 rfl rfl ?_
      refine kj_iconst F dX7_turn_17 (v := 2) (by decide) ?_
      refine kw_icmp_gt F dX7_turn_18 (tgt := 28) (by decide) (fun hc => ?_) (fun hc => ?_)
      · replace h := h.1 hc
        refine kj_ldc F dX7_turn_28 (v := (-1000001)) (by decide +kernel) ?_
        exact kn_iret (z := (((o1.2), P) : kx_S × va_W)) F dX7_turn_30 (Nat.le_of_ble_eq_true rfl) (Nat.le_of_ble_eq_true rfl) h
      · replace h := h.2 hc
        refine kj_iload_n F dX7_turn_21 4 rfl rfl ?_
        obtain ⟨o5, h6, h⟩ := h
        refine kj_cSip (w := (kx_W cA h0 q P)) (As := [.int x3]) (rest := []) F dX7_turn_22 (kw_h h6) (fun o h1 => cc_isPlace (w := (kx_W cA h0 q P)) h1) (va_cwS 1 F.2.2.2.2.1 gX7_turn_X7_isPlace rfl rfl rfl (by decide +kernel) ⟨Nat.le_of_ble_eq_true rfl, Nat.le_of_ble_eq_true rfl⟩) rfl rfl (Nat.le_of_ble_eq_true rfl) ⟨(by exact Nat.le_of_ble_eq_true rfl), (by exact Nat.le_of_ble_eq_true rfl)⟩ (kw_e ?_)
        refine kw_if_ne F dX7_turn_25 (tgt := 31) (by decide) (fun hc => ?_) (fun hc => ?_)
        · replace h := h.1 hc
          refine kj_ldc F dX7_turn_28 (v := (-1000001)) (by decide +kernel) ?_
          exact kn_iret (z := (((o1.2), P) : kx_S × va_W)) F dX7_turn_30 (Nat.le_of_ble_eq_true rfl) (Nat.le_of_ble_eq_true rfl) h
        · replace h := h.2 hc
          refine kj_aload_n F dX7_turn_31 1 rfl rfl ?_
          refine kj_aloadq F dX7_turn_32 0 rfl ?_
          refine kj_deref e4 ?_
          refine kj_iload_n F dX7_turn_34 3 rfl rfl ?_
          obtain ⟨v11, hv12, h⟩ := h
          obtain ⟨iv13, hv12⟩ := kx_hp_at hv12
          refine kn_cVq (As := [.int x2]) (rest := [.ref h0]) F hN dX7_turn_35 (dh_turned h) (cwV 1 F.2.2.2.2.1 gX7_turn_X1_turned rfl rfl rfl (by decide +kernel) ⟨Nat.le_of_ble_eq_true rfl, Nat.le_of_ble_eq_true rfl⟩) _ (kx_pool hv12) rfl rfl rfl rfl (Nat.le_of_ble_eq_true rfl) ⟨(by exact Nat.le_of_ble_eq_true rfl), (by exact Nat.le_of_ble_eq_true rfl)⟩ (fun r8 u7 h => ?_)
          refine kj_cast (ww' := kx_W cA h0 q u7.2 u7.1) rfl ?_
          refine kn_widen (k := 2) (n := 5) (Nat.le_of_ble_eq_true rfl) (Nat.le_of_ble_eq_true rfl) ?_
          refine kj_iload_n F dX7_turn_38 4 rfl rfl ?_
          refine kn_cVi (As := [va_rf r8, .int x3]) (rest := []) F hN dX7_turn_39 (dc_put h) (cwV 2 F.2.2.2.2.1 gX7_turn_X7_put rfl rfl rfl (by decide +kernel) ⟨Nat.le_of_ble_eq_true rfl, Nat.le_of_ble_eq_true rfl⟩) 0 rfl rfl rfl rfl rfl (Nat.le_of_ble_eq_true rfl) ⟨(by exact Nat.le_of_ble_eq_true rfl), (by exact Nat.le_of_ble_eq_true rfl)⟩ (fun r10 u9 h => ?_)
          refine kj_cast (ww' := kx_W cA h0 q u9.2 u9.1) rfl ?_
          refine kn_widen (k := 2) (n := 5) (Nat.le_of_ble_eq_true rfl) (Nat.le_of_ble_eq_true rfl) ?_
          exact kn_iret (z := (((u9.1), (u9.2)) : kx_S × va_W)) F dX7_turn_42 (Nat.le_of_ble_eq_true rfl) (Nat.le_of_ble_eq_true rfl) h
theorem dc_turn {l : Launch} {D : va_G} {cA : Nat → ClassId} {h0 : Nat} {q : Nat → Nat} {P : va_W} {z : kx_S} {x1 : Int32} {x2 : Int32} {x3 : Int32} {K : Int32 → kx_S → va_W → Prop} (h : vc_turn cA x1 x2 x3 z P K) : kn_Mi l yX7_turn wsX7_turn rm_X7_turn D (kx_T cA) (kx_V cA h0 q) (kx_W cA h0 q P z) [.ref h0, .int x1, .int x2, .int x3] (fun r u => K r u.1 u.2) :=
  fun sz => kn_start (by decide) rfl (Nat.le_of_ble_eq_true rfl) rfl fun p e s m args below meth c hsz F hN _ => ec_turn F hN h
/-! X7_join -/
abbrev rm_X7_join : Room := { frames := 3, cells := 1, slots := 2, locals := 67 }
theorem in_X7_join_X1 : ∀ w ∈ u_ws RX1 TX1 2, w ∈ wsX7_join := by decide +kernel
def vc_join (cA : Nat → ClassId) (x1 : Int32) (x2 : Int32) (x3 : Int32) (x4 : Int32) (z : kx_S) (P : va_W) (K : Int32 → kx_S → va_W → Prop) : Prop :=
  ∃ o1, fc_heapAt P x1 z = some o1 ∧
  ∃ o3, fc_heapAt P x2 (o1.2) = some o3 ∧
  ((o1.1) = none →
  K ((-1000001) : Int32) (o3.2) P) ∧ (∀ a5, (o1.1) = some a5 →
  ((o3.1) = none →
  K ((-1000001) : Int32) (o3.2) P) ∧ (∀ a7, (o3.1) = some a7 →
  (x3 < 0 →
  K ((-1000001) : Int32) (o3.2) P) ∧ (¬ x3 < 0 →
  ((1 : Int32) < x3 →
  K ((-1000001) : Int32) (o3.2) P) ∧ (¬ (1 : Int32) < x3 →
  ∃ o9, fc_isPlace x4 = some o9 ∧
  (o9 = 0 →
  K ((-1000001) : Int32) (o3.2) P) ∧ (¬ o9 = 0 →
  ∃ v11, kx_hp P a5 = some v11 ∧
  ∃ v12, kx_hp P a7 = some v12 ∧
  ∃ u13, kx_bx P (v11.1) = some u13 ∧
  ∃ u16, kx_bx P (v12.1) = some u16 ∧
  ∃ o19, fx_sameAs u13.1 u13.2.1 u13.2.2 u16.1 u16.2.1 u16.2.2 = some o19 ∧
  (o19 = 0 →
  K ((-1000002) : Int32) (o3.2) P) ∧ (¬ o19 = 0 →
  ∃ v21, kx_hp P a5 = some v21 ∧
  ∃ v22, kx_hp P a5 = some v22 ∧
  ∃ v23, kx_hp P a7 = some v23 ∧
  (x3 = 0 →
  ∃ u24, kx_bx P (v21.1) = some u24 ∧
  ∃ o27, fx_joined u24.1 u24.2.1 u24.2.2 (v22.2) (v23.2) (1 : Int32) = some o27 ∧
  ∀ q29, (∀ x ∈ P, x.1 ≠ q29) →
  ∃ v31, kx_hp (P ++ [((q29, .inr (1, [.null, .long 0])) : Nat × va_E)]) a5 = some v31 ∧
  vc_put cA (some q29) x4 (o3.2) (P ++ [((q29, .inr (1, [.ref (v31.1), .long o27])) : Nat × va_E)]) (fun r33 u32z u32p =>
  K r33 u32z u32p)) ∧ (¬ x3 = 0 →
  ∃ u35, kx_bx P (v21.1) = some u35 ∧
  ∃ o38, fx_joined u35.1 u35.2.1 u35.2.2 (v22.2) (v23.2) (0 : Int32) = some o38 ∧
  ∀ q40, (∀ x ∈ P, x.1 ≠ q40) →
  ∃ v42, kx_hp (P ++ [((q40, .inr (1, [.null, .long 0])) : Nat × va_E)]) a5 = some v42 ∧
  vc_put cA (some q40) x4 (o3.2) (P ++ [((q40, .inr (1, [.ref (v42.1), .long o38])) : Nat × va_E)]) (fun r44 u43z u43p =>
  K r44 u43z u43p))))))))
set_option maxRecDepth 20000 in
set_option maxHeartbeats 1000000 in
theorem ec_join {p : Program} {l : Launch} {e : Env} {s : State} {m : MethodId} {args : Array Value} {below : List Frame} {meth : Method} {c : Code} {A : Nat → Prop} {D : va_G} {cA : Nat → ClassId} {h0 : Nat} {q : Nat → Nat} {P : va_W} {z : kx_S} {x1 : Int32} {x2 : Int32} {x3 : Int32} {x4 : Int32} {K : Int32 → kx_S → va_W → Prop} (F : kj_Fx p s m args meth c cX7_join 9 wsX7_join RX7 (some .int) D (kx_T cA) A) (hN : kn_N s) (h : vc_join cA x1 x2 x3 x4 z P K) : kj_J p l e rm_X7_join s m args below meth c 0 0 (MQ below (kn_Qi D (kx_T cA) A (kx_V cA h0 q) (fun r u => K r u.1 u.2)) args s 1 2 A) 9 D A (kx_W cA h0 q P z) 0 [(0, .ref h0), (1, .int x1), (2, .int x2), (3, .int x3), (4, .int x4)] [] := by
  unfold vc_join at h
  refine kj_aload_n F dX7_join_0 0 rfl rfl ?_
  refine kj_iload_n F dX7_join_1 1 rfl rfl ?_
  obtain ⟨o1, h2, h⟩ := h
  refine kj_cVq (w := (kx_W cA h0 q P)) (As := [.int x1]) (rest := []) F dX7_join_2 (kw_h h2) (fun o h1 => cc_heapAt h1) (cwV 1 F.2.2.2.2.1 gX7_join_X7_heapAt rfl rfl rfl (by decide +kernel) ⟨Nat.le_of_ble_eq_true rfl, Nat.le_of_ble_eq_true rfl⟩) 0 rfl rfl rfl rfl rfl (Nat.le_of_ble_eq_true rfl) ⟨(by exact Nat.le_of_ble_eq_true rfl), (by exact Nat.le_of_ble_eq_true rfl)⟩ (kw_e ?_)
  refine kj_astoreq (i := 5) (v := (o1.1)) F dX7_join_5 (lv' := [(5, va_rf (o1.1)), (0, .ref h0), (1, .int x1), (2, .int x2), (3, .int x3), (4, .int x4)]) (by decide) rfl ?_
  refine kj_aload_n F dX7_join_7 1 rfl rfl ?_
  refine kj_iload_n F dX7_join_8 3 rfl rfl ?_
  obtain ⟨o3, h4, h⟩ := h
  refine kj_cVq (w := (kx_W cA h0 q P)) (As := [.int x2]) (rest := []) F dX7_join_9 (kw_h h4) (fun o h1 => cc_heapAt h1) (cwV 1 F.2.2.2.2.1 gX7_join_X7_heapAt rfl rfl rfl (by decide +kernel) ⟨Nat.le_of_ble_eq_true rfl, Nat.le_of_ble_eq_true rfl⟩) 0 rfl rfl rfl rfl rfl (Nat.le_of_ble_eq_true rfl) ⟨(by exact Nat.le_of_ble_eq_true rfl), (by exact Nat.le_of_ble_eq_true rfl)⟩ (kw_e ?_)
  refine kj_astoreq (i := 6) (v := (o3.1)) F dX7_join_12 (lv' := [(6, va_rf (o3.1)), (5, va_rf (o1.1)), (0, .ref h0), (1, .int x1), (2, .int x2), (3, .int x3), (4, .int x4)]) (by decide) (by simp [kj_cat]) ?_
  refine kj_aloadq F dX7_join_14 1 rfl ?_
  refine kj_ifnull F dX7_join_16 (tgt := 41) (by decide) (fun e6 => ?_) (fun a5 e6 => ?_)
  · replace h := h.1 e6
    refine kj_ldc F dX7_join_41 (v := (-1000001)) (by decide +kernel) ?_
    exact kn_iret (z := (((o3.2), P) : kx_S × va_W)) F dX7_join_43 (Nat.le_of_ble_eq_true rfl) (Nat.le_of_ble_eq_true rfl) h
  · replace h := h.2 a5 e6
    refine kj_aloadq F dX7_join_19 0 rfl ?_
    refine kj_ifnull F dX7_join_21 (tgt := 41) (by decide) (fun e8 => ?_) (fun a7 e8 => ?_)
    · replace h := h.1 e8
      refine kj_ldc F dX7_join_41 (v := (-1000001)) (by decide +kernel) ?_
      exact kn_iret (z := (((o3.2), P) : kx_S × va_W)) F dX7_join_43 (Nat.le_of_ble_eq_true rfl) (Nat.le_of_ble_eq_true rfl) h
    · replace h := h.2 a7 e8
      refine kj_iload_n F dX7_join_24 5 rfl rfl ?_
      refine kw_if_lt F dX7_join_25 (tgt := 41) (by decide) (fun hc => ?_) (fun hc => ?_)
      · replace h := h.1 hc
        refine kj_ldc F dX7_join_41 (v := (-1000001)) (by decide +kernel) ?_
        exact kn_iret (z := (((o3.2), P) : kx_S × va_W)) F dX7_join_43 (Nat.le_of_ble_eq_true rfl) (Nat.le_of_ble_eq_true rfl) h
      · replace h := h.2 hc
        refine kj_iload_n F dX7_join_28 5 rfl rfl ?_
        refine kj_iconst F dX7_join_29 (v := 1) (by decide) ?_
        refine kw_icmp_gt F dX7_join_30 (tgt := 41) (by decide) (fun hc => ?_) (fun hc => ?_)
        · replace h := h.1 hc
          refine kj_ldc F dX7_join_41 (v := (-1000001)) (by decide +kernel) ?_
          exact kn_iret (z := (((o3.2), P) : kx_S × va_W)) F dX7_join_43 (Nat.le_of_ble_eq_true rfl) (Nat.le_of_ble_eq_true rfl) h
        · replace h := h.2 hc
          refine kj_iload F dX7_join_33 6 rfl ?_
          obtain ⟨o9, h10, h⟩ := h
          refine kj_cSip (w := (kx_W cA h0 q P)) (As := [.int x4]) (rest := []) F dX7_join_35 (kw_h h10) (fun o h1 => cc_isPlace (w := (kx_W cA h0 q P)) h1) (va_cwS 1 F.2.2.2.2.1 gX7_join_X7_isPlace rfl rfl rfl (by decide +kernel) ⟨Nat.le_of_ble_eq_true rfl, Nat.le_of_ble_eq_true rfl⟩) rfl rfl (Nat.le_of_ble_eq_true rfl) ⟨(by exact Nat.le_of_ble_eq_true rfl), (by exact Nat.le_of_ble_eq_true rfl)⟩ (kw_e ?_)
          refine kw_if_ne F dX7_join_38 (tgt := 44) (by decide) (fun hc => ?_) (fun hc => ?_)
          · replace h := h.1 hc
            refine kj_ldc F dX7_join_41 (v := (-1000001)) (by decide +kernel) ?_
            exact kn_iret (z := (((o3.2), P) : kx_S × va_W)) F dX7_join_43 (Nat.le_of_ble_eq_true rfl) (Nat.le_of_ble_eq_true rfl) h
          · replace h := h.2 hc
            refine kj_aloadq F dX7_join_44 1 rfl ?_
            refine kj_deref e6 ?_
            obtain ⟨v11, h50, h⟩ := h
            refine kx_gbox F dX7_join_46 in_X7_join_X1 (by decide +kernel) (kw_h h50) (kw_e ?_)
            refine kj_aloadq F dX7_join_49 0 rfl ?_
            refine kj_deref e8 ?_
            obtain ⟨v12, h49, h⟩ := h
            refine kx_gbox F dX7_join_51 in_X7_join_X1 (by decide +kernel) (kw_h h49) (kw_e ?_)
            obtain ⟨u13, hu14, h⟩ := h
            obtain ⟨iu15, hu14⟩ := kx_bx_at hu14
            obtain ⟨u16, hu17, h⟩ := h
            obtain ⟨iu18, hu17⟩ := kx_bx_at hu17
            obtain ⟨o19, h20, h⟩ := h
            refine kj_cVip (w := (kx_W cA h0 q P)) (As := [.ref (v12.1)]) (rest := []) F dX7_join_54 (kw_h h20) (fun o h1 => cx_sameAs (w := (kx_W cA h0 q P)) (kx_pool hu14) (kx_pool hu17) h1) (cwV 1 F.2.2.2.2.1 gX7_join_X0_sameAs rfl rfl rfl (by decide +kernel) ⟨Nat.le_of_ble_eq_true rfl, Nat.le_of_ble_eq_true rfl⟩) _ (kx_pool hu14) rfl rfl rfl rfl (Nat.le_of_ble_eq_true rfl) ⟨(by exact Nat.le_of_ble_eq_true rfl), (by exact Nat.le_of_ble_eq_true rfl)⟩ (kw_e ?_)
            refine kw_if_ne F dX7_join_57 (tgt := 63) (by decide) (fun hc => ?_) (fun hc => ?_)
            · replace h := h.1 hc
              refine kj_ldc F dX7_join_60 (v := (-1000002)) (by decide +kernel) ?_
              exact kn_iret (z := (((o3.2), P) : kx_S × va_W)) F dX7_join_62 (Nat.le_of_ble_eq_true rfl) (Nat.le_of_ble_eq_true rfl) h
            · replace h := h.2 hc
              refine kj_aloadq F dX7_join_63 1 rfl ?_
              refine kj_deref e6 ?_
              obtain ⟨v21, h48, h⟩ := h
              refine kx_gbox F dX7_join_65 in_X7_join_X1 (by decide +kernel) (kw_h h48) (kw_e ?_)
              refine kj_aloadq F dX7_join_68 1 rfl ?_
              refine kj_deref e6 ?_
              obtain ⟨v22, h47, h⟩ := h
              refine kx_gcubes F dX7_join_70 in_X7_join_X1 (by decide +kernel) (kw_h h47) (kw_e ?_)
              refine kj_aloadq F dX7_join_73 0 rfl ?_
              refine kj_deref e8 ?_
              obtain ⟨v23, h46, h⟩ := h
              refine kx_gcubes F dX7_join_75 in_X7_join_X1 (by decide +kernel) (kw_h h46) (kw_e ?_)
              refine kj_iload_n F dX7_join_78 5 rfl rfl ?_
              refine kw_if_ne F dX7_join_79 (tgt := 86) (by decide) (fun hc => ?_) (fun hc => ?_)
              · replace h := h.1 hc
                refine kj_iconst F dX7_join_82 (v := 1) (by decide) ?_
                refine kj_goto F dX7_join_83 (tgt := 87) (by decide) ?_
                obtain ⟨u24, hu25, h⟩ := h
                obtain ⟨iu26, hu25⟩ := kx_bx_at hu25
                obtain ⟨o27, h28, h⟩ := h
                refine kj_cVlp (w := (kx_W cA h0 q P)) (As := [.long (v22.2), .long (v23.2), .int (1 : Int32)]) (rest := []) F dX7_join_87 (kw_h h28) (fun o h1 => cx_joined (w := (kx_W cA h0 q P)) (kx_pool hu25) h1) (cwV 3 F.2.2.2.2.1 gX7_join_X0_joined rfl rfl rfl (by decide +kernel) ⟨Nat.le_of_ble_eq_true rfl, Nat.le_of_ble_eq_true rfl⟩) _ (kx_pool hu25) rfl rfl rfl rfl (Nat.le_of_ble_eq_true rfl) ⟨(by exact Nat.le_of_ble_eq_true rfl), (by exact Nat.le_of_ble_eq_true rfl)⟩ (kw_e ?_)
                refine kj_lstore (i := 7) F dX7_join_90 (lv' := [(7, .long o27), (6, va_rf (o3.1)), (5, va_rf (o1.1)), (0, .ref h0), (1, .int x1), (2, .int x2), (3, .int x3), (4, .int x4)]) (by decide) (by simp [kj_cat]) ?_
                refine kj_aload_n F dX7_join_92 3 rfl rfl ?_
                refine kn_new (fs := [.null, .long 0]) F dX7_join_93 in_X7_join_X1 tyX1 tyX1_ok (by decide +kernel) (by decide +kernel) (by decide +kernel) (ci := 1) rfl (fun j hj => by rcases (show j = 0 ∨ j = 1 by omega) with rfl | rfl <;> rfl) (Nat.le_of_ble_eq_true rfl) (Nat.le_of_ble_eq_true rfl) (fun q29 hq30 => ?_)
                replace h := h q29 (fun x hx => hq30 x (kx_inP hx))
                refine kj_cast (ww' := (kx_W cA h0 q (P ++ [((q29, .inr (1, [.null, .long 0])) : Nat × va_E)]) (o3.2))) (by simp [kx_W]) ?_
                refine kj_dup F dX7_join_96 rfl ?_
                refine kj_aloadq F dX7_join_97 2 rfl ?_
                refine kj_deref e6 ?_
                obtain ⟨v31, h34, h⟩ := h
                refine kx_gbox F dX7_join_99 in_X7_join_X1 (by decide +kernel) (kw_h h34) (kw_e ?_)
                refine kj_lload F dX7_join_102 0 rfl ?_
                refine kj_cast (ww' := (fun (v : Value × Int64) => kx_W cA h0 q (P ++ (([] : va_W) ++ (fun (v : Value × Int64) => ((q29, .inr (1, [v.1, .long v.2])) : Nat × va_E)) v :: [])) (o3.2)) (.null, 0)) rfl ?_
                refine kj_cIv (w := (fun (v : Value × Int64) => kx_W cA h0 q (P ++ (([] : va_W) ++ (fun (v : Value × Int64) => ((q29, .inr (1, [v.1, .long v.2])) : Nat × va_E)) v :: [])) (o3.2))) (z := (.null, 0)) (o := (.ref (v31.1), o27)) (As := [.ref (v31.1), .long o27]) (rest := [.ref q29, .ref h0]) F dX7_join_104 (ch_init (kx_lensP cA h0 q (o3.2) P [] [] (fun (v : Value × Int64) => ((q29, .inr (1, [v.1, .long v.2])) : Nat × va_E))).1 (kx_lensP cA h0 q (o3.2) P [] [] (fun (v : Value × Int64) => ((q29, .inr (1, [v.1, .long v.2])) : Nat × va_E))).2) (cwI 2 F.2.2.2.2.1 gX7_join_X1_init rfl rfl rfl (F.2.2.2.2.1 _ (by decide +kernel)) (F.2.2.2.2.1 _ (by decide +kernel)) (F.2.2.2.2.1 _ (by decide +kernel)) rfl (by decide +kernel) ⟨Nat.le_of_ble_eq_true rfl, Nat.le_of_ble_eq_true rfl⟩) rfl rfl (Nat.le_of_ble_eq_true rfl) ⟨(by exact Nat.le_of_ble_eq_true rfl), (by exact Nat.le_of_ble_eq_true rfl)⟩ ?_
                refine kj_cast (ww' := (kx_W cA h0 q (P ++ [((q29, .inr (1, [.ref (v31.1), .long o27])) : Nat × va_E)]) (o3.2))) rfl ?_
                refine kj_iload F dX7_join_107 7 rfl ?_
                refine kn_cVi (As := [.ref q29, .int x4]) (rest := []) F hN dX7_join_109 (dc_put h) (cwV 2 F.2.2.2.2.1 gX7_join_X7_put rfl rfl rfl (by decide +kernel) ⟨Nat.le_of_ble_eq_true rfl, Nat.le_of_ble_eq_true rfl⟩) 0 rfl rfl rfl rfl rfl (Nat.le_of_ble_eq_true rfl) ⟨(by exact Nat.le_of_ble_eq_true rfl), (by exact Nat.le_of_ble_eq_true rfl)⟩ (fun r33 u32 h => ?_)
                refine kj_cast (ww' := kx_W cA h0 q u32.2 u32.1) rfl ?_
                refine kn_widen (k := 1) (n := 2) (Nat.le_of_ble_eq_true rfl) (Nat.le_of_ble_eq_true rfl) ?_
                exact kn_iret (z := (((u32.1), (u32.2)) : kx_S × va_W)) F dX7_join_112 (Nat.le_of_ble_eq_true rfl) (Nat.le_of_ble_eq_true rfl) h
              · replace h := h.2 hc
                refine kj_iconst F dX7_join_86 (v := 0) (by decide) ?_
                obtain ⟨u35, hu36, h⟩ := h
                obtain ⟨iu37, hu36⟩ := kx_bx_at hu36
                obtain ⟨o38, h39, h⟩ := h
                refine kj_cVlp (w := (kx_W cA h0 q P)) (As := [.long (v22.2), .long (v23.2), .int (0 : Int32)]) (rest := []) F dX7_join_87 (kw_h h39) (fun o h1 => cx_joined (w := (kx_W cA h0 q P)) (kx_pool hu36) h1) (cwV 3 F.2.2.2.2.1 gX7_join_X0_joined rfl rfl rfl (by decide +kernel) ⟨Nat.le_of_ble_eq_true rfl, Nat.le_of_ble_eq_true rfl⟩) _ (kx_pool hu36) rfl rfl rfl rfl (Nat.le_of_ble_eq_true rfl) ⟨(by exact Nat.le_of_ble_eq_true rfl), (by exact Nat.le_of_ble_eq_true rfl)⟩ (kw_e ?_)
                refine kj_lstore (i := 7) F dX7_join_90 (lv' := [(7, .long o38), (6, va_rf (o3.1)), (5, va_rf (o1.1)), (0, .ref h0), (1, .int x1), (2, .int x2), (3, .int x3), (4, .int x4)]) (by decide) (by simp [kj_cat]) ?_
                refine kj_aload_n F dX7_join_92 3 rfl rfl ?_
                refine kn_new (fs := [.null, .long 0]) F dX7_join_93 in_X7_join_X1 tyX1 tyX1_ok (by decide +kernel) (by decide +kernel) (by decide +kernel) (ci := 1) rfl (fun j hj => by rcases (show j = 0 ∨ j = 1 by omega) with rfl | rfl <;> rfl) (Nat.le_of_ble_eq_true rfl) (Nat.le_of_ble_eq_true rfl) (fun q40 hq41 => ?_)
                replace h := h q40 (fun x hx => hq41 x (kx_inP hx))
                refine kj_cast (ww' := (kx_W cA h0 q (P ++ [((q40, .inr (1, [.null, .long 0])) : Nat × va_E)]) (o3.2))) (by simp [kx_W]) ?_
                refine kj_dup F dX7_join_96 rfl ?_
                refine kj_aloadq F dX7_join_97 2 rfl ?_
                refine kj_deref e6 ?_
                obtain ⟨v42, h45, h⟩ := h
                refine kx_gbox F dX7_join_99 in_X7_join_X1 (by decide +kernel) (kw_h h45) (kw_e ?_)
                refine kj_lload F dX7_join_102 0 rfl ?_
                refine kj_cast (ww' := (fun (v : Value × Int64) => kx_W cA h0 q (P ++ (([] : va_W) ++ (fun (v : Value × Int64) => ((q40, .inr (1, [v.1, .long v.2])) : Nat × va_E)) v :: [])) (o3.2)) (.null, 0)) rfl ?_
                refine kj_cIv (w := (fun (v : Value × Int64) => kx_W cA h0 q (P ++ (([] : va_W) ++ (fun (v : Value × Int64) => ((q40, .inr (1, [v.1, .long v.2])) : Nat × va_E)) v :: [])) (o3.2))) (z := (.null, 0)) (o := (.ref (v42.1), o38)) (As := [.ref (v42.1), .long o38]) (rest := [.ref q40, .ref h0]) F dX7_join_104 (ch_init (kx_lensP cA h0 q (o3.2) P [] [] (fun (v : Value × Int64) => ((q40, .inr (1, [v.1, .long v.2])) : Nat × va_E))).1 (kx_lensP cA h0 q (o3.2) P [] [] (fun (v : Value × Int64) => ((q40, .inr (1, [v.1, .long v.2])) : Nat × va_E))).2) (cwI 2 F.2.2.2.2.1 gX7_join_X1_init rfl rfl rfl (F.2.2.2.2.1 _ (by decide +kernel)) (F.2.2.2.2.1 _ (by decide +kernel)) (F.2.2.2.2.1 _ (by decide +kernel)) rfl (by decide +kernel) ⟨Nat.le_of_ble_eq_true rfl, Nat.le_of_ble_eq_true rfl⟩) rfl rfl (Nat.le_of_ble_eq_true rfl) ⟨(by exact Nat.le_of_ble_eq_true rfl), (by exact Nat.le_of_ble_eq_true rfl)⟩ ?_
                refine kj_cast (ww' := (kx_W cA h0 q (P ++ [((q40, .inr (1, [.ref (v42.1), .long o38])) : Nat × va_E)]) (o3.2))) rfl ?_
                refine kj_iload F dX7_join_107 7 rfl ?_
                refine kn_cVi (As := [.ref q40, .int x4]) (rest := []) F hN dX7_join_109 (dc_put h) (cwV 2 F.2.2.2.2.1 gX7_join_X7_put rfl rfl rfl (by decide +kernel) ⟨Nat.le_of_ble_eq_true rfl, Nat.le_of_ble_eq_true rfl⟩) 0 rfl rfl rfl rfl rfl (Nat.le_of_ble_eq_true rfl) ⟨(by exact Nat.le_of_ble_eq_true rfl), (by exact Nat.le_of_ble_eq_true rfl)⟩ (fun r44 u43 h => ?_)
                refine kj_cast (ww' := kx_W cA h0 q u43.2 u43.1) rfl ?_
                refine kn_widen (k := 1) (n := 2) (Nat.le_of_ble_eq_true rfl) (Nat.le_of_ble_eq_true rfl) ?_
                exact kn_iret (z := (((u43.1), (u43.2)) : kx_S × va_W)) F dX7_join_112 (Nat.le_of_ble_eq_true rfl) (Nat.le_of_ble_eq_true rfl) h
theorem dc_join {l : Launch} {D : va_G} {cA : Nat → ClassId} {h0 : Nat} {q : Nat → Nat} {P : va_W} {z : kx_S} {x1 : Int32} {x2 : Int32} {x3 : Int32} {x4 : Int32} {K : Int32 → kx_S → va_W → Prop} (h : vc_join cA x1 x2 x3 x4 z P K) : kn_Mi l yX7_join wsX7_join rm_X7_join D (kx_T cA) (kx_V cA h0 q) (kx_W cA h0 q P z) [.ref h0, .int x1, .int x2, .int x3, .int x4] (fun r u => K r u.1 u.2) :=
  fun sz => kn_start (by decide) rfl (Nat.le_of_ble_eq_true rfl) rfl fun p e s m args below meth c hsz F hN _ => ec_join F hN h
/-! X7_change -/
abbrev rm_X7_change : Room := { frames := 3, cells := 1, slots := 2, locals := 74 }
theorem in_X7_change_X1 : ∀ w ∈ u_ws RX1 TX1 2, w ∈ wsX7_change := by decide +kernel
def vc_change (cA : Nat → ClassId) (x1 : Int32) (x2 : Int32) (x3 : Int32) (x4 : Int32) (z : kx_S) (P : va_W) (K : Int32 → kx_S → va_W → Prop) : Prop :=
  ∃ o1, fc_heapAt P x1 z = some o1 ∧
  ((o1.1) = none →
  K ((-1000001) : Int32) (o1.2) P) ∧ (∀ a3, (o1.1) = some a3 →
  ∃ v5, kx_hp P a3 = some v5 ∧
  ∃ u6, kx_bx P (v5.1) = some u6 ∧
  ∃ o9, fx_hasCell u6.1 u6.2.1 u6.2.2 x2 x3 = some o9 ∧
  (o9 = 0 →
  K ((-1000001) : Int32) (o1.2) P) ∧ (¬ o9 = 0 →
  ∃ v11, kx_hp P a3 = some v11 ∧
  ∃ v12, kx_hp P a3 = some v12 ∧
  ∃ u13, kx_bx P (v11.1) = some u13 ∧
  ∃ o16, fx_changesAt u13.1 u13.2.1 u13.2.2 (v12.2) x2 x3 x4 = some o16 ∧
  (o16 = 0 →
  K ((-1000002) : Int32) (o1.2) P) ∧ (¬ o16 = 0 →
  ∃ o18, fx_cube x2 x3 = some o18 ∧
  ∀ q20, (∀ x ∈ P, x.1 ≠ q20) →
  ∃ v22, kx_hp (P ++ [((q20, .inr (1, [.null, .long 0])) : Nat × va_E)]) a3 = some v22 ∧
  (x4 = 0 →
  ∃ v23, kx_hp (P ++ [((q20, .inr (1, [.null, .long 0])) : Nat × va_E)]) a3 = some v23 ∧
  vc_put cA (some q20) x1 (o1.2) (P ++ [((q20, .inr (1, [.ref (v22.1), .long ((v23.2) - o18)])) : Nat × va_E)]) (fun r25 u24z u24p =>
  ∃ o26, fc_height u24p x1 x2 x3 u24z = some o26 ∧
  K (o26.1) (o26.2) u24p)) ∧ (¬ x4 = 0 →
  ∃ v29, kx_hp (P ++ [((q20, .inr (1, [.null, .long 0])) : Nat × va_E)]) a3 = some v29 ∧
  vc_put cA (some q20) x1 (o1.2) (P ++ [((q20, .inr (1, [.ref (v22.1), .long ((v29.2) + o18)])) : Nat × va_E)]) (fun r31 u30z u30p =>
  ∃ o32, fc_height u30p x1 x2 x3 u30z = some o32 ∧
  K (o32.1) (o32.2) u30p)))))
set_option maxRecDepth 20000 in
set_option maxHeartbeats 1000000 in
theorem ec_change {p : Program} {l : Launch} {e : Env} {s : State} {m : MethodId} {args : Array Value} {below : List Frame} {meth : Method} {c : Code} {A : Nat → Prop} {D : va_G} {cA : Nat → ClassId} {h0 : Nat} {q : Nat → Nat} {P : va_W} {z : kx_S} {x1 : Int32} {x2 : Int32} {x3 : Int32} {x4 : Int32} {K : Int32 → kx_S → va_W → Prop} (F : kj_Fx p s m args meth c cX7_change 8 wsX7_change RX7 (some .int) D (kx_T cA) A) (hN : kn_N s) (h : vc_change cA x1 x2 x3 x4 z P K) : kj_J p l e rm_X7_change s m args below meth c 0 0 (MQ below (kn_Qi D (kx_T cA) A (kx_V cA h0 q) (fun r u => K r u.1 u.2)) args s 1 2 A) 8 D A (kx_W cA h0 q P z) 0 [(0, .ref h0), (1, .int x1), (2, .int x2), (3, .int x3), (4, .int x4)] [] := by
  unfold vc_change at h
  refine kj_aload_n F dX7_change_0 0 rfl rfl ?_
  refine kj_iload_n F dX7_change_1 1 rfl rfl ?_
  obtain ⟨o1, h2, h⟩ := h
  refine kj_cVq (w := (kx_W cA h0 q P)) (As := [.int x1]) (rest := []) F dX7_change_2 (kw_h h2) (fun o h1 => cc_heapAt h1) (cwV 1 F.2.2.2.2.1 gX7_change_X7_heapAt rfl rfl rfl (by decide +kernel) ⟨Nat.le_of_ble_eq_true rfl, Nat.le_of_ble_eq_true rfl⟩) 0 rfl rfl rfl rfl rfl (Nat.le_of_ble_eq_true rfl) ⟨(by exact Nat.le_of_ble_eq_true rfl), (by exact Nat.le_of_ble_eq_true rfl)⟩ (kw_e ?_)
  refine kj_astoreq (i := 5) (v := (o1.1)) F dX7_change_5 (lv' := [(5, va_rf (o1.1)), (0, .ref h0), (1, .int x1), (2, .int x2), (3, .int x3), (4, .int x4)]) (by decide) rfl ?_
  refine kj_aloadq F dX7_change_7 0 rfl ?_
  refine kj_ifnull F dX7_change_9 (tgt := 25) (by decide) (fun e4 => ?_) (fun a3 e4 => ?_)
  · replace h := h.1 e4
    refine kj_ldc F dX7_change_25 (v := (-1000001)) (by decide +kernel) ?_
    exact kn_iret (z := (((o1.2), P) : kx_S × va_W)) F dX7_change_27 (Nat.le_of_ble_eq_true rfl) (Nat.le_of_ble_eq_true rfl) h
  · replace h := h.2 a3 e4
    refine kj_aloadq F dX7_change_12 0 rfl ?_
    refine kj_deref e4 ?_
    obtain ⟨v5, h38, h⟩ := h
    refine kx_gbox F dX7_change_14 in_X7_change_X1 (by decide +kernel) (kw_h h38) (kw_e ?_)
    refine kj_iload_n F dX7_change_17 3 rfl rfl ?_
    refine kj_iload_n F dX7_change_18 4 rfl rfl ?_
    obtain ⟨u6, hu7, h⟩ := h
    obtain ⟨iu8, hu7⟩ := kx_bx_at hu7
    obtain ⟨o9, h10, h⟩ := h
    refine kj_cVip (w := (kx_W cA h0 q P)) (As := [.int x2, .int x3]) (rest := []) F dX7_change_19 (kw_h h10) (fun o h1 => cx_hasCell (w := (kx_W cA h0 q P)) (kx_pool hu7) h1) (cwV 2 F.2.2.2.2.1 gX7_change_X0_hasCell rfl rfl rfl (by decide +kernel) ⟨Nat.le_of_ble_eq_true rfl, Nat.le_of_ble_eq_true rfl⟩) _ (kx_pool hu7) rfl rfl rfl rfl (Nat.le_of_ble_eq_true rfl) ⟨(by exact Nat.le_of_ble_eq_true rfl), (by exact Nat.le_of_ble_eq_true rfl)⟩ (kw_e ?_)
    refine kw_if_ne F dX7_change_22 (tgt := 28) (by decide) (fun hc => ?_) (fun hc => ?_)
    · replace h := h.1 hc
      refine kj_ldc F dX7_change_25 (v := (-1000001)) (by decide +kernel) ?_
      exact kn_iret (z := (((o1.2), P) : kx_S × va_W)) F dX7_change_27 (Nat.le_of_ble_eq_true rfl) (Nat.le_of_ble_eq_true rfl) h
    · replace h := h.2 hc
      refine kj_aloadq F dX7_change_28 0 rfl ?_
      refine kj_deref e4 ?_
      obtain ⟨v11, h37, h⟩ := h
      refine kx_gbox F dX7_change_30 in_X7_change_X1 (by decide +kernel) (kw_h h37) (kw_e ?_)
      refine kj_aloadq F dX7_change_33 0 rfl ?_
      refine kj_deref e4 ?_
      obtain ⟨v12, h36, h⟩ := h
      refine kx_gcubes F dX7_change_35 in_X7_change_X1 (by decide +kernel) (kw_h h36) (kw_e ?_)
      refine kj_iload_n F dX7_change_38 3 rfl rfl ?_
      refine kj_iload_n F dX7_change_39 4 rfl rfl ?_
      refine kj_iload F dX7_change_40 5 rfl ?_
      obtain ⟨u13, hu14, h⟩ := h
      obtain ⟨iu15, hu14⟩ := kx_bx_at hu14
      obtain ⟨o16, h17, h⟩ := h
      refine kj_cVip (w := (kx_W cA h0 q P)) (As := [.long (v12.2), .int x2, .int x3, .int x4]) (rest := []) F dX7_change_42 (kw_h h17) (fun o h1 => cx_changesAt (w := (kx_W cA h0 q P)) (kx_pool hu14) h1) (cwV 4 F.2.2.2.2.1 gX7_change_X0_changesAt rfl rfl rfl (by decide +kernel) ⟨Nat.le_of_ble_eq_true rfl, Nat.le_of_ble_eq_true rfl⟩) _ (kx_pool hu14) rfl rfl rfl rfl (Nat.le_of_ble_eq_true rfl) ⟨(by exact Nat.le_of_ble_eq_true rfl), (by exact Nat.le_of_ble_eq_true rfl)⟩ (kw_e ?_)
      refine kw_if_ne F dX7_change_45 (tgt := 51) (by decide) (fun hc => ?_) (fun hc => ?_)
      · replace h := h.1 hc
        refine kj_ldc F dX7_change_48 (v := (-1000002)) (by decide +kernel) ?_
        exact kn_iret (z := (((o1.2), P) : kx_S × va_W)) F dX7_change_50 (Nat.le_of_ble_eq_true rfl) (Nat.le_of_ble_eq_true rfl) h
      · replace h := h.2 hc
        refine kj_iload_n F dX7_change_51 3 rfl rfl ?_
        refine kj_iload_n F dX7_change_52 4 rfl rfl ?_
        obtain ⟨o18, h19, h⟩ := h
        refine kj_cSlp (w := (kx_W cA h0 q P)) (As := [.int x2, .int x3]) (rest := []) F dX7_change_53 (kw_h h19) (fun o h1 => cx_cube (w := (kx_W cA h0 q P)) h1) (va_cwS 2 F.2.2.2.2.1 gX7_change_X0_cube rfl rfl rfl (by decide +kernel) ⟨Nat.le_of_ble_eq_true rfl, Nat.le_of_ble_eq_true rfl⟩) rfl rfl (Nat.le_of_ble_eq_true rfl) ⟨(by exact Nat.le_of_ble_eq_true rfl), (by exact Nat.le_of_ble_eq_true rfl)⟩ (kw_e ?_)
        refine kj_lstore (i := 6) F dX7_change_56 (lv' := [(6, .long o18), (5, va_rf (o1.1)), (0, .ref h0), (1, .int x1), (2, .int x2), (3, .int x3), (4, .int x4)]) (by decide) (by simp [kj_cat]) ?_
        refine kj_aload_n F dX7_change_58 2 rfl rfl ?_
        refine kn_new (fs := [.null, .long 0]) F dX7_change_59 in_X7_change_X1 tyX1 tyX1_ok (by decide +kernel) (by decide +kernel) (by decide +kernel) (ci := 1) rfl (fun j hj => by rcases (show j = 0 ∨ j = 1 by omega) with rfl | rfl <;> rfl) (Nat.le_of_ble_eq_true rfl) (Nat.le_of_ble_eq_true rfl) (fun q20 hq21 => ?_)
        replace h := h q20 (fun x hx => hq21 x (kx_inP hx))
        refine kj_cast (ww' := (kx_W cA h0 q (P ++ [((q20, .inr (1, [.null, .long 0])) : Nat × va_E)]) (o1.2))) (by simp [kx_W]) ?_
        refine kj_dup F dX7_change_62 rfl ?_
        refine kj_aloadq F dX7_change_63 1 rfl ?_
        refine kj_deref e4 ?_
        obtain ⟨v22, h35, h⟩ := h
        refine kx_gbox F dX7_change_65 in_X7_change_X1 (by decide +kernel) (kw_h h35) (kw_e ?_)
        refine kj_iload F dX7_change_68 6 rfl ?_
        refine kw_if_eq F dX7_change_70 (tgt := 84) (by decide) (fun hc => ?_) (fun hc => ?_)
        · replace h := h.1 hc
          refine kj_aloadq F dX7_change_84 1 rfl ?_
          refine kj_deref e4 ?_
          obtain ⟨v23, h28, h⟩ := h
          refine kx_gcubes F dX7_change_86 in_X7_change_X1 (by decide +kernel) (kw_h h28) (kw_e ?_)
          refine kj_lload F dX7_change_89 0 rfl ?_
          refine kj_lsub F dX7_change_91 ?_
          refine kj_cast (ww' := (fun (v : Value × Int64) => kx_W cA h0 q (P ++ (([] : va_W) ++ (fun (v : Value × Int64) => ((q20, .inr (1, [v.1, .long v.2])) : Nat × va_E)) v :: [])) (o1.2)) (.null, 0)) rfl ?_
          refine kj_cIv (w := (fun (v : Value × Int64) => kx_W cA h0 q (P ++ (([] : va_W) ++ (fun (v : Value × Int64) => ((q20, .inr (1, [v.1, .long v.2])) : Nat × va_E)) v :: [])) (o1.2))) (z := (.null, 0)) (o := (.ref (v22.1), ((v23.2) - o18))) (As := [.ref (v22.1), .long ((v23.2) - o18)]) (rest := [.ref q20, .ref h0]) F dX7_change_92 (ch_init (kx_lensP cA h0 q (o1.2) P [] [] (fun (v : Value × Int64) => ((q20, .inr (1, [v.1, .long v.2])) : Nat × va_E))).1 (kx_lensP cA h0 q (o1.2) P [] [] (fun (v : Value × Int64) => ((q20, .inr (1, [v.1, .long v.2])) : Nat × va_E))).2) (cwI 2 F.2.2.2.2.1 gX7_change_X1_init rfl rfl rfl (F.2.2.2.2.1 _ (by decide +kernel)) (F.2.2.2.2.1 _ (by decide +kernel)) (F.2.2.2.2.1 _ (by decide +kernel)) rfl (by decide +kernel) ⟨Nat.le_of_ble_eq_true rfl, Nat.le_of_ble_eq_true rfl⟩) rfl rfl (Nat.le_of_ble_eq_true rfl) ⟨(by exact Nat.le_of_ble_eq_true rfl), (by exact Nat.le_of_ble_eq_true rfl)⟩ ?_
          refine kj_cast (ww' := (kx_W cA h0 q (P ++ [((q20, .inr (1, [.ref (v22.1), .long ((v23.2) - o18)])) : Nat × va_E)]) (o1.2))) rfl ?_
          refine kj_iload_n F dX7_change_95 3 rfl rfl ?_
          refine kn_cVi (As := [.ref q20, .int x1]) (rest := []) F hN dX7_change_96 (dc_put h) (cwV 2 F.2.2.2.2.1 gX7_change_X7_put rfl rfl rfl (by decide +kernel) ⟨Nat.le_of_ble_eq_true rfl, Nat.le_of_ble_eq_true rfl⟩) 0 rfl rfl rfl rfl rfl (Nat.le_of_ble_eq_true rfl) ⟨(by exact Nat.le_of_ble_eq_true rfl), (by exact Nat.le_of_ble_eq_true rfl)⟩ (fun r25 u24 h => ?_)
          refine kj_cast (ww' := kx_W cA h0 q u24.2 u24.1) rfl ?_
          refine kn_widen (k := 1) (n := 2) (Nat.le_of_ble_eq_true rfl) (Nat.le_of_ble_eq_true rfl) ?_
          refine kj_pop F dX7_change_99 rfl ?_
          refine kj_aload_n F dX7_change_100 2 rfl rfl ?_
          refine kj_iload_n F dX7_change_101 3 rfl rfl ?_
          refine kj_iload_n F dX7_change_102 4 rfl rfl ?_
          refine kj_iload_n F dX7_change_103 5 rfl rfl ?_
          obtain ⟨o26, h27, h⟩ := h
          refine kj_cVi (w := (kx_W cA h0 q (u24.2))) (As := [.int x1, .int x2, .int x3]) (rest := []) F dX7_change_104 (kw_h h27) (fun o h1 => cc_height h1) (cwV 3 F.2.2.2.2.1 gX7_change_X7_height rfl rfl rfl (by decide +kernel) ⟨Nat.le_of_ble_eq_true rfl, Nat.le_of_ble_eq_true rfl⟩) 0 rfl rfl rfl rfl rfl (Nat.le_of_ble_eq_true rfl) ⟨(by exact Nat.le_of_ble_eq_true rfl), (by exact Nat.le_of_ble_eq_true rfl)⟩ (kw_e ?_)
          exact kn_iret (z := (((o26.2), (u24.2)) : kx_S × va_W)) F dX7_change_107 (Nat.le_of_ble_eq_true rfl) (Nat.le_of_ble_eq_true rfl) h
        · replace h := h.2 hc
          refine kj_aloadq F dX7_change_73 1 rfl ?_
          refine kj_deref e4 ?_
          obtain ⟨v29, h34, h⟩ := h
          refine kx_gcubes F dX7_change_75 in_X7_change_X1 (by decide +kernel) (kw_h h34) (kw_e ?_)
          refine kj_lload F dX7_change_78 0 rfl ?_
          refine kj_ladd F dX7_change_80 ?_
          refine kj_goto F dX7_change_81 (tgt := 92) (by decide) ?_
          refine kj_cast (ww' := (fun (v : Value × Int64) => kx_W cA h0 q (P ++ (([] : va_W) ++ (fun (v : Value × Int64) => ((q20, .inr (1, [v.1, .long v.2])) : Nat × va_E)) v :: [])) (o1.2)) (.null, 0)) rfl ?_
          refine kj_cIv (w := (fun (v : Value × Int64) => kx_W cA h0 q (P ++ (([] : va_W) ++ (fun (v : Value × Int64) => ((q20, .inr (1, [v.1, .long v.2])) : Nat × va_E)) v :: [])) (o1.2))) (z := (.null, 0)) (o := (.ref (v22.1), ((v29.2) + o18))) (As := [.ref (v22.1), .long ((v29.2) + o18)]) (rest := [.ref q20, .ref h0]) F dX7_change_92 (ch_init (kx_lensP cA h0 q (o1.2) P [] [] (fun (v : Value × Int64) => ((q20, .inr (1, [v.1, .long v.2])) : Nat × va_E))).1 (kx_lensP cA h0 q (o1.2) P [] [] (fun (v : Value × Int64) => ((q20, .inr (1, [v.1, .long v.2])) : Nat × va_E))).2) (cwI 2 F.2.2.2.2.1 gX7_change_X1_init rfl rfl rfl (F.2.2.2.2.1 _ (by decide +kernel)) (F.2.2.2.2.1 _ (by decide +kernel)) (F.2.2.2.2.1 _ (by decide +kernel)) rfl (by decide +kernel) ⟨Nat.le_of_ble_eq_true rfl, Nat.le_of_ble_eq_true rfl⟩) rfl rfl (Nat.le_of_ble_eq_true rfl) ⟨(by exact Nat.le_of_ble_eq_true rfl), (by exact Nat.le_of_ble_eq_true rfl)⟩ ?_
          refine kj_cast (ww' := (kx_W cA h0 q (P ++ [((q20, .inr (1, [.ref (v22.1), .long ((v29.2) + o18)])) : Nat × va_E)]) (o1.2))) rfl ?_
          refine kj_iload_n F dX7_change_95 3 rfl rfl ?_
          refine kn_cVi (As := [.ref q20, .int x1]) (rest := []) F hN dX7_change_96 (dc_put h) (cwV 2 F.2.2.2.2.1 gX7_change_X7_put rfl rfl rfl (by decide +kernel) ⟨Nat.le_of_ble_eq_true rfl, Nat.le_of_ble_eq_true rfl⟩) 0 rfl rfl rfl rfl rfl (Nat.le_of_ble_eq_true rfl) ⟨(by exact Nat.le_of_ble_eq_true rfl), (by exact Nat.le_of_ble_eq_true rfl)⟩ (fun r31 u30 h => ?_)
          refine kj_cast (ww' := kx_W cA h0 q u30.2 u30.1) rfl ?_
          refine kn_widen (k := 1) (n := 2) (Nat.le_of_ble_eq_true rfl) (Nat.le_of_ble_eq_true rfl) ?_
          refine kj_pop F dX7_change_99 rfl ?_
          refine kj_aload_n F dX7_change_100 2 rfl rfl ?_
          refine kj_iload_n F dX7_change_101 3 rfl rfl ?_
          refine kj_iload_n F dX7_change_102 4 rfl rfl ?_
          refine kj_iload_n F dX7_change_103 5 rfl rfl ?_
          obtain ⟨o32, h33, h⟩ := h
          refine kj_cVi (w := (kx_W cA h0 q (u30.2))) (As := [.int x1, .int x2, .int x3]) (rest := []) F dX7_change_104 (kw_h h33) (fun o h1 => cc_height h1) (cwV 3 F.2.2.2.2.1 gX7_change_X7_height rfl rfl rfl (by decide +kernel) ⟨Nat.le_of_ble_eq_true rfl, Nat.le_of_ble_eq_true rfl⟩) 0 rfl rfl rfl rfl rfl (Nat.le_of_ble_eq_true rfl) ⟨(by exact Nat.le_of_ble_eq_true rfl), (by exact Nat.le_of_ble_eq_true rfl)⟩ (kw_e ?_)
          exact kn_iret (z := (((o32.2), (u30.2)) : kx_S × va_W)) F dX7_change_107 (Nat.le_of_ble_eq_true rfl) (Nat.le_of_ble_eq_true rfl) h
theorem dc_change {l : Launch} {D : va_G} {cA : Nat → ClassId} {h0 : Nat} {q : Nat → Nat} {P : va_W} {z : kx_S} {x1 : Int32} {x2 : Int32} {x3 : Int32} {x4 : Int32} {K : Int32 → kx_S → va_W → Prop} (h : vc_change cA x1 x2 x3 x4 z P K) : kn_Mi l yX7_change wsX7_change rm_X7_change D (kx_T cA) (kx_V cA h0 q) (kx_W cA h0 q P z) [.ref h0, .int x1, .int x2, .int x3, .int x4] (fun r u => K r u.1 u.2) :=
  fun sz => kn_start (by decide) rfl (Nat.le_of_ble_eq_true rfl) rfl fun p e s m args below meth c hsz F hN _ => ec_change F hN h
/-! X7_lay -/
abbrev rm_X7_lay : Room := { frames := 4, cells := 1, slots := 2, locals := 101 }
def vc_lay (cA : Nat → ClassId) (x1 : Int32) (x2 : Int32) (x3 : Int32) (z : kx_S) (P : va_W) (K : Int32 → kx_S → va_W → Prop) : Prop :=
  vc_change cA x1 x2 x3 (1 : Int32) z P (fun r2 u1z u1p =>
  K r2 u1z u1p)
set_option maxRecDepth 20000 in
set_option maxHeartbeats 1000000 in
theorem ec_lay {p : Program} {l : Launch} {e : Env} {s : State} {m : MethodId} {args : Array Value} {below : List Frame} {meth : Method} {c : Code} {A : Nat → Prop} {D : va_G} {cA : Nat → ClassId} {h0 : Nat} {q : Nat → Nat} {P : va_W} {z : kx_S} {x1 : Int32} {x2 : Int32} {x3 : Int32} {K : Int32 → kx_S → va_W → Prop} (F : kj_Fx p s m args meth c cX7_lay 4 wsX7_lay RX7 (some .int) D (kx_T cA) A) (hN : kn_N s) (h : vc_lay cA x1 x2 x3 z P K) : kj_J p l e rm_X7_lay s m args below meth c 0 0 (MQ below (kn_Qi D (kx_T cA) A (kx_V cA h0 q) (fun r u => K r u.1 u.2)) args s 1 2 A) 4 D A (kx_W cA h0 q P z) 0 [(0, .ref h0), (1, .int x1), (2, .int x2), (3, .int x3)] [] := by
  unfold vc_lay at h
  refine kj_aload_n F dX7_lay_0 0 rfl rfl ?_
  refine kj_iload_n F dX7_lay_1 1 rfl rfl ?_
  refine kj_iload_n F dX7_lay_2 2 rfl rfl ?_
  refine kj_iload_n F dX7_lay_3 3 rfl rfl ?_
  refine kj_iconst F dX7_lay_4 (v := 1) (by decide) ?_
  refine kn_cVi (As := [.int x1, .int x2, .int x3, .int (1 : Int32)]) (rest := []) F hN dX7_lay_5 (dc_change h) (cwV 4 F.2.2.2.2.1 gX7_lay_X7_change rfl rfl rfl (by decide +kernel) ⟨Nat.le_of_ble_eq_true rfl, Nat.le_of_ble_eq_true rfl⟩) 0 rfl rfl rfl rfl rfl (Nat.le_of_ble_eq_true rfl) ⟨(by exact Nat.le_of_ble_eq_true rfl), (by exact Nat.le_of_ble_eq_true rfl)⟩ (fun r2 u1 h => ?_)
  refine kj_cast (ww' := kx_W cA h0 q u1.2 u1.1) rfl ?_
  refine kn_widen (k := 1) (n := 2) (Nat.le_of_ble_eq_true rfl) (Nat.le_of_ble_eq_true rfl) ?_
  exact kn_iret (z := (((u1.1), (u1.2)) : kx_S × va_W)) F dX7_lay_8 (Nat.le_of_ble_eq_true rfl) (Nat.le_of_ble_eq_true rfl) h
theorem dc_lay {l : Launch} {D : va_G} {cA : Nat → ClassId} {h0 : Nat} {q : Nat → Nat} {P : va_W} {z : kx_S} {x1 : Int32} {x2 : Int32} {x3 : Int32} {K : Int32 → kx_S → va_W → Prop} (h : vc_lay cA x1 x2 x3 z P K) : kn_Mi l yX7_lay wsX7_lay rm_X7_lay D (kx_T cA) (kx_V cA h0 q) (kx_W cA h0 q P z) [.ref h0, .int x1, .int x2, .int x3] (fun r u => K r u.1 u.2) :=
  fun sz => kn_start (by decide) rfl (Nat.le_of_ble_eq_true rfl) rfl fun p e s m args below meth c hsz F hN _ => ec_lay F hN h
/-! X7_off -/
abbrev rm_X7_off : Room := { frames := 4, cells := 1, slots := 2, locals := 101 }
def vc_off (cA : Nat → ClassId) (x1 : Int32) (x2 : Int32) (x3 : Int32) (z : kx_S) (P : va_W) (K : Int32 → kx_S → va_W → Prop) : Prop :=
  vc_change cA x1 x2 x3 (0 : Int32) z P (fun r2 u1z u1p =>
  K r2 u1z u1p)
set_option maxRecDepth 20000 in
set_option maxHeartbeats 1000000 in
theorem ec_off {p : Program} {l : Launch} {e : Env} {s : State} {m : MethodId} {args : Array Value} {below : List Frame} {meth : Method} {c : Code} {A : Nat → Prop} {D : va_G} {cA : Nat → ClassId} {h0 : Nat} {q : Nat → Nat} {P : va_W} {z : kx_S} {x1 : Int32} {x2 : Int32} {x3 : Int32} {K : Int32 → kx_S → va_W → Prop} (F : kj_Fx p s m args meth c cX7_off 4 wsX7_off RX7 (some .int) D (kx_T cA) A) (hN : kn_N s) (h : vc_off cA x1 x2 x3 z P K) : kj_J p l e rm_X7_off s m args below meth c 0 0 (MQ below (kn_Qi D (kx_T cA) A (kx_V cA h0 q) (fun r u => K r u.1 u.2)) args s 1 2 A) 4 D A (kx_W cA h0 q P z) 0 [(0, .ref h0), (1, .int x1), (2, .int x2), (3, .int x3)] [] := by
  unfold vc_off at h
  refine kj_aload_n F dX7_off_0 0 rfl rfl ?_
  refine kj_iload_n F dX7_off_1 1 rfl rfl ?_
  refine kj_iload_n F dX7_off_2 2 rfl rfl ?_
  refine kj_iload_n F dX7_off_3 3 rfl rfl ?_
  refine kj_iconst F dX7_off_4 (v := 0) (by decide) ?_
  refine kn_cVi (As := [.int x1, .int x2, .int x3, .int (0 : Int32)]) (rest := []) F hN dX7_off_5 (dc_change h) (cwV 4 F.2.2.2.2.1 gX7_off_X7_change rfl rfl rfl (by decide +kernel) ⟨Nat.le_of_ble_eq_true rfl, Nat.le_of_ble_eq_true rfl⟩) 0 rfl rfl rfl rfl rfl (Nat.le_of_ble_eq_true rfl) ⟨(by exact Nat.le_of_ble_eq_true rfl), (by exact Nat.le_of_ble_eq_true rfl)⟩ (fun r2 u1 h => ?_)
  refine kj_cast (ww' := kx_W cA h0 q u1.2 u1.1) rfl ?_
  refine kn_widen (k := 1) (n := 2) (Nat.le_of_ble_eq_true rfl) (Nat.le_of_ble_eq_true rfl) ?_
  exact kn_iret (z := (((u1.1), (u1.2)) : kx_S × va_W)) F dX7_off_8 (Nat.le_of_ble_eq_true rfl) (Nat.le_of_ble_eq_true rfl) h
theorem dc_off {l : Launch} {D : va_G} {cA : Nat → ClassId} {h0 : Nat} {q : Nat → Nat} {P : va_W} {z : kx_S} {x1 : Int32} {x2 : Int32} {x3 : Int32} {K : Int32 → kx_S → va_W → Prop} (h : vc_off cA x1 x2 x3 z P K) : kn_Mi l yX7_off wsX7_off rm_X7_off D (kx_T cA) (kx_V cA h0 q) (kx_W cA h0 q P z) [.ref h0, .int x1, .int x2, .int x3] (fun r u => K r u.1 u.2) :=
  fun sz => kn_start (by decide) rfl (Nat.le_of_ble_eq_true rfl) rfl fun p e s m args below meth c hsz F hN _ => ec_off F hN h
