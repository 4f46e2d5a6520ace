/-- one turn of the loop of Rows(b, c): row[k], and the next heap -/
def sr_init (n : Nat) (x1 x2 x3 : Int32) (s : Int64 × Int32 × kr_S) : Option ((Int64 × Int32 × kr_S) ⊕ kr_S) :=
  if x3 ≤ s.2.1 then some (.inr s.2.2) else
  (fx_rowIn s.1 0).bind fun v =>
  (kr_wd n s.2.2 s.2.1 v).bind fun r1 =>
  (fx_following 1 x1 x2 s.1).bind fun c1 =>
  some (.inl (c1, s.2.1 + 1, r1))
def kr_0 : kr_S := (fun _ => 0, fun _ _ => 0, fun _ _ => 0)
def fr_init (x1 x2 : Int32) : Option (Nat × kr_S) :=
  (fc_choose (x1 + x2) x1).bind fun x3 =>
  if x3 < 0 ∨ 70 < x3.toNatClampNeg then none else
  (kj_it (sr_init x3.toNatClampNeg x1 x2 x3) 5000 (0, 0, kr_0)).bind fun r1 =>
  (fr_countUnder x3.toNatClampNeg r1).bind fun r2 => some (x3.toNatClampNeg, r2)
abbrev rm_X4_init : Room := { frames := 3, cells := 10, slots := 568, locals := 75 }
theorem in_X4_init_X4 : ∀ w ∈ u_ws RX4 TX4 4, w ∈ wsX4_init := by decide +kernel
theorem in_X4_init_X0 : ∀ w ∈ u_ws RX0 TX0 3, w ∈ wsX4_init := by decide +kernel
def kr_q (q0 q1 : Nat) (r : Nat → Nat) (q7 q8 : Nat) : Nat → Nat := fun k => if k = 0 then q0 else if k = 1 then q1 else if k < 7 then r (k - 2) else if k = 7 then q7 else q8
theorem kr_q_outer (q0 q1 : Nat) (r : Nat → Nat) (q7 q8 : Nat) : (fun i => if i < 5 then some (r i) else none) = (fun i => if i < 5 then some (kr_q q0 q1 r q7 q8 (i + 2)) else none) := by
  funext i
  by_cases h : i < 5
  · rw [if_pos h, if_pos h]
    have e : kr_q q0 q1 r q7 q8 (i + 2) = r i := by
      unfold kr_q
      rw [if_neg (by omega), if_neg (by omega), if_pos (by omega)]
      rfl
    rw [e]
  · rw [if_neg h, if_neg h]
theorem kr_o1 {X L : va_W} {x : Nat × va_E} : (X ++ x :: L)[X.length]? = some x := by simp
theorem kr_o2 {X L : va_W} {x x' : Nat × va_E} : (X ++ x :: L).set X.length x' = X ++ x' :: L := by simp
theorem kr_o3 {X L : va_W} {x y : Nat × va_E} : (X ++ x :: L) ++ [y] = X ++ x :: (L ++ [y]) := by simp
theorem kr_o4 {X L M : va_W} {x : Nat × va_E} : (X ++ x :: L) ++ M = X ++ x :: (L ++ M) := by simp
theorem kr_bxat {cA : Nat → ClassId} {a0 n : Nat} {q : Nat → Nat} {X : va_W} {r : kr_S} {y : Nat × va_E} : (kr_W cA a0 q n X [y] r)[X.length + 10]? = some y := by
  unfold kr_W
  rw [List.getElem?_append_right (Nat.le_add_right _ _), Nat.add_sub_cancel_left, List.getElem?_append_right (by show 10 ≤ 10; omega)]
  rfl
set_option maxRecDepth 20000 in
theorem jr_initL {p : Program} {l : Launch} {e : Env} {s : State} {m : MethodId} {args : Array Value} {below : List Frame} {meth : Method} {c : Code} {A : Nat → Prop} {D : va_G} {cA : Nat → ClassId} {a0 n bx : Nat} {q : Nat → Nat} {X : va_W} {cells slots : Nat} (hf : cells ≤ 10 ∧ slots ≤ 568) {Q : State → Prop} (F : kj_Fx p s m args meth c cX4_init 8 wsX4_init RX4 none D (kx_T cA) A) {x1 x2 x3 : Int32} {u : Int64 × Int32 × kr_S} {o : (Int64 × Int32 × kr_S) ⊕ kr_S} (h : sr_init n x1 x2 x3 u = some o)
    (kb : ∀ u', o = .inl u' → kj_J p l e rm_X4_init s m args below meth c cells slots Q 8 D A (kr_W cA a0 q n X [(bx, .inr (0, [.int 1, .int x1, .int x2]))] u'.2.2) 61 [(0, .ref a0), (3, .int x3), (4, .ref bx), (5, .long u'.1), (7, .int u'.2.1)] [])
    (ke : ∀ r, o = .inr r → kj_J p l e rm_X4_init s m args below meth c cells slots Q 8 D A (kr_W cA a0 q n X [(bx, .inr (0, [.int 1, .int x1, .int x2]))] r) 95 [(0, .ref a0)] []) :
    kj_J p l e rm_X4_init s m args below meth c cells slots Q 8 D A (kr_W cA a0 q n X [(bx, .inr (0, [.int 1, .int x1, .int x2]))] u.2.2) 61 [(0, .ref a0), (3, .int x3), (4, .ref bx), (5, .long u.1), (7, .int u.2.1)] [] := by
  obtain ⟨c0, k0, r0⟩ := u
  unfold sr_init at h
  dsimp only at h ⊢
  refine kj_iload F dX4_init_61 4 rfl ?_
  refine kj_iload_n F dX4_init_63 1 rfl rfl ?_
  refine kj_icmp_ge F dX4_init_64 (tgt := 95) (by decide) h (fun hc h => ?_) (fun hc h => ?_)
  · refine kj_J.sub [0] rfl ?_
    exact ke r0 (Option.some.inj h).symm
  · refine kj_aload_n F dX4_init_67 0 rfl rfl ?_
    refine kr_get F dX4_init_68 in_X4_init_X4 0 (by decide) (by decide +kernel) rfl rfl ?_
    refine kj_iload F dX4_init_71 4 rfl ?_
    refine kj_lload F dX4_init_73 3 rfl ?_
    refine kj_iconst F dX4_init_75 (v := 0) (by decide) ?_
    refine kj_cSip (w := kr_W cA a0 q n X [(bx, .inr (0, [.int 1, .int x1, .int x2]))]) (As := [.long c0, .int 0]) (rest := [.int k0, .ref (q 0)]) F dX4_init_76 h (fun o h1 => cx_rowIn (w := kr_W cA a0 q n X [(bx, .inr (0, [.int 1, .int x1, .int x2]))]) h1) (va_cwS 2 F.2.2.2.2.1 gX4_init_X0_rowIn rfl rfl rfl (by decide +kernel) ⟨Nat.le_of_ble_eq_true rfl, Nat.le_of_ble_eq_true rfl⟩) rfl rfl (Nat.le_of_ble_eq_true rfl) hf (fun v h => ?_)
    refine kr_rast F dX4_init_79 h (fun r1 h => ?_)
    refine kj_aload F dX4_init_80 2 rfl ?_
    refine kj_lload F dX4_init_82 3 rfl ?_
    refine kj_cVlp (w := kr_W cA a0 q n X [(bx, .inr (0, [.int 1, .int x1, .int x2]))]) (As := [.long c0]) (rest := []) F dX4_init_84 h (fun o h1 => cx_following (w := kr_W cA a0 q n X [(bx, .inr (0, [.int 1, .int x1, .int x2]))]) kr_bxat h1) (cwV 1 F.2.2.2.2.1 gX4_init_X0_following rfl rfl rfl (by decide +kernel) ⟨Nat.le_of_ble_eq_true rfl, Nat.le_of_ble_eq_true rfl⟩) _ kr_bxat rfl rfl rfl rfl (Nat.le_of_ble_eq_true rfl) hf (fun c1 h => ?_)
    refine kj_lstore F dX4_init_87 (lv' := [(5, .long c1), (0, .ref a0), (3, .int x3), (4, .ref bx), (7, .int k0)]) (by decide) rfl ?_
    refine kj_iinc F dX4_init_89 4 rfl (v := 1) (by decide) (by decide) (lv' := [(7, .int (k0 + 1)), (5, .long c1), (0, .ref a0), (3, .int x3), (4, .ref bx)]) rfl ?_
    refine kj_goto F dX4_init_92 (tgt := 61) (by decide) ?_
    refine kj_J.sub [2, 3, 4, 1, 0] rfl ?_
    exact kb (c1, k0 + 1, r1) (Option.some.inj h).symm
set_option maxRecDepth 20000 in
set_option maxHeartbeats 1000000 in
/-- Rows(b, c): ten cells and a box; what they hold is fr_init's -/
theorem dr_init {l : Launch} {D : va_G} {cA : Nat → ClassId} {a0 : Nat} {X : va_W} {x1 x2 : Int32} {o : Nat × kr_S} (h : fr_init x1 x2 = some o) : kn_Mv l yX4_init wsX4_init rm_X4_init D (kx_T cA) (fun (u : (Nat → Nat) × Nat) => X ++ (kr_w cA a0 u.1 o.1 o.2 ++ [(u.2, .inr (0, [.int 1, .int x1, .int x2]))])) (X ++ [(a0, .inr (4, [.null, .null, .null, .null]))]) [.ref a0, .int x1, .int x2] (fun _ => True) :=
  fun sz => kn_start (by decide) rfl (Nat.le_of_ble_eq_true rfl) rfl fun p e s m args below meth c hsz F hN hi => by
    unfold fr_init at h
    refine kj_aload_n F dX4_init_0 0 rfl rfl ?_
    refine kn_objInit F dX4_init_1 (by decide +kernel) (by decide +kernel) (by decide +kernel) (Nat.le_of_ble_eq_true rfl) (Nat.le_of_ble_eq_true rfl) (Nat.le_of_ble_eq_true rfl) ?_
    refine kj_iload_n F dX4_init_4 1 rfl rfl ?_
    refine kj_iload_n F dX4_init_5 2 rfl rfl ?_
    refine kj_iadd F dX4_init_6 ?_
    refine kj_iload_n F dX4_init_7 1 rfl rfl ?_
    refine kj_bn h (fun x3 h1 h => ?_)
    refine kj_cSNip (w := fun (_ : Unit) => X ++ [((a0, .inr (4, [.null, .null, .null, .null])) : Nat × va_E)]) (z := ()) (As := [.int (x1 + x2), .int x1]) (rest := []) F dX4_init_8 (cc_choose (w := fun (_ : Unit) => X ++ [((a0, .inr (4, [.null, .null, .null, .null])) : Nat × va_E)]) h1) ⟨va_cnB 2 F.2.2.2.2.1 gX4_init_X7_choose_n9 rfl rfl rfl hN.2.2.2.2.2.2.1 (F.2.2.2.2.1 _ (by decide +kernel)) (by decide +kernel) ⟨Nat.le_of_ble_eq_true rfl, Nat.le_of_ble_eq_true rfl⟩, F.2.2.2.2.1 _ (by decide +kernel)⟩ rfl rfl (Nat.le_of_ble_eq_true rfl) ⟨Nat.zero_le _, Nat.zero_le _⟩ ?_
    refine kj_istore_n F dX4_init_11 (lv' := [(3, .int x3), (0, .ref a0), (1, .int x1), (2, .int x2)]) rfl (by decide) rfl ?_
    refine kj_ifn h (fun hx3 h => ?_)
    have hneg : ¬ x3 < 0 := fun q => hx3 (Or.inl q)
    have hle : x3.toNatClampNeg ≤ 70 := Nat.not_lt.mp fun q => hx3 (Or.inr q)
    generalize hn : x3.toNatClampNeg = n at h hle
    refine kj_aload_n F dX4_init_12 1 rfl rfl ?_
    refine kj_iload_n F dX4_init_13 0 rfl rfl ?_
    refine kn_newaI F dX4_init_14 (by decide +kernel) 0 rfl hneg hn (by omega) (Nat.le_of_ble_eq_true rfl) (by show 0 + n ≤ 568; omega) (fun q0 _ => ?_)
    refine kj_cast (ww' := X ++ (a0, .inr (4, [.null, .null, .null, .null])) :: [(q0, .inl (cA 0, n, .inl (fun _ => 0)))]) kr_o3 ?_
    refine kj_putF (ty := .array .int) (v := .ref q0) (ww' := X ++ (a0, .inr (4, [.ref q0, .null, .null, .null])) :: [(q0, .inl (cA 0, n, .inl (fun _ => 0)))]) F dX4_init_16 in_X4_init_X4 tyX4 tyX4_ok nmX4 hi X.length kr_o1 rfl 0 (by decide) (by decide +kernel) rfl rfl rfl (by decide +kernel) rfl rfl (Nat.le_of_ble_eq_true rfl) kr_o2 ?_
    refine kj_aload_n F dX4_init_19 1 rfl rfl ?_
    refine kj_iconst F dX4_init_20 (v := 5) (by decide) ?_
    refine kj_iload_n F dX4_init_21 0 rfl rfl ?_
    refine kn_mna F hN.2.2.2.2.2.2.2.2.2.1 dX4_init_22 (by decide +kernel) (by decide +kernel) 0 rfl 5 rfl hneg hn (by omega) (Nat.le_of_ble_eq_true rfl) (by show 0 + n + (5 + 5 * n) ≤ 568; omega) (fun q1 r => ?_)
    refine kj_cast (ww' := X ++ (a0, .inr (4, [.ref q0, .null, .null, .null])) :: [(q0, .inl (cA 0, n, .inl (fun _ => 0))), (q1, .inl (cA 5, 5, .inr (.inr (.inr (.inr (fun i => if i < 5 then some (r i) else none)))))), (r 0, .inl (cA 0, n, .inl (fun _ => 0))), (r 1, .inl (cA 0, n, .inl (fun _ => 0))), (r 2, .inl (cA 0, n, .inl (fun _ => 0))), (r 3, .inl (cA 0, n, .inl (fun _ => 0))), (r 4, .inl (cA 0, n, .inl (fun _ => 0)))]) kr_o4 ?_
    refine kj_putF (ty := .array (.array .int)) (v := .ref q1) (ww' := X ++ (a0, .inr (4, [.ref q0, .ref q1, .null, .null])) :: [(q0, .inl (cA 0, n, .inl (fun _ => 0))), (q1, .inl (cA 5, 5, .inr (.inr (.inr (.inr (fun i => if i < 5 then some (r i) else none)))))), (r 0, .inl (cA 0, n, .inl (fun _ => 0))), (r 1, .inl (cA 0, n, .inl (fun _ => 0))), (r 2, .inl (cA 0, n, .inl (fun _ => 0))), (r 3, .inl (cA 0, n, .inl (fun _ => 0))), (r 4, .inl (cA 0, n, .inl (fun _ => 0)))]) F dX4_init_26 in_X4_init_X4 tyX4 tyX4_ok nmX4 hi X.length kr_o1 rfl 1 (by decide) (by decide +kernel) rfl rfl rfl (by decide +kernel) rfl rfl (Nat.le_of_ble_eq_true rfl) kr_o2 ?_
    refine kj_aload_n F dX4_init_29 1 rfl rfl ?_
    refine kj_iload_n F dX4_init_30 0 rfl rfl ?_
    refine kn_newaL F dX4_init_31 (by decide +kernel) 1 rfl hneg hn (by omega) (Nat.le_of_ble_eq_true rfl) (by show 0 + n + (5 + 5 * n) + n ≤ 568; omega) (fun q7 _ => ?_)
    refine kj_cast kr_o3 ?_
    refine kj_putF (ty := .array .long) (v := .ref q7) F dX4_init_33 in_X4_init_X4 tyX4 tyX4_ok nmX4 hi X.length kr_o1 rfl 2 (by decide) (by decide +kernel) rfl rfl rfl (by decide +kernel) rfl rfl (Nat.le_of_ble_eq_true rfl) kr_o2 ?_
    refine kj_aload_n F dX4_init_36 1 rfl rfl ?_
    refine kj_iload_n F dX4_init_37 0 rfl rfl ?_
    refine kn_newaL F dX4_init_38 (by decide +kernel) 1 rfl hneg hn (by omega) (Nat.le_of_ble_eq_true rfl) (by show 0 + n + (5 + 5 * n) + n + n ≤ 568; omega) (fun q8 _ => ?_)
    refine kj_cast kr_o3 ?_
    refine kj_putF (ty := .array .long) (v := .ref q8) F dX4_init_40 in_X4_init_X4 tyX4 tyX4_ok nmX4 hi X.length kr_o1 rfl 3 (by decide) (by decide +kernel) rfl rfl rfl (by decide +kernel) rfl rfl (Nat.le_of_ble_eq_true rfl) kr_o2 ?_
    refine kn_new (fs := [.int 0, .int 0, .int 0]) F dX4_init_43 in_X4_init_X0 tyX0 tyX0_ok (by decide +kernel) (by decide +kernel) (by decide +kernel) (ci := 0) rfl (fun j hj => by rcases (show j = 0 ∨ j = 1 ∨ j = 2 by omega) with rfl | rfl | rfl <;> rfl) (Nat.le_of_ble_eq_true rfl) (by show 0 + n + (5 + 5 * n) + n + n + 3 ≤ 568; omega) (fun bx _ => ?_)
    refine kn_widen (k := 10) (n := 568) (Nat.le_of_ble_eq_true rfl) (by show 0 + n + (5 + 5 * n) + n + n + 3 ≤ 568; omega) ?_
    refine kj_dup F dX4_init_46 rfl ?_
    refine kj_iconst F dX4_init_47 (v := 1) (by decide) ?_
    refine kj_iload_n F dX4_init_48 2 rfl rfl ?_
    refine kj_iload_n F dX4_init_49 3 rfl rfl ?_
    refine kj_cast (ww' := (fun (v : Int32 × Int32 × Int32) => kr_W cA a0 (kr_q q0 q1 r q7 q8) n X [(bx, .inr (0, [.int v.1, .int v.2.1, .int v.2.2]))] kr_0) (0, 0, 0)) (by
      rw [kr_q_outer q0 q1 r q7 q8]
      rw [kr_o3]
      rfl) ?_
    refine kj_cINv (w := fun (v : Int32 × Int32 × Int32) => kr_W cA a0 (kr_q q0 q1 r q7 q8) n X [(bx, .inr (0, [.int v.1, .int v.2.1, .int v.2.2]))] kr_0) (z := (0, 0, 0)) (o := (1, x1, x2)) (As := [.int 1, .int x1, .int x2]) (rest := [.ref bx]) F dX4_init_50 (cx_init (fun _ => kr_bxat) (fun v v' => by unfold kr_W; rw [List.set_append_right _ _ (Nat.le_add_right _ _), Nat.add_sub_cancel_left]; rfl)) ⟨va_cnB 3 F.2.2.2.2.1 gX4_init_X0_init_n33 rfl rfl rfl hN.2.2.2.2.2.2.2.1 (F.2.2.2.2.1 _ (by decide +kernel)) (by decide +kernel) ⟨Nat.le_of_ble_eq_true rfl, Nat.le_of_ble_eq_true rfl⟩, rfl, F.2.2.2.2.1 _ (by decide +kernel)⟩ rfl rfl (Nat.le_of_ble_eq_true rfl) ⟨Nat.le_of_ble_eq_true rfl, Nat.le_of_ble_eq_true rfl⟩ ?_
    refine kj_cast (ww' := kr_W cA a0 (kr_q q0 q1 r q7 q8) n X [(bx, .inr (0, [.int 1, .int x1, .int x2]))] kr_0) rfl ?_
    refine kj_astore F dX4_init_53 (lv' := [(4, .ref bx), (3, .int x3), (0, .ref a0), (1, .int x1), (2, .int x2)]) (by decide) rfl ?_
    refine kj_lconst F dX4_init_55 (v := 0) (by decide) ?_
    refine kj_lstore F dX4_init_56 (lv' := [(5, .long 0), (4, .ref bx), (3, .int x3), (0, .ref a0), (1, .int x1), (2, .int x2)]) (by decide) rfl ?_
    refine kj_iconst F dX4_init_58 (v := 0) (by decide) ?_
    refine kj_istore F dX4_init_59 (lv' := [(7, .int 0), (5, .long 0), (4, .ref bx), (3, .int x3), (0, .ref a0), (1, .int x1), (2, .int x2)]) (by decide) rfl ?_
    refine kj_J.sub [4, 3, 2, 1, 0] rfl ?_
    refine kj_bn h (fun r1 h1 h => ?_)
    refine kj_it_J (Wh := fun (u : Int64 × Int32 × kr_S) => kj_J p l e rm_X4_init s m args below meth c 10 568 _ 8 D _ (kr_W cA a0 (kr_q q0 q1 r q7 q8) n X [(bx, .inr (0, [.int 1, .int x1, .int x2]))] u.2.2) 61 [(0, .ref a0), (3, .int x3), (4, .ref bx), (5, .long u.1), (7, .int u.2.1)] []) (We := fun (rz : kr_S) => kj_J p l e rm_X4_init s m args below meth c 10 568 _ 8 D _ (kr_W cA a0 (kr_q q0 q1 r q7 q8) n X [(bx, .inr (0, [.int 1, .int x1, .int x2]))] rz) 95 [(0, .ref a0)] []) (fun u o h kb ke => jr_initL ⟨Nat.le_refl _, Nat.le_refl _⟩ F h kb ke) 5000 (0, 0, kr_0) r1 h1 ?_
    refine kj_aload_n F dX4_init_95 0 rfl rfl ?_
    refine kj_cVv (w := kr_W cA a0 (kr_q q0 q1 r q7 q8) n X [(bx, .inr (0, [.int 1, .int x1, .int x2]))]) (As := []) (rest := []) F dX4_init_96 h (fun o h1 => cr_countUnder h1) (cwV 0 F.2.2.2.2.1 gX4_init_X4_countUnder rfl rfl rfl (by decide +kernel) ⟨Nat.le_of_ble_eq_true rfl, Nat.le_of_ble_eq_true rfl⟩) _ (kr_pos (j := 0) rfl) rfl rfl rfl rfl (Nat.le_of_ble_eq_true rfl) ⟨Nat.le_refl _, Nat.le_refl _⟩ (fun r2 h => ?_)
    cases h
    exact kn_vret (Post := fun _ => True) (w := fun (u : (Nat → Nat) × Nat) => X ++ (kr_w cA a0 u.1 n r2 ++ [(u.2, .inr (0, [.int 1, .int x1, .int x2]))])) (z := (kr_q q0 q1 r q7 q8, bx)) F dX4_init_99 (Nat.le_refl _) (Nat.le_refl _) trivial
