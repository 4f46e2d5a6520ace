/-! READING A HEAP: the class -/
def pu_tp (T : Nat → Nat) (n : Nat) (zx : kx_S) : Prop := n ≤ 60 ∧ zx.1 4 = nI n ∧ ∀ i, i < n → T i < 256 ∧ zx.2.1 0 i = nI (T i)
def pu_e (o : Option Nat) : Int32 := o.elim (-1) nI
def pu_C (n : Nat) (zx0 : kx_S) (s : pu_S) (zx : kx_S) : Prop := (∀ k, k ≠ 5 → k ≠ 6 → zx.1 k = zx0.1 k) ∧ (∀ k, k ≠ 1 → zx.2.1 k = zx0.2.1 k) ∧ zx.2.2 = zx0.2.2 ∧ s.1 ≤ n ∧ zx.1 5 = nI s.1 ∧ zx.1 6 = nI s.2.2 ∧ ∀ t, t < 16 → zx.2.1 1 t = pu_e (s.2.1 t)
theorem pu_tp_C {T : Nat → Nat} {n : Nat} {zx0 zx : kx_S} {s : pu_S} (h : pu_tp T n zx0) (C : pu_C n zx0 s zx) : pu_tp T n zx := ⟨h.1, by rw [C.1 4 (by decide) (by decide)]; exact h.2.1, by rw [C.2.1 0 (by decide)]; exact h.2.2⟩
theorem pu_tp_lo {T : Nat → Nat} {n p : Nat} {zx : kx_S} (h : pu_tp T n zx) : pu_lo (pu_sg T n p) := pu_sg_lo fun i hi => (h.2.2 i hi).1
theorem pu_c_sign {T : Nat → Nat} {n p : Nat} {zx : kx_S} (h : pu_tp T n zx) (h5 : zx.1 5 = nI p) (hp : p ≤ n) : ft_sign zx = some (pu_s (pu_sg T n p), zx) := by
  have h1 := h.1
  unfold ft_sign pu_sg
  rw [h.2.1, h5]
  by_cases c : p < n
  · rw [if_neg (nI_ge c (by omega)), if_neg (show ¬ (60 : Int32) ≤ nI p from nI_ge (b := 60) (by omega) (by omega)), kq_xrd (show p < 60 by omega) kq_kx, Option.bind_some, (h.2.2 p c).2, if_pos c]; rfl
  · rw [if_pos (nI_le (by omega) (by omega)), if_neg c]; rfl
theorem pu_c_digit {T : Nat → Nat} {n p : Nat} {zx : kx_S} (h : pu_tp T n zx) (h5 : zx.1 5 = nI p) (hp : p ≤ n) : ft_isDigit zx = some (pq_b (pu_dig (pu_sg T n p)).isSome, zx) := by
  unfold ft_isDigit
  rw [pu_c_sign h h5 hp, Option.bind_some]
  dsimp only
  rw [pu_c_sign h h5 hp, Option.bind_some]
  dsimp only
  cases e : pu_dig (pu_sg T n p) with
  | none =>
    rcases (pu_dig_none (pu_tp_lo h) e).1 with q | q
    · rw [if_pos q]; rfl
    · rw [if_pos q]; split <;> rfl
  | some v =>
    obtain ⟨q1, q2, _⟩ := pu_dig_some (pu_tp_lo h) e
    rw [if_neg q1, if_neg q2]; rfl
theorem pu_c_letter {T : Nat → Nat} {n p : Nat} {zx : kx_S} (h : pu_tp T n zx) (h5 : zx.1 5 = nI p) (hp : p ≤ n) : ft_isLetter zx = some (pq_b (pu_let (pu_sg T n p)), zx) := by
  have e1 := pu_s_eq (k := 101) (pu_tp_lo (p := p) h) (by decide)
  have e2 := pu_s_eq (k := 110) (pu_tp_lo (p := p) h) (by decide)
  unfold ft_isLetter pu_let
  rw [pu_c_sign h h5 hp, Option.bind_some]
  dsimp only
  rw [pu_c_sign h h5 hp, Option.bind_some]
  dsimp only
  by_cases c1 : pu_sg T n p = some 101
  · rw [if_pos (show pu_s (pu_sg T n p) = 101 from e1.mpr c1), decide_eq_true (Or.inl c1)]; rfl
  · rw [if_neg (show ¬ pu_s (pu_sg T n p) = 101 from mt e1.mp c1)]
    by_cases c2 : pu_sg T n p = some 110
    · rw [if_pos (show pu_s (pu_sg T n p) = 110 from e2.mpr c2), decide_eq_true (Or.inr c2)]; rfl
    · rw [if_neg (show ¬ pu_s (pu_sg T n p) = 110 from mt e2.mp c2), decide_eq_false (not_or.mpr ⟨c1, c2⟩)]; rfl
theorem pu_c_failed (x : Int32) (zx : kx_S) : ft_failed x zx = some (0, (va_up zx.1 6 x, zx.2)) := rfl
theorem pu_C_fail {n k : Nat} {zx0 zx : kx_S} {s : pu_S} (C : pu_C n zx0 s zx) : pu_C n zx0 (s.1, s.2.1, k) (va_up zx.1 6 (nI k), zx.2) := by
  obtain ⟨c1, c2, c3, c4, c5, c6, c7⟩ := C
  refine ⟨fun i h5 h6 => ?_, c2, c3, c4, ?_, ?_, c7⟩
  · dsimp only; rw [va_up_ne _ _ h6]; exact c1 i h5 h6
  · dsimp only; rw [va_up_ne _ _ (by decide)]; exact c5
  · dsimp only; rw [va_up_self]
theorem pu_C_go {n : Nat} {zx0 zx : kx_S} {s : pu_S} (C : pu_C n zx0 s zx) (h : s.1 < n) : pu_C n zx0 (s.1 + 1, s.2) (va_up zx.1 5 (nI (s.1 + 1)), zx.2) := by
  obtain ⟨c1, c2, c3, c4, c5, c6, c7⟩ := C
  refine ⟨fun i h5 h6 => ?_, c2, c3, h, ?_, ?_, c7⟩
  · dsimp only; rw [va_up_ne _ _ h5]; exact c1 i h5 h6
  · dsimp only; rw [va_up_self]
  · dsimp only; rw [va_up_ne _ _ (by decide)]; exact c6
theorem pu_C_set {n t v : Nat} {zx0 zx : kx_S} {s : pu_S} (C : pu_C n zx0 s zx) : pu_C n zx0 (s.1, pu_set s.2.1 t v, s.2.2) (zx.1, va_up zx.2.1 1 (upd (zx.2.1 1) t (nI v)), zx.2.2) := by
  obtain ⟨c1, c2, c3, c4, c5, c6, c7⟩ := C
  refine ⟨c1, fun i h => ?_, c3, c4, c5, c6, fun u hu => ?_⟩
  · dsimp only; rw [va_up_ne _ _ h]; exact c2 i h
  · dsimp only
    rw [va_up_self]
    unfold pu_set
    by_cases e : u = t
    · rw [if_pos e, e, pk_us]; rfl
    · rw [if_neg e, pk_un e]; exact c7 u hu
theorem pu_c_readSign {T : Nat → Nat} {n k : Nat} {zx0 zx : kx_S} {s : pu_S} (h : pu_tp T n zx) (C : pu_C n zx0 s zx) (hk : k < 256) : (pu_sg T n s.1 = some k → ft_readSign (nI k) zx = some (1, (va_up zx.1 5 (nI (s.1 + 1)), zx.2))) ∧ (pu_sg T n s.1 ≠ some k → ft_readSign (nI k) zx = some (0, (va_up zx.1 6 (nI 1), zx.2))) := by
  have e1 := pu_s_eq (k := k) (pu_tp_lo (p := s.1) h) hk
  have c5 := C.2.2.2.2.1
  unfold ft_readSign
  rw [pu_c_sign h c5 C.2.2.2.1, Option.bind_some]
  dsimp only
  refine ⟨fun q => ?_, fun q => ?_⟩
  · rw [if_pos (e1.mpr q), c5, nI_1]; rfl
  · rw [if_neg (mt e1.mp q)]; rfl
/-- toldAt -/
theorem pu_c_told {τ : Nat → Option Nat} {i j : Nat} {x : Int32} {zx : kx_S} (h : ∀ t, t < 16 → zx.2.1 1 t = pu_e (τ t)) (h9 : ∀ t v, t < 16 → τ t = some v → v ≤ 9) (hi : i < 4) (hj : j < 4) : ft_toldAt (nI i) (nI j) x zx = some ((τ (4 * i + j)).elim x nI, zx) := by
  unfold ft_toldAt
  rw [if_neg (nI_pos (by omega)), if_neg (show ¬ (4 : Int32) ≤ nI i from nI_ge (b := 4) hi (by omega)), if_neg (nI_pos (by omega)), if_pos (show nI j < (4 : Int32) from nI_lt (b := 4) hj (by omega)), show nI i * (4 : Int32) + nI j = nI (4 * i + j) by rw [show nI i * (4 : Int32) = nI (i * 4) from pk_mul i 4, nI_add, Nat.mul_comm], kq_xrd (show 4 * i + j < 16 by omega) kq_kx, Option.bind_some, h _ (by omega)]
  cases e : τ (4 * i + j) with
  | none => rw [if_pos (show pu_e none = -1 from rfl)]; rfl
  | some v =>
    have := h9 _ v (by omega) e
    rw [if_neg (show ¬ pu_e (some v) = -1 from fun q => absurd (show ¬ (-1 : Int32) < 0 by rw [← q]; exact nI_pos (by omega)) (by decide))]; rfl
theorem pu_c_out1 {x y w : Int32} {zx : kx_S} (h : x < 0 ∨ (4 : Int32) ≤ x) : ft_toldAt x y w zx = some (w, zx) := by
  unfold ft_toldAt
  by_cases c : x < 0
  · rw [if_pos c]
  · rw [if_neg c, if_pos (h.resolve_left c)]
theorem pu_c_out2 {x y w : Int32} {zx : kx_S} (h : y < 0 ∨ (4 : Int32) ≤ y) : ft_toldAt x y w zx = some (w, zx) := by
  unfold ft_toldAt
  split
  · rfl
  · split
    · rfl
    · by_cases c : y < 0
      · rw [if_pos c]
      · rw [if_neg c, if_neg (show ¬ y < 4 from Int32.not_lt.mpr (h.resolve_left c))]
theorem pu_elim {o : Option Nat} {w : Nat} : o.elim (nI w) nI = nI (o.getD w) := by cases o <;> rfl
theorem pu_c_around {τ : Nat → Option Nat} {i j w : Nat} {zx : kx_S} (h : ∀ t, t < 16 → zx.2.1 1 t = pu_e (τ t)) (h9 : ∀ t v, t < 16 → τ t = some v → v ≤ 9) (hi : i < 4) (hj : j < 4) : ft_toldAt (nI i - 1) (nI j) (nI w) zx = some (nI ((pu_up τ i j).getD w), zx) ∧ ft_toldAt (nI i) (nI j - 1) (nI w) zx = some (nI ((pu_lf τ i j).getD w), zx) ∧ ft_toldAt (nI i + 1) (nI j) 0 zx = some (nI ((pu_dn τ i j).getD 0), zx) ∧ ft_toldAt (nI i) (nI j + 1) 0 zx = some (nI ((pu_rt τ i j).getD 0), zx) := by
  refine ⟨?_, ?_, ?_, ?_⟩
  · unfold pu_up
    by_cases c : i = 0
    · rw [if_pos c, c, pu_c_out1 (Or.inl (by decide))]; rfl
    · rw [if_neg c, show nI i - 1 = nI (i - 1) from pk_sub (b := 1) (by omega), pu_c_told h h9 (by omega) hj, pu_elim]
  · unfold pu_lf
    by_cases c : j = 0
    · rw [if_pos c, c, pu_c_out2 (Or.inl (by decide))]; rfl
    · rw [if_neg c, show nI j - 1 = nI (j - 1) from pk_sub (b := 1) (by omega), pu_c_told h h9 hi (by omega), pu_elim]
  · unfold pu_dn
    by_cases c : i = 3
    · rw [if_pos c, c, pu_c_out1 (Or.inr (by decide))]; rfl
    · rw [if_neg c, nI_1, pu_c_told h h9 (by omega) hj, show (0 : Int32) = nI 0 from rfl, pu_elim]
  · unfold pu_rt
    by_cases c : j = 3
    · rw [if_pos c, c, pu_c_out2 (Or.inr (by decide))]; rfl
    · rw [if_neg c, nI_1, pu_c_told h h9 hi (by omega), show (0 : Int32) = nI 0 from rfl, pu_elim]
theorem pu_c_tell {τ : Nat → Option Nat} {i j c v : Nat} {zx : kx_S} (h : ∀ t, t < 16 → zx.2.1 1 t = pu_e (τ t)) (h9 : ∀ t v, t < 16 → τ t = some v → v ≤ 9) (hi : i < 4) (hj : j < 4) (h3 : zx.1 3 = nI c) (hc : c ≤ 4) (hv : v ≤ 9) : ft_tell (nI i) (nI j) (nI v) zx = if pu_ok τ c i j v then some (1, (zx.1, va_up zx.2.1 1 (upd (zx.2.1 1) (4 * i + j) (nI v)), zx.2.2)) else some (0, zx) := by
  obtain ⟨a1, a2, a3, a4⟩ := pu_c_around (w := c) h h9 hi hj
  have bd : ∀ (o : Option Nat) (w : Nat), w ≤ 4 → (∀ u, o = some u → u ≤ 9) → o.getD w ≤ 9 := fun o w hw q => by
    cases o with
    | none => show w ≤ 9; omega
    | some u => exact q u rfl
  have b1 : (pu_up τ i j).getD c ≤ 9 := bd _ _ hc fun u e => by
    unfold pu_up at e; split at e
    · cases e
    · exact h9 _ u (by omega) e
  have b2 : (pu_lf τ i j).getD c ≤ 9 := bd _ _ hc fun u e => by
    unfold pu_lf at e; split at e
    · cases e
    · exact h9 _ u (by omega) e
  have b3 : (pu_dn τ i j).getD 0 ≤ 9 := bd _ _ (by omega) fun u e => by
    unfold pu_dn at e; split at e
    · cases e
    · exact h9 _ u (by omega) e
  have b4 : (pu_rt τ i j).getD 0 ≤ 9 := bd _ _ (by omega) fun u e => by
    unfold pu_rt at e; split at e
    · cases e
    · exact h9 _ u (by omega) e
  unfold ft_tell
  rw [h3, a1, Option.bind_some]
  dsimp only
  rw [h3, a2, Option.bind_some]
  dsimp only
  rw [a3, Option.bind_some]
  dsimp only
  rw [a4, Option.bind_some]
  dsimp only
  unfold pu_ok
  generalize (pu_up τ i j).getD c = U at *
  generalize (pu_lf τ i j).getD c = L at *
  generalize (pu_dn τ i j).getD 0 = D at *
  generalize (pu_rt τ i j).getD 0 = R at *
  have m1 : (if nI L < nI U then nI L else nI U) = nI (min U L) := by
    by_cases q : L < U
    · rw [if_pos (nI_lt q (by omega)), Nat.min_eq_right (by omega)]
    · rw [if_neg (nI_nlt (by omega) (by omega)), Nat.min_eq_left (by omega)]
  have m2 : (if nI D < nI R then nI R else nI D) = nI (max D R) := by
    by_cases q : D < R
    · rw [if_pos (nI_lt q (by omega)), Nat.max_eq_right (by omega)]
    · rw [if_neg (nI_nlt (by omega) (by omega)), Nat.max_eq_left (by omega)]
  rw [m1, m2]
  by_cases q1 : min U L < v
  · rw [if_pos (nI_lt q1 (by omega)), decide_eq_false (by omega)]; rfl
  · rw [if_neg (nI_nlt (by omega) (by omega))]
    by_cases q2 : max D R ≤ v
    · rw [if_pos (nI_le q2 (by omega)), decide_eq_true (by omega), show nI i * (4 : Int32) + nI j = nI (4 * i + j) by rw [show nI i * (4 : Int32) = nI (i * 4) from pk_mul i 4, nI_add, Nat.mul_comm], kq_xwr (show 4 * i + j < 16 by omega) kq_kx]; rfl
    · rw [if_neg (nI_ge (by omega) (by omega)), decide_eq_false (by omega)]; rfl
theorem pu_h_0 {T : Nat → Nat} {n c i j : Nat} {s : pu_S} (e : pu_dig (pu_sg T n s.1) = none) : pu_h T n c i j s = (s.1, s.2.1, 1) := by
  unfold pu_h; rw [e]
theorem pu_h_1 {T : Nat → Nat} {n c i j v : Nat} {s : pu_S} (e : pu_dig (pu_sg T n s.1) = some v) (o : pu_ok s.2.1 c i j v = true) : pu_h T n c i j s = (s.1 + 1, pu_set s.2.1 (4 * i + j) v, 0) := by
  unfold pu_h; rw [e]; exact if_pos o
theorem pu_h_2 {T : Nat → Nat} {n c i j v : Nat} {s : pu_S} (e : pu_dig (pu_sg T n s.1) = some v) (o : pu_ok s.2.1 c i j v = false) : pu_h T n c i j s = (s.1, s.2.1, 2) := by
  unfold pu_h; rw [e]; exact if_neg (by rw [o]; decide)
/-- readHeight -/
theorem pu_c_height {T : Nat → Nat} {n a b c i j : Nat} {zx0 zx : kx_S} {s : pu_S} (tp : pu_tp T n zx0) (h3 : zx0.1 3 = nI c) (hc : c ≤ 4) (C : pu_C n zx0 s zx) (G : pu_G a b c n s) (h0 : s.2.2 = 0) (hi : i < 4) (hj : j < 4) : ∃ zx', ft_readHeight (nI i) (nI j) zx = some (pq_b (decide ((pu_h T n c i j s).2.2 = 0)), zx') ∧ pu_C n zx0 (pu_h T n c i j s) zx' := by
  have tp' := pu_tp_C tp C
  have c5 := C.2.2.2.2.1
  have cp := C.2.2.2.1
  have h3' : zx.1 3 = nI c := by rw [C.1 3 (by decide) (by decide)]; exact h3
  unfold ft_readHeight
  rw [pu_c_digit tp' c5 cp, Option.bind_some]
  dsimp only
  rw [pu_c_sign tp' c5 cp, Option.bind_some]
  dsimp only
  cases e : pu_dig (pu_sg T n s.1) with
  | none =>
    rw [pu_h_0 e, if_pos (show pq_b (none : Option Nat).isSome = 0 from rfl)]
    exact ⟨_, rfl, pu_C_fail (k := 1) C⟩
  | some v =>
    obtain ⟨_, _, q3, q4⟩ := pu_dig_some (pu_tp_lo tp') e
    have lt := pu_dig_lt e
    rw [if_neg (show ¬ pq_b (some v).isSome = 0 from kq_10), q3, pu_c_tell C.2.2.2.2.2.2 (fun t v ht e => by have := pu_I_9 G.2.1 ht e; omega) hi hj h3' hc q4]
    rcases (show pu_ok s.2.1 c i j v = false ∨ pu_ok s.2.1 c i j v = true by cases pu_ok s.2.1 c i j v <;> simp) with o | o
    · rw [pu_h_2 e o, if_neg (by rw [o]; decide), Option.bind_some]
      exact ⟨_, rfl, pu_C_fail (k := 2) C⟩
    · rw [pu_h_1 e o, if_pos o, Option.bind_some]
      dsimp only
      rw [if_neg kq_10, c5, nI_1]
      refine ⟨_, rfl, ?_⟩
      have := pu_C_go (pu_C_set (t := 4 * i + j) (v := v) C) lt
      dsimp only at this
      rw [h0] at this
      exact this
/-- readRows -/
theorem pu_c_rows {T : Nat → Nat} {n a b c : Nat} {zx0 zx : kx_S} {s : pu_S} (tp : pu_tp T n zx0) (h1 : zx0.1 1 = nI a) (h2 : zx0.1 2 = nI b) (h3 : zx0.1 3 = nI c) (ha : 1 ≤ a ∧ a ≤ 4) (hb : 1 ≤ b ∧ b ≤ 4) (hc : c ≤ 4) (C : pu_C n zx0 s zx) (G : pu_G a b c n s) (h0 : s.2.2 = 0) : ∃ zx', ft_readRows zx = some (pq_b (decide ((pu_seq T n c (pu_cR b) s (a * b)).2.2 = 0)), zx') ∧ pu_C n zx0 (pu_seq T n c (pu_cR b) s (a * b)) zx' := by
  have GG := fun k (hk : k ≤ a * b) => pu_seq_G (T := T) (s0 := s) (cell := pu_cR b) G ha.2 hb.2 (K := a * b) (fun k i j hk q => pu_cR_in hb.1 hk q) k hk
  have f1 : ∀ {S z}, pu_C n zx0 S z → z.1 1 = nI a := fun q => by rw [q.1 1 (by decide) (by decide)]; exact h1
  have f2 : ∀ {S z}, pu_C n zx0 S z → z.1 2 = nI b := fun q => by rw [q.1 2 (by decide) (by decide)]; exact h2
  have le : ∀ i, i < a → b * i + b ≤ a * b := fun i hi => by rw [← Nat.mul_succ, Nat.mul_comm a b]; exact Nat.mul_le_mul_left b (by omega)
  -- one row
  have row : ∀ (i : Nat) (z : kx_S), i < a → pu_C n zx0 (pu_seq T n c (pu_cR b) s (b * i)) z → (pu_seq T n c (pu_cR b) s (b * i)).2.2 = 0 → ∃ r, lt_readRows_12 5000 (nI i) 0 z = some r ∧ ((∃ z', r = .inl z' ∧ pu_C n zx0 (pu_seq T n c (pu_cR b) s (a * b)) z' ∧ (pu_seq T n c (pu_cR b) s (a * b)).2.2 ≠ 0) ∨ ∃ z', r = .inr (nI i, z') ∧ pu_C n zx0 (pu_seq T n c (pu_cR b) s (b * (i + 1))) z' ∧ (pu_seq T n c (pu_cR b) s (b * (i + 1))).2.2 = 0) := by
    intro i z hi Cz hz
    have lei := le i hi
    unfold lt_readRows_12
    refine kq_ite0 (fun j s' => ∃ z', s' = (nI i, nI j, z') ∧ pu_C n zx0 (pu_seq T n c (pu_cR b) s (b * i + j)) z' ∧ (pu_seq T n c (pu_cR b) s (b * i + j)).2.2 = 0) _ b (by omega) ?_ ?_ ⟨z, rfl, Cz, hz⟩
    · rintro j s' hj ⟨z', rfl, g1, g2⟩
      dsimp only
      unfold ft_readRows_12
      have cell : pu_cR b (b * i + j) = some (i, j) := by
        unfold pu_cR
        rw [Nat.mul_add_div (by omega), Nat.div_eq_of_lt hj, Nat.add_zero, Nat.mul_add_mod, Nat.mod_eq_of_lt hj]
      obtain ⟨z2, r1, r2⟩ := pu_c_height (i := i) (j := j) tp h3 hc g1 (GG _ (by omega)) g2 (by omega) (by omega)
      rw [← pu_seq_s g2 cell] at r1 r2
      rw [f2 g1, if_neg (nI_ge hj (by omega)), r1, Option.bind_some, nI_1]
      dsimp only
      by_cases q : (pu_seq T n c (pu_cR b) s (b * i + j + 1)).2.2 = 0
      · rw [decide_eq_true q, if_neg (show ¬ pq_b true = 0 by decide)]
        exact Or.inl ⟨_, rfl, z2, rfl, r2, q⟩
      · rw [decide_eq_false q, if_pos (show pq_b false = 0 from rfl)]
        have e := pu_seq_b q (a * b - (b * i + j + 1))
        rw [show b * i + j + 1 + (a * b - (b * i + j + 1)) = a * b by omega] at e
        exact Or.inr ⟨_, rfl, Or.inl ⟨z2, rfl, by rw [e]; exact r2, by rw [e]; exact q⟩⟩
    · rintro s' ⟨z', rfl, g1, g2⟩
      refine ⟨_, ?_, Or.inr ⟨z', rfl, g1, g2⟩⟩
      dsimp only
      unfold ft_readRows_12
      rw [f2 g1, if_pos (nI_le (Nat.le_refl b) (by omega))]
  unfold ft_readRows lt_readRows_2
  obtain ⟨r, r1, r2⟩ := kq_ite0 (step := fun (s : (Int32 × kx_S)) => ft_readRows_2 (s.1) (s.2)) (fun i s' => ∃ z', s' = (nI i, z') ∧ pu_C n zx0 (pu_seq T n c (pu_cR b) s (b * i)) z' ∧ (pu_seq T n c (pu_cR b) s (b * i)).2.2 = 0)
    (fun r => (∃ z', r = .inl z' ∧ pu_C n zx0 (pu_seq T n c (pu_cR b) s (a * b)) z' ∧ (pu_seq T n c (pu_cR b) s (a * b)).2.2 ≠ 0) ∨ ∃ z', r = .inr z' ∧ pu_C n zx0 (pu_seq T n c (pu_cR b) s (a * b)) z' ∧ (pu_seq T n c (pu_cR b) s (a * b)).2.2 = 0) a (by omega) (by
      rintro i s' hi ⟨z', rfl, g1, g2⟩
      dsimp only
      unfold ft_readRows_2
      obtain ⟨r, r1, r2⟩ := row i z' hi g1 g2
      rw [f1 g1, if_neg (nI_ge hi (by omega)), r1, Option.bind_some]
      rcases r2 with ⟨z2, rfl, q1, q2⟩ | ⟨z2, rfl, q1, q2⟩
      · exact Or.inr ⟨_, rfl, Or.inl ⟨z2, rfl, q1, q2⟩⟩
      · refine Or.inl ⟨_, rfl, z2, ?_, q1, q2⟩
        dsimp only
        rw [nI_1]) (by
      rintro s' ⟨z', rfl, g1, g2⟩
      rw [Nat.mul_comm b a] at g1 g2
      refine ⟨_, ?_, Or.inr ⟨z', rfl, g1, g2⟩⟩
      dsimp only
      unfold ft_readRows_2
      rw [f1 g1, if_pos (nI_le (Nat.le_refl a) (by omega))])
    (s := (0, zx)) ⟨zx, rfl, C, h0⟩
  rw [r1, Option.bind_some]
  rcases r2 with ⟨z2, rfl, q1, q2⟩ | ⟨z2, rfl, q1, q2⟩
  · exact ⟨z2, by rw [decide_eq_false q2]; rfl, q1⟩
  · exact ⟨z2, by rw [decide_eq_true q2]; rfl, q1⟩
