/-! ROWS: lists, packed numbers, how many go on -/
theorem pr_rsum {n : Nat} {f : Nat → Nat} : ((List.range n).map f).sum = pq_sum n f := by
  induction n with
  | zero => rfl
  | succ n ih => rw [List.range_succ, List.map_append, List.sum_append, ih]; simp [pq_sum]
def pr_N (b c : Nat) : Nat := (pq_rows b c).length
def pr_v (b c k j : Nat) : Nat := (pq_row b c k).getD j 0
def pr_LE (b c s r : Nat) : Bool := pq_le (pq_row b c s) (pq_row b c r)
theorem pr_U (b c m k : Nat) : pq_U b c (m + 1) k = pq_sum (k + 1) (fun s => if pr_LE b c s k then pq_U b c m s else 0) := by
  rw [pq_U, pr_rsum]; rfl
theorem pr_U0 (b c k : Nat) : pq_U b c 0 k = 1 := rfl
def pr_ok (b c : Nat) : Prop := 1 ≤ b ∧ b ≤ 4 ∧ 1 ≤ c ∧ c ≤ 4
theorem pr_hv {a b c : Nat} {h : Nat → Nat} (H : pq_hv a b c h) : pr_ok b c := ⟨H.2.1.1, H.2.1.2, H.2.2.1.1, H.2.2.1.2⟩
theorem pr_ball {p : Nat → Nat → Prop} (h : ∀ b, b < 4 → ∀ c, c < 4 → p (b + 1) (c + 1)) {b c : Nat} (o : pr_ok b c) : p b c := by
  obtain ⟨h1, h2, h3, h4⟩ := o
  obtain ⟨b, rfl⟩ : ∃ x, b = x + 1 := ⟨b - 1, by omega⟩
  obtain ⟨c, rfl⟩ : ∃ x, c = x + 1 := ⟨c - 1, by omega⟩
  exact h b (by omega) c (by omega)
theorem pr_N_le {b c : Nat} (o : pr_ok b c) : 1 ≤ pr_N b c ∧ pr_N b c ≤ 70 := pr_ball (p := fun b c => 1 ≤ pr_N b c ∧ pr_N b c ≤ 70) (by decide +kernel) o
theorem pr_choose {b c : Nat} (o : pr_ok b c) : fc_choose (nI (b + c)) (nI b) = some (nI (pr_N b c)) := pr_ball (p := fun b c => fc_choose (nI (b + c)) (nI b) = some (nI (pr_N b c))) (by decide +kernel) o
/-- the heights of a row -/
def pr_ckrow (b c : Nat) : Bool := pq_all (pr_N b c) fun k => pq_all 4 fun j => decide (pr_v b c k j ≤ c) && ((decide (j < b) || decide (pr_v b c k j = 0)) && (decide (3 ≤ j) || decide (pr_v b c k (j + 1) ≤ pr_v b c k j)))
theorem pr_row {b c : Nat} (o : pr_ok b c) {k : Nat} (hk : k < pr_N b c) : ∀ j, j < 4 → pr_v b c k j ≤ c ∧ (b ≤ j → pr_v b c k j = 0) ∧ (j + 1 < 4 → pr_v b c k (j + 1) ≤ pr_v b c k j) := by
  have h := pr_ball (p := fun b c => pr_ckrow b c = true) (by decide +kernel) o
  unfold pr_ckrow at h
  rw [pq_all_iff] at h
  intro j hj
  have h2 := h k hk
  rw [pq_all_iff] at h2
  have h3 := h2 j hj
  simp only [Bool.and_eq_true, Bool.or_eq_true, decide_eq_true_eq] at h3
  exact ⟨h3.1, fun q => h3.2.1.resolve_left (by omega), fun q => h3.2.2.resolve_left (by omega)⟩
theorem pr_last {b c : Nat} (o : pr_ok b c) : ∀ j, j < 4 → pr_v b c (pr_N b c - 1) j = if j < b then c else 0 :=
  pr_ball (p := fun b c => ∀ j, j < 4 → pr_v b c (pr_N b c - 1) j = if j < b then c else 0) (by decide +kernel) o
theorem pr_pk (b c k : Nat) : pq_pack (pq_row b c k) = pr_v b c k 0 * 4096 + pr_v b c k 1 * 256 + pr_v b c k 2 * 16 + pr_v b c k 3 := rfl
theorem pr_pk1 {b c : Nat} (o : pr_ok b c) {k : Nat} (hk : k + 1 < pr_N b c) : pq_pack (pq_row b c k) < pq_pack (pq_row b c (k + 1)) :=
  pr_ball (p := fun b c => ∀ k, k < pr_N b c - 1 → pq_pack (pq_row b c k) < pq_pack (pq_row b c (k + 1))) (by decide +kernel) o k (by omega)
theorem pr_pk_lt {b c : Nat} (o : pr_ok b c) {k l : Nat} (h : k < l) (hl : l < pr_N b c) : pq_pack (pq_row b c k) < pq_pack (pq_row b c l) := by
  obtain ⟨d, rfl⟩ : ∃ d, l = k + 1 + d := ⟨l - k - 1, by omega⟩
  clear h
  induction d with
  | zero => exact pr_pk1 o hl
  | succ d ih => exact Nat.lt_trans (ih (by omega)) (pr_pk1 o (by omega))
theorem pr_pk_le {b c : Nat} (o : pr_ok b c) {k : Nat} (hk : k < pr_N b c) : pq_pack (pq_row b c k) < 32768 := by
  have h0 := (pr_row o hk 0 (by omega)).1; have h1 := (pr_row o hk 1 (by omega)).1; have h2 := (pr_row o hk 2 (by omega)).1; have h3 := (pr_row o hk 3 (by omega)).1
  have := o.2.2.2
  rw [pr_pk]; omega
/-- any heights that fall are a row -/
def pr_ck44 : Bool := pq_all 5 fun x0 => pq_all 5 fun x1 => pq_all 5 fun x2 => pq_all 5 fun x3 => !(decide (x1 ≤ x0)) || (!(decide (x2 ≤ x1)) || (!(decide (x3 ≤ x2)) || decide ([x0, x1, x2, x3] ∈ pq_rows 4 4)))
theorem pr_44 {x : Nat → Nat} (h4 : x 0 ≤ 4) (h1 : x 1 ≤ x 0) (h2 : x 2 ≤ x 1) (h3 : x 3 ≤ x 2) : [x 0, x 1, x 2, x 3] ∈ pq_rows 4 4 := by
  have K : pr_ck44 = true := by decide +kernel
  unfold pr_ck44 at K
  rw [pq_all_iff] at K
  have K0 := K (x 0) (by omega)
  rw [pq_all_iff] at K0
  have K1 := K0 (x 1) (by omega)
  rw [pq_all_iff] at K1
  have K2 := K1 (x 2) (by omega)
  rw [pq_all_iff] at K2
  have K3 := K2 (x 3) (by omega)
  rw [decide_eq_true h1, decide_eq_true h2, decide_eq_true h3] at K3
  simpa using K3
theorem pr_cov44 : ∀ l, l ∈ pq_rows 4 4 → ∀ m, m ∈ pq_rows 4 4 → fr_covers (nI (pq_pack l)) (nI (pq_pack m)) = some (pq_b (pq_le m l)) := by decide +kernel
def pr_le4 (x y : Nat → Nat) : Bool := decide (x 0 ≤ y 0 ∧ x 1 ≤ y 1 ∧ x 2 ≤ y 2 ∧ x 3 ≤ y 3)
def pr_pk4 (x : Nat → Nat) : Nat := x 0 * 4096 + x 1 * 256 + x 2 * 16 + x 3
/-- falling heights of at most 4 -/
def pr_f4 (x : Nat → Nat) : Prop := x 0 ≤ 4 ∧ x 1 ≤ x 0 ∧ x 2 ≤ x 1 ∧ x 3 ≤ x 2
theorem pr_covers {x y : Nat → Nat} (hx : pr_f4 x) (hy : pr_f4 y) : fr_covers (nI (pr_pk4 x)) (nI (pr_pk4 y)) = some (pq_b (pr_le4 y x)) := by
  have h := pr_cov44 _ (pr_44 hx.1 hx.2.1 hx.2.2.1 hx.2.2.2) _ (pr_44 hy.1 hy.2.1 hy.2.2.1 hy.2.2.2)
  have e : pq_le [y 0, y 1, y 2, y 3] [x 0, x 1, x 2, x 3] = pr_le4 y x := by
    unfold pq_le pr_le4
    apply Bool.eq_iff_iff.mpr
    simp [List.range, List.range.loop]
  rw [← e]; exact h
theorem pr_f4_row {b c : Nat} (o : pr_ok b c) {k : Nat} (hk : k < pr_N b c) : pr_f4 (pr_v b c k) := by
  have h := pr_row o hk; have := o.2.2.2
  have h0 := (h 0 (by omega)).1
  exact ⟨by omega, (h 0 (by omega)).2.2 (by omega), (h 1 (by omega)).2.2 (by omega), (h 2 (by omega)).2.2 (by omega)⟩
theorem pr_LE4 (b c s r : Nat) : pr_LE b c s r = pr_le4 (pr_v b c s) (pr_v b c r) := by
  unfold pr_LE pq_le pr_le4 pr_v
  apply Bool.eq_iff_iff.mpr
  simp [List.range, List.range.loop]
theorem pr_pk4v (b c k : Nat) : pq_pack (pq_row b c k) = pr_pk4 (pr_v b c k) := rfl
theorem pr_covers_row {b c : Nat} (o : pr_ok b c) {s r : Nat} (hs : s < pr_N b c) (hr : r < pr_N b c) : fr_covers (nI (pq_pack (pq_row b c r))) (nI (pq_pack (pq_row b c s))) = some (pq_b (pr_LE b c s r)) := by
  rw [pr_pk4v, pr_pk4v, pr_LE4]; exact pr_covers (pr_f4_row o hr) (pr_f4_row o hs)
theorem pr_LE_refl (b c s : Nat) : pr_LE b c s s = true := by
  rw [pr_LE4]; unfold pr_le4; exact decide_eq_true ⟨Nat.le_refl _, Nat.le_refl _, Nat.le_refl _, Nat.le_refl _⟩
theorem pr_LE_le {b c : Nat} (o : pr_ok b c) {s r : Nat} (hs : s < pr_N b c) (hr : r < pr_N b c) (h : pr_LE b c s r = true) : s ≤ r := by
  by_cases q : s ≤ r
  · exact q
  · have h1 := pr_pk_lt o (show r < s by omega) hs
    rw [pr_LE4] at h
    unfold pr_le4 at h
    rw [decide_eq_true_eq] at h
    rw [pr_pk, pr_pk] at h1
    omega
theorem pr_LE_last {b c : Nat} (o : pr_ok b c) {s : Nat} (hs : s < pr_N b c) : pr_LE b c s (pr_N b c - 1) = true := by
  have h := pr_row o hs; have l := pr_last o
  rw [pr_LE4]; unfold pr_le4
  apply decide_eq_true
  have key : ∀ j, j < 4 → pr_v b c s j ≤ pr_v b c (pr_N b c - 1) j := by
    intro j hj
    rw [l j hj]
    split
    · exact (h j hj).1
    · rw [(h j hj).2.1 (by omega)]; omega
  exact ⟨key 0 (by omega), key 1 (by omega), key 2 (by omega), key 3 (by omega)⟩
/-- which row has these heights -/
def pr_ckf (b c : Nat) : Bool := pq_all 5 fun x0 => pq_all 5 fun x1 => pq_all 5 fun x2 => pq_all 5 fun x3 => !(decide (x0 ≤ c)) || (!(decide (x1 ≤ x0)) || (!(decide (x2 ≤ x1)) || (!(decide (x3 ≤ x2)) || (!(decide (1 < b ∨ x1 = 0)) || (!(decide (2 < b ∨ x2 = 0)) || (!(decide (3 < b ∨ x3 = 0)) || (List.range (pr_N b c)).any (fun k => decide (pr_v b c k 0 = x0) && decide (pr_v b c k 1 = x1) && decide (pr_v b c k 2 = x2) && decide (pr_v b c k 3 = x3))))))))
theorem pr_find {b c : Nat} (o : pr_ok b c) {x : Nat → Nat} (h0 : x 0 ≤ c) (h1 : x 1 ≤ x 0) (h2 : x 2 ≤ x 1) (h3 : x 3 ≤ x 2) (hz : ∀ j, b ≤ j → j < 4 → x j = 0) : ∃ k, k < pr_N b c ∧ ∀ j, j < 4 → pr_v b c k j = x j := by
  have K := pr_ball (p := fun b c => pr_ckf b c = true) (by decide +kernel) o
  have := o.2.2.2
  unfold pr_ckf at K
  rw [pq_all_iff] at K
  have K0 := K (x 0) (by omega)
  rw [pq_all_iff] at K0
  have K1 := K0 (x 1) (by omega)
  rw [pq_all_iff] at K1
  have K2 := K1 (x 2) (by omega)
  rw [pq_all_iff] at K2
  have K3 := K2 (x 3) (by omega)
  have z1 : 1 < b ∨ x 1 = 0 := by
    by_cases q : 1 < b
    · exact Or.inl q
    · exact Or.inr (hz 1 (by omega) (by omega))
  have z2 : 2 < b ∨ x 2 = 0 := by
    by_cases q : 2 < b
    · exact Or.inl q
    · exact Or.inr (hz 2 (by omega) (by omega))
  have z3 : 3 < b ∨ x 3 = 0 := by
    by_cases q : 3 < b
    · exact Or.inl q
    · exact Or.inr (hz 3 (by omega) (by omega))
  rw [decide_eq_true h0, decide_eq_true h1, decide_eq_true h2, decide_eq_true h3, decide_eq_true z1, decide_eq_true z2, decide_eq_true z3] at K3
  simp only [Bool.not_true, Bool.false_or, List.any_eq_true, List.mem_range, Bool.and_eq_true, decide_eq_true_eq] at K3
  obtain ⟨k, hk, ⟨⟨e0, e1⟩, e2⟩, e3⟩ := K3
  refine ⟨k, hk, fun j hj => ?_⟩
  have : j = 0 ∨ j = 1 ∨ j = 2 ∨ j = 3 := by omega
  rcases this with rfl | rfl | rfl | rfl <;> assumption
theorem pr_U_le {b c : Nat} (o : pr_ok b c) : ∀ m k, k < pr_N b c → pq_U b c m k ≤ 70 ^ m
  | 0, k, _ => by simp [pq_U]
  | m + 1, k, hk => by
    have hN := pr_N_le o
    rw [pr_U]
    have h1 := pq_sum_le (n := k + 1) (m := 70 ^ m) (f := fun s => if pr_LE b c s k then pq_U b c m s else 0) fun s hs => by
      split
      · exact pr_U_le o m s (by omega)
      · exact Nat.zero_le _
    have h2 : (k + 1) * 70 ^ m ≤ 70 * 70 ^ m := Nat.mul_le_mul_right _ (by omega)
    rw [Nat.pow_succ, Nat.mul_comm (70 ^ m) 70]
    omega
theorem pr_U_lt {b c : Nat} (o : pr_ok b c) {m k : Nat} (hm : m ≤ 4) (hk : k < pr_N b c) : pq_U b c m k < 2 ^ 30 := by
  have h1 := pr_U_le o m k hk
  have h2 : 70 ^ m ≤ 70 ^ 4 := Nat.pow_le_pow_right (by omega) hm
  have h3 : 70 ^ 4 < 2 ^ 30 := by decide
  omega
theorem pr_U_pos {b c : Nat} (o : pr_ok b c) : ∀ m k, k < pr_N b c → 1 ≤ pq_U b c m k
  | 0, k, _ => by simp [pq_U]
  | m + 1, k, hk => by
    rw [pr_U, pq_sum, pr_LE_refl]
    have := pr_U_pos o m k hk
    simp only [if_true]
    omega
/-! frames of the reference -/
def pr_fq (I A : List Nat) (z z' : km_S) : Prop := (∀ k, k ∉ I → z'.1 k = z.1 k) ∧ (∀ k, k ∉ A → z'.2.1 k = z.2.1 k)
theorem pr_fq_r {I A : List Nat} {z : km_S} : pr_fq I A z z := ⟨fun _ _ => rfl, fun _ _ => rfl⟩
theorem pr_fq_t {I A : List Nat} {z z' z'' : km_S} (h : pr_fq I A z z') (h' : pr_fq I A z' z'') : pr_fq I A z z'' := ⟨fun k hk => (h'.1 k hk).trans (h.1 k hk), fun k hk => (h'.2 k hk).trans (h.2 k hk)⟩
theorem pr_fq_w {I A I' A' : List Nat} {z z' : km_S} (h : pr_fq I A z z') (hI : ∀ k, k ∈ I → k ∈ I') (hA : ∀ k, k ∈ A → k ∈ A') : pr_fq I' A' z z' := ⟨fun k hk => h.1 k fun q => hk (hI k q), fun k hk => h.2 k fun q => hk (hA k q)⟩
theorem pr_fq_u {I A : List Nat} {z : km_S} {k : Nat} {g : Nat → Int32} {y : Nat → Nat → Int64} (h : k ∈ A) : pr_fq I A z (z.1, va_up z.2.1 k g, y) := ⟨fun _ _ => rfl, fun j hj => va_up_ne _ _ fun e => hj (e ▸ h)⟩
theorem pr_fq_l {I A : List Nat} {z : km_S} {y : Nat → Nat → Int64} : pr_fq I A z (z.1, z.2.1, y) := ⟨fun _ _ => rfl, fun _ _ => rfl⟩
theorem pr_fq_fr {A : List Nat} {z z' : km_S} (h : pq_fr A z z') : pr_fq [] A z z' := ⟨fun k _ => congrFun h.1 k, h.2.2⟩
/-- a loop that goes n turns, and what follows it -/
theorem kq_itb {S R T : Type} {step : S → Option (S ⊕ R)} {k : R → Option T} {Q : T → Prop} (I : Nat → S → Prop) (Post : R → Prop) (n : Nat) (hn : n < 5000) {s0 : S} (h0 : I 0 s0) (hs : ∀ k s, k < n → I k s → ∃ s', step s = some (.inl s') ∧ I (k + 1) s') (hx : ∀ s, I n s → ∃ r, step s = some (.inr r) ∧ Post r) (ht : ∀ r, Post r → ∃ t, k r = some t ∧ Q t) : ∃ t, (kj_it step 5000 s0).bind k = some t ∧ Q t := by
  obtain ⟨r, h1, h2⟩ := kq_it0 I Post n hn hs hx h0
  rw [h1, Option.bind_some]
  exact ht r h2
theorem kq_pair {α β : Type} {x : Option (α × β)} {v : α} {Q : β → Prop} (h : ∃ t, x = some t ∧ t.1 = v ∧ Q t.2) : ∃ z, x = some (v, z) ∧ Q z := by
  obtain ⟨⟨p, q⟩, h1, h2, h3⟩ := h
  dsimp only at h2
  exact ⟨q, by rw [h1, h2], h3⟩
