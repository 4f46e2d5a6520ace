/-! longs (rows of kit/laws/BITS) -/
theorem wb_tb (n : Nat) : (lN n).toBitVec = BitVec.ofNat 64 n := rfl
theorem wb_inj {a b : Int64} (h : a.toBitVec = b.toBitVec) : a = b := Int64.toBitVec_inj.mp h
theorem wb_c : ∀ k, k < 64 → ((nI k).toInt64 &&& 63) = lN k := by decide +kernel
theorem wb_sm : ∀ k, k < 64 → (BitVec.ofNat 64 k).smod 64 = BitVec.ofNat 64 k := by decide +kernel
theorem wb_shl (n : Nat) {k : Nat} (hk : k < 64) : lN n <<< ((nI k).toInt64 &&& 63) = lN (n * 2 ^ k) := by
  rw [wb_c k hk]
  apply wb_inj
  rw [Int64.toBitVec_shiftLeft, wb_tb, wb_tb, wb_tb, wb_sm k hk]
  apply BitVec.eq_of_toNat_eq
  rw [BitVec.shiftLeft_eq', BitVec.toNat_shiftLeft, BitVec.toNat_ofNat, BitVec.toNat_ofNat, BitVec.toNat_ofNat, Nat.mod_eq_of_lt (show k < 2 ^ 64 by omega), Nat.shiftLeft_eq, Nat.mul_mod, Nat.mod_mod, ← Nat.mul_mod]
theorem wb_and {a b : Nat} (ha : a < 2 ^ 64) (hb : b < 2 ^ 64) : lN a &&& lN b = lN (a &&& b) := by
  apply wb_inj
  rw [Int64.toBitVec_and, wb_tb, wb_tb, wb_tb]
  apply BitVec.eq_of_toNat_eq
  rw [BitVec.toNat_and, BitVec.toNat_ofNat, BitVec.toNat_ofNat, BitVec.toNat_ofNat, Nat.mod_eq_of_lt ha, Nat.mod_eq_of_lt hb, Nat.mod_eq_of_lt (Nat.and_lt_two_pow _ hb)]
theorem wb_or {a b : Nat} (ha : a < 2 ^ 64) (hb : b < 2 ^ 64) : lN a ||| lN b = lN (a ||| b) := by
  apply wb_inj
  rw [Int64.toBitVec_or, wb_tb, wb_tb, wb_tb]
  apply BitVec.eq_of_toNat_eq
  rw [BitVec.toNat_or, BitVec.toNat_ofNat, BitVec.toNat_ofNat, BitVec.toNat_ofNat, Nat.mod_eq_of_lt ha, Nat.mod_eq_of_lt hb, Nat.mod_eq_of_lt (Nat.or_lt_two_pow ha hb)]
/-- 'or' with what lies below is a sum -/
theorem pr_orS {s Y p : Nat} (hp : p < 65536) (hb : (Y * 65536 + p) * 2 ^ s < 2 ^ 64) : lN (Y * 65536 * 2 ^ s) ||| lN (p * 2 ^ s) = lN ((Y * 65536 + p) * 2 ^ s) := by
  have e : (Y * 65536 + p) * 2 ^ s = Y * 65536 * 2 ^ s + p * 2 ^ s := Nat.add_mul _ _ _
  have h1 : Y * 65536 * 2 ^ s ||| p * 2 ^ s = Y * 65536 * 2 ^ s + p * 2 ^ s := by
    have h2 : p * 2 ^ s < 2 ^ (s + 16) := by
      rw [Nat.pow_add, Nat.mul_comm p]
      exact Nat.mul_lt_mul_of_pos_left hp (Nat.two_pow_pos s)
    have h3 : Y * 65536 * 2 ^ s = Y <<< (s + 16) := by
      rw [Nat.shiftLeft_eq, Nat.pow_add, Nat.mul_assoc, Nat.mul_comm 65536]
    rw [h3, Nat.shiftLeft_add_eq_or_of_lt h2]
  have a1 : Y * 65536 * 2 ^ s < 2 ^ 64 := Nat.lt_of_le_of_lt (by rw [e]; exact Nat.le_add_right _ _) hb
  have a2 : p * 2 ^ s < 2 ^ 64 := Nat.lt_of_le_of_lt (by rw [e]; exact Nat.le_add_left _ _) hb
  rw [wb_or a1 a2, h1, e]
theorem pr_sh : ∀ i, i < 4 → (48 : Int32) - 16 * nI i = nI (48 - 16 * i) := by decide
theorem pr_withRow {i Y p : Nat} (hi : i < 4) (hp : p < 65536) (hb : (Y * 65536 + p) * 2 ^ (48 - 16 * i) < 2 ^ 64) : fx_withRow (lN (Y * 65536 * 2 ^ (48 - 16 * i))) (nI i) (nI p) = some (lN ((Y * 65536 + p) * 2 ^ (48 - 16 * i))) := by
  unfold fx_withRow
  rw [pr_sh i hi, nI_l (by omega), wb_shl _ (by omega), pr_orS hp hb]
/-! WHICH ROW A NUMBER PICKS -/
def pr_ks (f : Nat → Nat) (L n : Nat) : Nat := pq_sum n (fun t => if pq_sum (t + 1) f ≤ L then 1 else 0)
theorem pr_sum_mono {f : Nat → Nat} {m : Nat} : ∀ d, pq_sum m f ≤ pq_sum (m + d) f
  | 0 => Nat.le_refl _
  | d + 1 => by
    have := pr_sum_mono (f := f) (m := m) d
    rw [← Nat.add_assoc, pq_sum]; omega
theorem pr_sum_le {f : Nat → Nat} {m n : Nat} (h : m ≤ n) : pq_sum m f ≤ pq_sum n f := by
  have := pr_sum_mono (f := f) (m := m) (n - m)
  rwa [show m + (n - m) = n by omega] at this
theorem pr_sum_one {n : Nat} {f : Nat → Nat} (h : ∀ t, t < n → f t = 1) : pq_sum n f = n := by
  induction n with
  | zero => rfl
  | succ n ih => rw [pq_sum, ih fun t ht => h t (by omega), h n (by omega)]
theorem pr_ks_spec {f : Nat → Nat} {L : Nat} : ∀ {n : Nat}, L < pq_sum n f → pr_ks f L n < n ∧ pq_sum (pr_ks f L n) f ≤ L ∧ L < pq_sum (pr_ks f L n + 1) f
  | 0, h => by simp [pq_sum] at h
  | n + 1, h => by
    have e : pr_ks f L (n + 1) = pr_ks f L n + (if pq_sum (n + 1) f ≤ L then 1 else 0) := rfl
    rw [if_neg (by omega), Nat.add_zero] at e
    rw [e]
    by_cases c : L < pq_sum n f
    · have := pr_ks_spec c
      exact ⟨by omega, this.2⟩
    · have e2 : pr_ks f L n = n := pr_sum_one fun t ht => if_pos (by
        have := pr_sum_le (f := f) (m := t + 1) (n := n) (by omega)
        omega)
      rw [e2]
      show n < n + 1 ∧ pq_sum n f ≤ L ∧ L < pq_sum (n + 1) f
      exact ⟨by omega, by omega, h⟩
theorem pr_ks_eq {f : Nat → Nat} {L n k : Nat} (hk : k < n) (h1 : pq_sum k f ≤ L) (h2 : L < pq_sum (k + 1) f) : pr_ks f L n = k := by
  have h3 : L < pq_sum n f := Nat.lt_of_lt_of_le h2 (pr_sum_le (by omega))
  obtain ⟨q1, q2, q3⟩ := pr_ks_spec h3
  rcases Nat.lt_trichotomy (pr_ks f L n) k with q | q | q
  · have := pr_sum_le (f := f) (m := pr_ks f L n + 1) (n := k) (by omega); omega
  · exact q
  · have := pr_sum_le (f := f) (m := k + 1) (n := pr_ks f L n) (by omega); omega
/-- how many heaps of m more rows go on with row s, under row A -/
def pr_W (b c m A s : Nat) : Nat := if pr_LE b c s A then pq_U b c m s else 0
theorem pr_W_sum (b c m A : Nat) : pq_U b c (m + 1) A = pq_sum (A + 1) (pr_W b c m A) := pr_U b c m A
theorem pr_W_lt {b c : Nat} (o : pr_ok b c) {m A s : Nat} (hm : m ≤ 4) (hs : s < pr_N b c) : pr_W b c m A s < 2 ^ 30 := by
  unfold pr_W
  split
  · exact pr_U_lt o hm hs
  · decide
def pr_st (b c a num : Nat) : Nat → Nat × Nat
  | 0 => (pr_N b c - 1, num)
  | i + 1 => (pr_ks (pr_W b c (a - 1 - i) (pr_st b c a num i).1) (pr_st b c a num i).2 (pr_N b c), (pr_st b c a num i).2 - pq_sum (pr_ks (pr_W b c (a - 1 - i) (pr_st b c a num i).1) (pr_st b c a num i).2 (pr_N b c)) (pr_W b c (a - 1 - i) (pr_st b c a num i).1))
theorem pr_st_ok {a b c num : Nat} (o : pr_ok b c) (hn : num < pq_U b c a (pr_N b c - 1)) : ∀ i, i ≤ a → (pr_st b c a num i).1 < pr_N b c ∧ (pr_st b c a num i).2 < pq_U b c (a - i) (pr_st b c a num i).1
  | 0, _ => by
    have := pr_N_le o
    exact ⟨by show pr_N b c - 1 < _; omega, hn⟩
  | i + 1, hi => by
    obtain ⟨h1, h2⟩ := pr_st_ok o hn i (by omega)
    rw [show a - i = (a - 1 - i) + 1 by omega, pr_W_sum] at h2
    have h3 : (pr_st b c a num i).2 < pq_sum (pr_N b c) (pr_W b c (a - 1 - i) (pr_st b c a num i).1) := Nat.lt_of_lt_of_le h2 (pr_sum_le (by omega))
    obtain ⟨q1, q2, q3⟩ := pr_ks_spec h3
    refine ⟨q1, ?_⟩
    show (pr_st b c a num i).2 - pq_sum _ _ < pq_U b c (a - (i + 1)) (pr_ks _ _ _)
    rw [pq_sum] at q3
    have h4 : pr_W b c (a - 1 - i) (pr_st b c a num i).1 (pr_ks (pr_W b c (a - 1 - i) (pr_st b c a num i).1) (pr_st b c a num i).2 (pr_N b c)) ≤ pq_U b c (a - 1 - i) (pr_ks (pr_W b c (a - 1 - i) (pr_st b c a num i).1) (pr_st b c a num i).2 (pr_N b c)) := by
      generalize pr_ks (pr_W b c (a - 1 - i) (pr_st b c a num i).1) (pr_st b c a num i).2 (pr_N b c) = k
      unfold pr_W
      split <;> omega
    rw [show a - (i + 1) = a - 1 - i by omega]
    omega
/-- what a pick says -/
theorem pr_st_pick {a b c num : Nat} (o : pr_ok b c) (hn : num < pq_U b c a (pr_N b c - 1)) {i : Nat} (hi : i < a) : (pr_st b c a num (i + 1)).1 < pr_N b c ∧ pq_sum (pr_st b c a num (i + 1)).1 (pr_W b c (a - 1 - i) (pr_st b c a num i).1) ≤ (pr_st b c a num i).2 ∧ (pr_st b c a num i).2 < pq_sum ((pr_st b c a num (i + 1)).1 + 1) (pr_W b c (a - 1 - i) (pr_st b c a num i).1) ∧ (pr_st b c a num (i + 1)).2 = (pr_st b c a num i).2 - pq_sum (pr_st b c a num (i + 1)).1 (pr_W b c (a - 1 - i) (pr_st b c a num i).1) ∧ pr_LE b c (pr_st b c a num (i + 1)).1 (pr_st b c a num i).1 = true := by
  obtain ⟨h1, h2⟩ := pr_st_ok o hn i (by omega)
  rw [show a - i = (a - 1 - i) + 1 by omega, pr_W_sum] at h2
  have h3 : (pr_st b c a num i).2 < pq_sum (pr_N b c) (pr_W b c (a - 1 - i) (pr_st b c a num i).1) := Nat.lt_of_lt_of_le h2 (pr_sum_le (by omega))
  obtain ⟨q1, q2, q3⟩ := pr_ks_spec h3
  refine ⟨q1, q2, q3, rfl, ?_⟩
  have q4 : pq_sum (pr_st b c a num (i + 1)).1 (pr_W b c (a - 1 - i) (pr_st b c a num i).1) ≤ (pr_st b c a num i).2 := q2
  have q5 : (pr_st b c a num i).2 < pq_sum (pr_st b c a num (i + 1)).1 (pr_W b c (a - 1 - i) (pr_st b c a num i).1) + pr_W b c (a - 1 - i) (pr_st b c a num i).1 (pr_st b c a num (i + 1)).1 := q3
  cases e : pr_LE b c (pr_st b c a num (i + 1)).1 (pr_st b c a num i).1
  · have : pr_W b c (a - 1 - i) (pr_st b c a num i).1 (pr_st b c a num (i + 1)).1 = 0 := by
      unfold pr_W; rw [e]; rfl
    omega
  · rfl
/-- the heights of the heap with a number -/
def pr_hn (b c a num : Nat) (t : Nat) : Nat := if t / 4 < a then pr_v b c (pr_st b c a num (t / 4 + 1)).1 (t % 4) else 0
theorem pr_hn_at {a b c num i j : Nat} (hi : i < a) (hj : j < 4) : pr_hn b c a num (4 * i + j) = pr_v b c (pr_st b c a num (i + 1)).1 j := by
  unfold pr_hn; rw [show (4 * i + j) / 4 = i by omega, show (4 * i + j) % 4 = j by omega, if_pos hi]
theorem pr_hn_hv {a b c num : Nat} (ha : 1 ≤ a ∧ a ≤ 4) (o : pr_ok b c) (hm : a * b * c ≤ 48) (hn : num < pq_U b c a (pr_N b c - 1)) : pq_hv a b c (pr_hn b c a num) := by
  refine ⟨ha, ⟨o.1, o.2.1⟩, ⟨o.2.2.1, o.2.2.2⟩, hm, fun i j hi hj => ?_⟩
  by_cases ci : i < a
  · obtain ⟨q1, _, _, _, q5⟩ := pr_st_pick o hn ci
    have r := pr_row o q1 j hj
    rw [pr_hn_at ci hj]
    refine ⟨r.1, fun n => r.2.1 (by omega), fun n => ?_, fun n => by rw [pr_hn_at ci n]; exact r.2.2 n⟩
    by_cases ci2 : i + 1 < a
    · obtain ⟨p1, _, _, _, p5⟩ := pr_st_pick o hn ci2
      rw [pr_hn_at ci2 hj]
      rw [pr_LE4] at p5
      unfold pr_le4 at p5
      rw [decide_eq_true_eq] at p5
      have : j = 0 ∨ j = 1 ∨ j = 2 ∨ j = 3 := by omega
      rcases this with rfl | rfl | rfl | rfl
      · exact p5.1
      · exact p5.2.1
      · exact p5.2.2.1
      · exact p5.2.2.2
    · unfold pr_hn
      rw [if_neg (by omega)]; omega
  · have z : ∀ j', j' < 4 → pr_hn b c a num (4 * i + j') = 0 := fun j' hj' => by unfold pr_hn; rw [if_neg (by omega)]
    have z1 : pr_hn b c a num (4 * (i + 1) + j) = 0 := by unfold pr_hn; rw [if_neg (by omega)]
    rw [z j hj, z1]
    exact ⟨by omega, fun _ => rfl, fun _ => by omega, fun n => by rw [z _ n]; omega⟩
/-- the first rows of heights, as a number -/
theorem pr_enc_row (h : Nat → Nat) (i : Nat) : pq_enc h (4 * (i + 1)) = pq_enc h (4 * i) * 65536 + (h (4 * i) * 4096 + h (4 * i + 1) * 256 + h (4 * i + 2) * 16 + h (4 * i + 3)) := by
  rw [show 4 * (i + 1) = 4 * i + 1 + 1 + 1 + 1 by omega, pq_enc, pq_enc, pq_enc, pq_enc]
  simp only [Nat.add_mul, Nat.mul_assoc]
  omega
theorem pr_enc_tail {h : Nat → Nat} {a : Nat} (ha : a ≤ 4) (hz : ∀ t, 4 * a ≤ t → t < 16 → h t = 0) : pq_enc h 16 = pq_enc h (4 * a) * 2 ^ (64 - 16 * a) := by
  have key : ∀ d, a + d ≤ 4 → pq_enc h (4 * (a + d)) = pq_enc h (4 * a) * 2 ^ (16 * d) := by
    intro d
    induction d with
    | zero => intro _; simp
    | succ d ih =>
      intro hd
      rw [← Nat.add_assoc, pr_enc_row, ih (by omega), hz _ (by omega) (by omega), hz _ (by omega) (by omega), hz _ (by omega) (by omega), hz _ (by omega) (by omega), show 16 * (d + 1) = 16 * d + 16 by omega, Nat.pow_add, ← Nat.mul_assoc]
      simp
  have := key (4 - a) (by omega)
  rw [show 4 * (a + (4 - a)) = 16 by omega, show 16 * (4 - a) = 64 - 16 * a by omega] at this
  exact this
theorem pr_enc_top {h : Nat → Nat} (H : ∀ t, t < 16 → h t ≤ 4) {i : Nat} (hi : i ≤ 4) : pq_enc h (4 * i) * 2 ^ (64 - 16 * i) < 2 ^ 64 := by
  have h1 := pq_enc_lt (h := h) (n := 4 * i) fun t ht => Nat.lt_of_le_of_lt (H t (by omega)) (by decide)
  have e : (16 : Nat) ^ (4 * i) = 2 ^ (16 * i) := by
    rw [show (16 : Nat) = 2 ^ 4 from rfl, ← Nat.pow_mul]; congr 1; omega
  rw [e] at h1
  have h2 : 2 ^ (16 * i) * 2 ^ (64 - 16 * i) = 2 ^ 64 := by rw [← Nat.pow_add]; congr 1; omega
  rw [← h2]
  exact Nat.mul_lt_mul_of_pos_right h1 (Nat.two_pow_pos _)
/-- cubesOf(a, number) -/
theorem pr_cubesOf {a b c num : Nat} {r : kr_S} (ha : 1 ≤ a ∧ a ≤ 4) (o : pr_ok b c) (hm : a * b * c ≤ 48) (hr : pq_rok b c (pr_N b c) r) (hn : num < pq_U b c a (pr_N b c - 1)) : fr_cubesOf (pr_N b c) (nI a) (nI num) r = some (lN (pq_enc (pr_hn b c a num) 16), r) := by
  have hN := pr_N_le o
  have Hv := pr_hn_hv ha o hm hn
  have H4 := pq_hv_h Hv
  have hnl : num < 2 ^ 30 := Nat.lt_trans hn (pr_U_lt o ha.2 (by omega))
  -- one row
  have inner : ∀ (X : Int64) (i : Nat), i < a → lr_cubesOf_31 (pr_N b c) 5000 (nI a) X (nI (pr_st b c a num i).2) (nI (pq_pack (pq_row b c (pr_st b c a num i).1))) (nI i) 0 r = some (.inl (nI a, X, nI (pr_st b c a num (i + 1)).2, nI i, nI (pr_st b c a num (i + 1)).1, r)) := by
    intro X i hi
    obtain ⟨q1, q2, q3, q4, _⟩ := pr_st_pick o hn hi
    obtain ⟨p1, p2⟩ := pr_st_ok o hn i (by omega)
    have p3 : (pr_st b c a num i).2 < 2 ^ 30 := Nat.lt_trans p2 (pr_U_lt o (by omega) p1)
    rw [q4]
    generalize (pr_st b c a num (i + 1)).1 = k at *
    generalize (pr_st b c a num i).1 = A at *
    generalize (pr_st b c a num i).2 = L at *
    unfold lr_cubesOf_31
    have stp : ∀ t, t ≤ k → fr_cubesOf_31 (pr_N b c) (nI a) X (nI (L - pq_sum t (pr_W b c (a - 1 - i) A))) (nI (pq_pack (pq_row b c A))) (nI i) (nI t) r = fr_cubesOf_74 (pr_N b c) (nI a) X (nI (L - pq_sum t (pr_W b c (a - 1 - i) A))) (nI (pq_pack (pq_row b c A))) (nI i) (nI t) (nI (pr_W b c (a - 1 - i) A t)) r := by
      intro t ht
      unfold fr_cubesOf_31 pr_W
      rw [if_neg (nI_ge (show t < pr_N b c by omega) (by omega)), pr_rd (show t < pr_N b c by omega) (by omega), Option.bind_some, hr.2.1 t (by omega), pr_covers_row o (by omega) p1, Option.bind_some]
      cases e : pr_LE b c t A
      · rw [if_pos (show pq_b false = 0 from rfl), if_neg (by decide)]; rfl
      · rw [if_neg (show ¬ pq_b true = 0 by decide), if_pos rfl, show nI a - 1 - nI i = nI (a - 1 - i) by
          simp (disch := omega) only [kq_lit, pk_sub], pr_ix (by omega), Option.bind_some, pr_ru (by omega) (by omega), Option.bind_some, hr.2.2 _ _ (by omega) (by omega)]
    refine kq_run0 (fun t => (nI a, X, nI (L - pq_sum t (pr_W b c (a - 1 - i) A)), nI (pq_pack (pq_row b c A)), nI i, nI t, r)) k rfl (by omega) (fun t ht => ?_) ?_
    · dsimp only
      have h1 := pr_sum_le (f := pr_W b c (a - 1 - i) A) (m := t + 1) (n := k) (by omega)
      rw [pq_sum] at h1
      rw [stp t (by omega)]
      unfold fr_cubesOf_74
      rw [if_pos (nI_le (by omega) (by omega)), pk_sub (by omega), nI_1, pq_sum]
      congr 4
      congr 1
      congr 1
      omega
    · dsimp only
      rw [pq_sum] at q3
      rw [stp k (Nat.le_refl k)]
      unfold fr_cubesOf_74
      have := pr_W_lt o (m := a - 1 - i) (A := A) (s := k) (by omega) q1
      rw [if_neg (nI_ge (by omega) (by omega))]
  have e00 : lN (pq_enc (pr_hn b c a num) (4 * 0) * 2 ^ (64 - 16 * 0)) = 0 := by
    rw [show pq_enc (pr_hn b c a num) (4 * 0) = 0 from rfl, Nat.zero_mul]; rfl
  unfold fr_cubesOf
  rw [show nI (pr_N b c) - 1 = nI (pr_N b c - 1) from pk_sub (b := 1) (by omega), pr_rd (by omega) (by omega), Option.bind_some, hr.2.1 _ (by omega)]
  unfold lr_cubesOf_22
  refine kq_runb (fun i => (nI a, lN (pq_enc (pr_hn b c a num) (4 * i) * 2 ^ (64 - 16 * i)), nI (pr_st b c a num i).2, nI (pq_pack (pq_row b c (pr_st b c a num i).1)), nI i, r)) a (lN (pq_enc (pr_hn b c a num) 16), r) (by rw [e00]; rfl) (by omega) (fun i hi => ?_) ?_ rfl
  · obtain ⟨q1, _⟩ := pr_st_pick o hn hi
    have pk := pr_pk_le o q1
    have erow : pq_pack (pq_row b c (pr_st b c a num (i + 1)).1) = pr_hn b c a num (4 * i) * 4096 + pr_hn b c a num (4 * i + 1) * 256 + pr_hn b c a num (4 * i + 2) * 16 + pr_hn b c a num (4 * i + 3) := by
      rw [pr_pk, show 4 * i = 4 * i + 0 from rfl, pr_hn_at hi (by omega), show 4 * i + 0 + 1 = 4 * i + 1 from rfl, pr_hn_at hi (by omega), show 4 * i + 0 + 2 = 4 * i + 2 from rfl, pr_hn_at hi (by omega), show 4 * i + 0 + 3 = 4 * i + 3 from rfl, pr_hn_at hi (by omega)]
    have hb := pr_enc_top H4 (i := i + 1) (by omega)
    rw [pr_enc_row, ← erow, show 64 - 16 * (i + 1) = 48 - 16 * i by omega] at hb
    have e1 : pq_enc (pr_hn b c a num) (4 * i) * 2 ^ (64 - 16 * i) = pq_enc (pr_hn b c a num) (4 * i) * 65536 * 2 ^ (48 - 16 * i) := by
      rw [show 64 - 16 * i = 16 + (48 - 16 * i) by omega, Nat.pow_add, Nat.mul_assoc]
    dsimp only
    unfold fr_cubesOf_22 fr_cubesOf_117
    rw [if_neg (nI_ge hi (by omega)), inner _ i hi, Option.bind_some]
    dsimp only [kj_se]
    rw [pr_rd q1 (by omega), Option.bind_some, hr.2.1 _ q1, e1, pr_withRow (by omega) (by omega) hb, Option.bind_some, nI_1, pr_enc_row, ← erow, show 64 - 16 * (i + 1) = 48 - 16 * i by omega]
  · dsimp only
    unfold fr_cubesOf_22
    rw [if_pos (nI_le (Nat.le_refl a) (by omega)), ← pr_enc_tail ha.2 fun t h1 h2 => by
      have := (Hv.2.2.2.2 (t / 4) (t % 4) (by omega) (by omega)).2.1 (by omega)
      rwa [show 4 * (t / 4) + t % 4 = t by omega] at this]
/-- makes(a, b, c, number), over rows that lie -/
theorem pm_makes {z : km_S} {a b c num : Nat} (ha : 1 ≤ a ∧ a ≤ 4) (o : pr_ok b c) (hm : a * b * c ≤ 48) (hz : pr_ly a b c z) (hn : num < pq_U b c a (pr_N b c - 1)) : ∃ z', fm_makes (nI a) (nI b) (nI c) (nI num) z = some z' ∧ pq_mb (z'.2.1 4) 0 a b c (pr_hn b c a num) ∧ pr_fq [] [4] z z' ∧ z'.2.2 = z.2.2 := by
  have hN := pr_N_le o
  have hb := o.2.1
  have Hv := pr_hn_hv ha o hm hn
  have lyg : ∀ g, pr_ly a b c (z.1, va_up z.2.1 4 g, z.2.2) := fun g => pr_ly_fq hz (pr_fq_u (I := []) (A := [4]) (by decide)) (by decide) (by decide) (by decide)
  have inner : ∀ (g : Nat → Int32) (i : Nat), i < a → lm_makes_37 5000 (nI a) (nI b) (nI (pr_st b c a num i).2) (nI (pr_st b c a num i).1) (nI i) 0 0 (z.1, va_up z.2.1 4 g, z.2.2) = some (nI a, nI b, nI (pr_st b c a num (i + 1)).2, nI i, nI (pr_st b c a num (i + 1)).1, (z.1, va_up z.2.1 4 g, z.2.2)) := by
    intro g i hi
    obtain ⟨q1, q2, q3, q4, _⟩ := pr_st_pick o hn hi
    obtain ⟨p1, p2⟩ := pr_st_ok o hn i (by omega)
    have p3 : (pr_st b c a num i).2 < 2 ^ 30 := Nat.lt_trans p2 (pr_U_lt o (by omega) p1)
    rw [q4]
    generalize (pr_st b c a num (i + 1)).1 = k at *
    generalize (pr_st b c a num i).1 = A at *
    generalize (pr_st b c a num i).2 = L at *
    unfold lm_makes_37
    have stp : ∀ t, t ≤ k → fm_makes_37 (nI a) (nI b) (nI (L - pq_sum t (pr_W b c (a - 1 - i) A))) (nI A) (nI i) (nI t) 0 (z.1, va_up z.2.1 4 g, z.2.2) = fm_makes_74 (nI a) (nI b) (nI (L - pq_sum t (pr_W b c (a - 1 - i) A))) (nI A) (nI i) (nI t) (nI (pr_W b c (a - 1 - i) A t)) (z.1, va_up z.2.1 4 g, z.2.2) := by
      intro t ht
      unfold fm_makes_37 pr_W
      rw [if_pos rfl, pm_isUnder o (lyg g).1 (by omega) p1, Option.bind_some]
      cases e : pr_LE b c t A
      · rw [if_pos (show pq_b false = 0 from rfl), if_neg (by decide)]; rfl
      · rw [if_neg (show ¬ pq_b true = 0 by decide), if_pos rfl, show (5 : Int32) * nI t + nI a - 1 - nI i = nI (5 * t + (a - 1 - i)) by
          rw [show (5 : Int32) * nI t = nI (5 * t) from pk_mul 5 t, nI_add, show nI (5 * t + a) - 1 = nI (5 * t + a - 1) from pk_sub (b := 1) (by omega), pk_sub (by omega)]; congr 1; omega, pq_rdn ((lyg g).2 (a - 1 - i) (by omega) t (by omega)) (show 5 * t + (a - 1 - i) < 350 by omega), Option.bind_some]
    refine kq_run0 (fun t => (nI a, nI b, nI (L - pq_sum (min t k) (pr_W b c (a - 1 - i) A)), nI A, nI i, nI (min t k), (if t ≤ k then (0 : Int32) else 1), (z.1, va_up z.2.1 4 g, z.2.2))) (k + 1) rfl (by omega) (fun t ht => ?_) ?_
    · dsimp only
      rw [if_pos (show t ≤ k by omega), show min t k = t by omega, stp t (by omega)]
      unfold fm_makes_74 fm_makes_88 fm_makes_103 fm_makes_118
      by_cases e : t = k
      · subst e
        rw [pq_sum] at q3
        have := pr_W_lt o (m := a - 1 - i) (A := A) (s := t) (by omega) q1
        rw [if_neg (nI_ge (by omega) (by omega)), if_neg kq_10, if_neg kq_10, if_neg (by omega), show min (t + 1) t = t by omega, show ∀ x, nI x - 0 = nI x from fun x => pk_sub (b := 0) (by omega), show nI t + 0 = nI t from nI_add t 0]
      · have h1 := pr_sum_le (f := pr_W b c (a - 1 - i) A) (m := t + 1) (n := k) (by omega)
        rw [pq_sum] at h1
        rw [if_pos (nI_le (by omega) (by omega)), if_pos rfl, if_pos rfl, if_pos (by omega), show min (t + 1) k = t + 1 by omega, pk_sub (by omega), nI_1, pq_sum]
        congr 4
        congr 1
        congr 1
        omega
    · dsimp only
      rw [if_neg (by omega), show min (k + 1) k = k by omega]
      unfold fm_makes_37
      rw [if_neg kq_10]
  unfold fm_makes
  rw [pm_begins (by decide), Option.bind_some]
  dsimp only
  rw [hz.1.1, show nI (pr_N b c) - 1 = nI (pr_N b c - 1) from pk_sub (b := 1) (by omega)]
  unfold lm_makes_25
  refine kq_itb (fun i s => ∃ g, s = (nI a, nI b, nI (pr_st b c a num i).2, nI (pr_st b c a num i).1, nI i, (z.1, va_up z.2.1 4 g, z.2.2)) ∧ (g 0 = 1 ∧ g 1 = nI a ∧ g 2 = nI b ∧ g 3 = nI c) ∧ ∀ t, t < 16 → g (4 + t) = if t / 4 < i then nI (pr_hn b c a num t) else 0)
    (fun r => ∃ g, r = ((z.1, va_up z.2.1 4 g, z.2.2) : km_S) ∧ (g 0 = 1 ∧ g 1 = nI a ∧ g 2 = nI b ∧ g 3 = nI c) ∧ ∀ t, t < 16 → g (4 + t) = if t / 4 < a then nI (pr_hn b c a num t) else 0) a (by omega) ⟨_, rfl, ⟨rfl, rfl, rfl, rfl⟩, fun t ht => ?_⟩ ?_ ?_ ?_
  · rw [if_neg (by omega)]; unfold pq_bg
    rw [if_neg (by omega), if_neg (by omega), if_neg (by omega), if_neg (by omega), if_pos (by omega)]
  · rintro i s hi ⟨g, rfl, g1, g2⟩
    obtain ⟨q1, _⟩ := pr_st_pick o hn hi
    dsimp only
    unfold fm_makes_25
    rw [if_neg (nI_ge hi (by omega)), inner g i hi, Option.bind_some]
    dsimp only
    rw [show (0 : Int32) = nI 0 from rfl, pq_at, Option.bind_some, show (4 : Int32) * nI (pr_st b c a num (i + 1)).1 = nI (4 * (pr_st b c a num (i + 1)).1) from pk_mul 4 _, kq_bring (show 4 * (pr_st b c a num (i + 1)).1 + b ≤ 280 by omega) (show 4 + 4 * i + 0 + b ≤ 20 by omega) (by omega) (fun h => absurd h (by decide)), Option.bind_some, nI_1]
    dsimp only
    rw [bx_uu, va_up_self, va_up_ne _ _ (show (6 : Nat) ≠ 4 by decide)]
    refine ⟨_, rfl, _, rfl, ?_, fun t ht => ?_⟩
    · rw [pq_cpy_out (by omega), pq_cpy_out (by omega), pq_cpy_out (by omega), pq_cpy_out (by omega)]; exact g1
    · by_cases e : t / 4 = i
      · rw [if_pos (by omega)]
        have ht4 : t = 4 * i + t % 4 := by omega
        by_cases ej : t % 4 < b
        · rw [show 4 + t = 4 + 4 * i + 0 + t % 4 by omega, pq_cpy_in ej, hz.1.2 _ q1 _ ej, ← pr_hn_at hi (by omega), ← ht4]
        · rw [pq_cpy_out (by omega), g2 t ht, if_neg (by omega)]
          have := (Hv.2.2.2.2 i (t % 4) (by omega) (by omega)).2.1 (by omega)
          rw [← ht4] at this
          rw [this]; rfl
      · rw [pq_cpy_out (by omega), g2 t ht]
        by_cases e2 : t / 4 < i
        · rw [if_pos e2, if_pos (by omega)]
        · rw [if_neg e2, if_neg (by omega)]; rfl
  · rintro s ⟨g, rfl, g1, g2⟩
    refine ⟨_, ?_, g, rfl, g1, g2⟩
    dsimp only
    unfold fm_makes_25
    rw [if_pos (nI_le (Nat.le_refl a) (by omega))]
  · rintro r ⟨g, rfl, g1, g2⟩
    refine ⟨_, rfl, ?_, pr_fq_u (by decide), rfl⟩
    dsimp only
    rw [va_up_self]
    refine ⟨g1.1, g1.2.1, g1.2.2.1, g1.2.2.2, fun t ht => ?_⟩
    rw [Nat.zero_add, g2 t ht]
    by_cases e : t / 4 < a
    · rw [if_pos e]
    · rw [if_neg e]; unfold pr_hn; rw [if_neg e]; rfl
