/-! heaps turned and joined, as heights -/
theorem pq_sum_cut {n a : Nat} {f : Nat → Nat} (ha : a ≤ n) (h : ∀ k, a ≤ k → k < n → f k = 0) : pq_sum n f = pq_sum a f := by
  induction n with
  | zero => have : a = 0 := by omega
            subst this; rfl
  | succ n ih =>
    by_cases e : a = n + 1
    · subst e; rfl
    · rw [pq_sum, ih (by omega) fun k h1 h2 => h k h1 (by omega), h n (by omega) (by omega), Nat.add_zero]
theorem pq_sum_add {n : Nat} {f g : Nat → Nat} : pq_sum n (fun k => f k + g k) = pq_sum n f + pq_sum n g := by
  induction n with
  | zero => rfl
  | succ n ih => rw [pq_sum, pq_sum, pq_sum, ih]; omega
theorem pq_sum_mul {n c : Nat} {f : Nat → Nat} : c * pq_sum n f = pq_sum n fun k => c * f k := by
  induction n with
  | zero => rfl
  | succ n ih => rw [pq_sum, pq_sum, ← ih, Nat.mul_add]
theorem pq_sum_zero {n : Nat} : pq_sum n (fun _ => 0) = 0 := by
  induction n with
  | zero => rfl
  | succ n ih => rw [pq_sum, ih]
theorem pq_sum_swap {m n : Nat} {f : Nat → Nat → Nat} : pq_sum m (fun i => pq_sum n (f i)) = pq_sum n fun j => pq_sum m fun i => f i j := by
  induction m with
  | zero => simp only [pq_sum]; rw [pq_sum_zero]
  | succ m ih =>
    simp only [pq_sum]; rw [ih, pq_sum_add]
theorem pq_enc_sum {a b : Nat} {h : Nat → Nat} (ha : a ≤ 4) (hb : b ≤ 4) (H : ∀ i j, i < 4 → j < 4 → ¬ (i < a ∧ j < b) → h (4 * i + j) = 0) : pq_sum a (fun i => pq_sum b fun j => 16 ^ (15 - (4 * i + j)) * h (4 * i + j)) = pq_enc h 16 := by
  rw [← pq_sum_cut (n := 4) ha fun k h1 h2 => by
    rw [pq_sum_eq (g := fun _ => 0) fun j hj => by rw [H k j h2 (by omega) (by omega), Nat.mul_zero]]
    exact pq_sum_zero]
  rw [pq_sum_eq (g := fun i => pq_sum 4 fun j => 16 ^ (15 - (4 * i + j)) * h (4 * i + j)) fun i hi =>
    (pq_sum_cut hb fun k h1 h2 => by rw [H i k hi h2 (by omega), Nat.mul_zero]).symm]
  simp [pq_sum, pq_enc]
  omega
def pq_T (h : Nat → Nat) (t : Nat) : Nat := h (4 * (t % 4) + t / 4)
def pq_R (a : Nat) (h : Nat → Nat) (t : Nat) : Nat := pq_sum a fun i => if t % 4 < h (4 * i + t / 4) then 1 else 0
def pq_C (a b c : Nat) (h : Nat → Nat) (t : Nat) : Nat := if t / 4 < a ∧ t % 4 < b then c - h (4 * (a - 1 - t / 4) + (b - 1 - t % 4)) else 0
def pq_J (w : Bool) (h g : Nat → Nat) (t : Nat) : Nat := if w then max (h t) (g t) else min (h t) (g t)
theorem pq_T_at {h : Nat → Nat} {i j : Nat} (hj : j < 4) : pq_T h (4 * i + j) = h (4 * j + i) := by
  unfold pq_T; congr 1; omega
theorem pq_R_at {a : Nat} {h : Nat → Nat} {i j : Nat} (hj : j < 4) : pq_R a h (4 * i + j) = pq_sum a fun k => if j < h (4 * k + i) then 1 else 0 := by
  unfold pq_R; rw [show (4 * i + j) % 4 = j by omega, show (4 * i + j) / 4 = i by omega]
theorem pq_C_at {a b c : Nat} {h : Nat → Nat} {i j : Nat} (hj : j < 4) : pq_C a b c h (4 * i + j) = if i < a ∧ j < b then c - h (4 * (a - 1 - i) + (b - 1 - j)) else 0 := by
  unfold pq_C; rw [show (4 * i + j) % 4 = j by omega, show (4 * i + j) / 4 = i by omega]
theorem pq_mono {n : Nat} {f g : Nat → Nat} (h : ∀ k, k < n → f k ≤ g k) : pq_sum n f ≤ pq_sum n g := by
  induction n with
  | zero => exact Nat.le_refl _
  | succ n ih => have h1 := ih fun k hk => h k (by omega)
                 have h2 := h n (by omega)
                 rw [pq_sum, pq_sum]; omega
theorem pq_hv_T {a b c : Nat} {h : Nat → Nat} (H : pq_hv a b c h) : pq_hv b a c (pq_T h) := by
  obtain ⟨ha, hb, hc, hm, hh⟩ := H
  refine ⟨hb, ha, hc, by rw [Nat.mul_comm b a]; exact hm, fun i j hi hj => ?_⟩
  rw [pq_T_at hj, pq_T_at hj]
  have q := hh j i hj hi
  refine ⟨q.1, fun n => q.2.1 (by omega), fun n => ?_, fun n => ?_⟩
  · exact q.2.2.2 n
  · rw [pq_T_at n]; exact q.2.2.1 n
theorem pq_hv_R {a b c : Nat} {h : Nat → Nat} (H : pq_hv a b c h) : pq_hv b c a (pq_R a h) := by
  obtain ⟨ha, hb, hc, hm, hh⟩ := H
  refine ⟨hb, hc, ha, by rw [Nat.mul_comm (b * c) a, ← Nat.mul_assoc]; exact hm, fun i j hi hj => ?_⟩
  rw [pq_R_at hj, pq_R_at hj]
  refine ⟨?_, fun n => ?_, fun n => ?_, fun n => ?_⟩
  · have := pq_sum_le (n := a) (m := 1) (f := fun k => if j < h (4 * k + i) then 1 else 0) fun k hk => by split <;> omega
    omega
  · rw [pq_sum_eq (g := fun _ => 0) fun k hk => ?_]
    · exact pq_sum_zero
    · have q := hh k i (by omega) hi
      have q2 : i < b → ¬ j < c := by omega
      by_cases e : i < b
      · rw [if_neg (by have := q2 e; omega)]
      · rw [q.2.1 (by omega), if_neg (by omega)]
  · exact pq_mono fun k hk => by
      have q := (hh k i (by omega) hi).2.2.2 n
      split <;> split <;> omega
  · rw [pq_R_at n]
    exact pq_mono fun k hk => by split <;> split <;> omega
theorem pq_hv_m1 {a b c : Nat} {h : Nat → Nat} (H : pq_hv a b c h) {i j k : Nat} (hk : k < 4) (hij : i ≤ k) (hj : j < 4) : h (4 * k + j) ≤ h (4 * i + j) := by
  have h1 := fun i j hi hj => (H.2.2.2.2 i j hi hj).2.2.1
  obtain ⟨d, rfl⟩ : ∃ d, k = i + d := ⟨k - i, by omega⟩
  clear hij
  induction d with
  | zero => exact Nat.le_refl _
  | succ d ih => exact Nat.le_trans (h1 (i + d) j (by omega) hj (by omega)) (ih (by omega))
theorem pq_hv_m2 {a b c : Nat} {h : Nat → Nat} (H : pq_hv a b c h) {i j k : Nat} (hk : k < 4) (hij : j ≤ k) (hi : i < 4) : h (4 * i + k) ≤ h (4 * i + j) := by
  have h1 := fun i j hi hj => (H.2.2.2.2 i j hi hj).2.2.2
  obtain ⟨d, rfl⟩ : ∃ d, k = j + d := ⟨k - j, by omega⟩
  clear hij
  induction d with
  | zero => exact Nat.le_refl _
  | succ d ih => exact Nat.le_trans (h1 i (j + d) hi (by omega) (by omega)) (ih (by omega))
theorem pq_hv_C {a b c : Nat} {h : Nat → Nat} (H : pq_hv a b c h) : pq_hv a b c (pq_C a b c h) := by
  have H' := H
  obtain ⟨ha, hb, hc, hm, hh⟩ := H
  refine ⟨ha, hb, hc, hm, fun i j hi hj => ?_⟩
  rw [pq_C_at hj, pq_C_at hj]
  refine ⟨?_, fun n => if_neg n, fun n => ?_, fun n => ?_⟩
  · split <;> omega
  · by_cases e : i + 1 < a ∧ j < b
    · rw [if_pos e, if_pos ⟨by omega, e.2⟩]
      have := pq_hv_m1 H' (i := a - 1 - (i + 1)) (k := a - 1 - i) (j := b - 1 - j) (by omega) (by omega) (by omega)
      omega
    · rw [if_neg e]; omega
  · rw [pq_C_at n]
    by_cases e : i < a ∧ j + 1 < b
    · rw [if_pos e, if_pos ⟨e.1, by omega⟩]
      have := pq_hv_m2 H' (i := a - 1 - i) (j := b - 1 - (j + 1)) (k := b - 1 - j) (by omega) (by omega) (by omega)
      omega
    · rw [if_neg e]; omega
theorem pq_hv_J {w : Bool} {a b c : Nat} {h g : Nat → Nat} (H : pq_hv a b c h) (G : pq_hv a b c g) : pq_hv a b c (pq_J w h g) := by
  obtain ⟨ha, hb, hc, hm, hh⟩ := H
  refine ⟨ha, hb, hc, hm, fun i j hi hj => ?_⟩
  have q := hh i j hi hj
  have r := G.2.2.2.2 i j hi hj
  unfold pq_J
  cases w
  · simp only [Bool.false_eq_true, if_false]
    refine ⟨by omega, fun n => by have := q.2.1 n; have := r.2.1 n; omega, fun n => by have := q.2.2.1 n; have := r.2.2.1 n; omega, fun n => by have := q.2.2.2 n; have := r.2.2.2 n; omega⟩
  · simp only [if_true]
    refine ⟨by omega, fun n => by have := q.2.1 n; have := r.2.1 n; omega, fun n => by have := q.2.2.1 n; have := r.2.2.1 n; omega, fun n => by have := q.2.2.2 n; have := r.2.2.2 n; omega⟩
/-! the class's texts of them -/
theorem pq_transposed {a b c : Nat} {h : Nat → Nat} (H : pq_hv a b c h) : fx_transposed (nI a) (nI b) (nI c) (lN (pq_enc h 16)) = some (lN (pq_enc (pq_T h) 16)) := by
  have ha := H.1; have hb := H.2.1
  have inner : ∀ (x i : Nat), i < a → lx_transposed_17 (nI a) (nI b) (nI c) 5000 (lN (pq_enc h 16)) (lN x) (nI i) 0 = some (lN (pq_enc h 16), lN (x + pq_sum b fun j => 16 ^ (15 - (4 * j + i)) * h (4 * i + j)), nI i) := by
    intro x i hi
    unfold lx_transposed_17
    refine kq_run0 (fun k => (lN (pq_enc h 16), lN (x + pq_sum k fun j => 16 ^ (15 - (4 * j + i)) * h (4 * i + j)), nI i, nI k)) b rfl (by omega) (fun k hk => ?_) ?_
    · dsimp only
      unfold fx_transposed_17
      have := pq_hv_h H (4 * i + k) (by omega)
      rw [if_neg (nI_ge hk (by omega)), pq_cube (by omega) (by omega), Option.bind_some, pq_level H (by omega) (by omega), Option.bind_some, pq_g_in hi hk, nI_l (by omega), lN_mul, lN_add, nI_1, pq_sum, Nat.add_assoc]
    · dsimp only
      unfold fx_transposed_17
      rw [if_pos (nI_le (Nat.le_refl b) (by omega))]
  unfold fx_transposed lx_transposed_5
  refine kq_runb (fun k => (lN (pq_enc h 16), lN (pq_sum k fun i => pq_sum b fun j => 16 ^ (15 - (4 * j + i)) * h (4 * i + j)), nI k)) a (h0 := rfl) (hn := by omega) (hs := fun k hk => ?_) (r := lN (pq_sum a fun i => pq_sum b fun j => 16 ^ (15 - (4 * j + i)) * h (4 * i + j))) ?_ ?_
  · dsimp only
    unfold fx_transposed_5
    rw [if_neg (nI_ge hk (by omega)), inner _ _ hk, Option.bind_some]
    simp only [nI_1, pq_sum]
  · dsimp only
    unfold fx_transposed_5
    rw [if_pos (nI_le (Nat.le_refl a) (by omega))]
  · rw [pq_sum_swap, ← pq_enc_sum hb.2 ha.2 fun i j hi hj n => ((pq_hv_T H).2.2.2.2 i j hi hj).2.1 n]
    congr 2
    exact pq_sum_eq fun j hj => pq_sum_eq fun i hi => by rw [pq_T_at (by omega)]
theorem pq_complemented {a b c : Nat} {h : Nat → Nat} (H : pq_hv a b c h) : fx_complemented (nI a) (nI b) (nI c) (lN (pq_enc h 16)) = some (lN (pq_enc (pq_C a b c h) 16)) := by
  have ha := H.1; have hb := H.2.1; have hc := H.2.2.1
  have inner : ∀ (x i : Nat), i < a → lx_complemented_17 (nI a) (nI b) (nI c) 5000 (lN (pq_enc h 16)) (lN x) (nI i) 0 = some (lN (pq_enc h 16), lN (x + pq_sum b fun j => 16 ^ (15 - (4 * i + j)) * pq_C a b c h (4 * i + j)), nI i) := by
    intro x i hi
    unfold lx_complemented_17
    refine kq_run0 (fun k => (lN (pq_enc h 16), lN (x + pq_sum k fun j => 16 ^ (15 - (4 * i + j)) * pq_C a b c h (4 * i + j)), nI i, nI k)) b rfl (by omega) (fun k hk => ?_) ?_
    · dsimp only
      unfold fx_complemented_17
      have q := (H.2.2.2.2 (a - 1 - i) (b - 1 - k) (by omega) (by omega)).1
      rw [if_neg (nI_ge hk (by omega)), pq_cube (by omega) (by omega), Option.bind_some, show (nI a - 1 - nI i) = nI (a - 1 - i) by
        simp (disch := omega) only [kq_lit, pk_sub], show (nI b - 1 - nI k) = nI (b - 1 - k) by
        simp (disch := omega) only [kq_lit, pk_sub], pq_level H (by omega) (by omega), Option.bind_some, pq_g_in (by omega) (by omega), pk_sub q, nI_l (by omega), lN_mul, lN_add, nI_1, pq_sum, pq_C_at (by omega), if_pos ⟨hi, hk⟩, Nat.add_assoc]
    · dsimp only
      unfold fx_complemented_17
      rw [if_pos (nI_le (Nat.le_refl b) (by omega))]
  unfold fx_complemented lx_complemented_5
  refine kq_runb (fun k => (lN (pq_enc h 16), lN (pq_sum k fun i => pq_sum b fun j => 16 ^ (15 - (4 * i + j)) * pq_C a b c h (4 * i + j)), nI k)) a (h0 := rfl) (hn := by omega) (hs := fun k hk => ?_) (r := lN (pq_sum a fun i => pq_sum b fun j => 16 ^ (15 - (4 * i + j)) * pq_C a b c h (4 * i + j))) ?_ ?_
  · dsimp only
    unfold fx_complemented_5
    rw [if_neg (nI_ge hk (by omega)), inner _ _ hk, Option.bind_some]
    simp only [nI_1, pq_sum]
  · dsimp only
    unfold fx_complemented_5
    rw [if_pos (nI_le (Nat.le_refl a) (by omega))]
  · rw [pq_enc_sum ha.2 hb.2 fun i j hi hj n => ((pq_hv_C H).2.2.2.2 i j hi hj).2.1 n]
theorem pq_rotated {a b c : Nat} {h : Nat → Nat} (H : pq_hv a b c h) : fx_rotated (nI a) (nI b) (nI c) (lN (pq_enc h 16)) = some (lN (pq_enc (pq_R a h) 16)) := by
  have ha := H.1; have hb := H.2.1; have hc := H.2.2.1
  have in2 : ∀ (x i j n : Nat), i < a → j < b → n ≤ 4 → lx_rotated_40 (nI a) (nI b) (nI c) 5000 (lN (pq_enc h 16)) (lN x) (nI i) (nI j) (nI n) 0 = some (lN (pq_enc h 16), lN (x + pq_sum n fun z => 16 ^ (15 - (4 * j + z))), nI i, nI j) := by
    intro x i j n hi hj hn
    unfold lx_rotated_40
    refine kq_run0 (fun k => (lN (pq_enc h 16), lN (x + pq_sum k fun z => 16 ^ (15 - (4 * j + z))), nI i, nI j, nI n, nI k)) n rfl (by omega) (fun k hk => ?_) ?_
    · dsimp only
      unfold fx_rotated_40
      rw [if_neg (nI_ge hk (by omega)), pq_cube (by omega) (by omega), Option.bind_some, lN_add, nI_1, pq_sum, Nat.add_assoc]
    · dsimp only
      unfold fx_rotated_40
      rw [if_pos (nI_le (Nat.le_refl n) (by omega))]
  have inner : ∀ (x i : Nat), i < a → lx_rotated_17 (nI a) (nI b) (nI c) 5000 (lN (pq_enc h 16)) (lN x) (nI i) 0 = some (lN (pq_enc h 16), lN (x + pq_sum b fun j => pq_sum (h (4 * i + j)) fun z => 16 ^ (15 - (4 * j + z))), nI i) := by
    intro x i hi
    unfold lx_rotated_17
    refine kq_run0 (fun k => (lN (pq_enc h 16), lN (x + pq_sum k fun j => pq_sum (h (4 * i + j)) fun z => 16 ^ (15 - (4 * j + z))), nI i, nI k)) b rfl (by omega) (fun k hk => ?_) ?_
    · dsimp only
      unfold fx_rotated_17
      have q := pq_hv_h H (4 * i + k) (by omega)
      rw [if_neg (nI_ge hk (by omega)), pq_level H (by omega) (by omega), Option.bind_some, pq_g_in hi hk, in2 _ _ _ _ hi hk q, Option.bind_some]
      simp only [nI_1, pq_sum, Nat.add_assoc]
    · dsimp only
      unfold fx_rotated_17
      rw [if_pos (nI_le (Nat.le_refl b) (by omega))]
  unfold fx_rotated lx_rotated_5
  refine kq_runb (fun k => (lN (pq_enc h 16), lN (pq_sum k fun i => pq_sum b fun j => pq_sum (h (4 * i + j)) fun z => 16 ^ (15 - (4 * j + z))), nI k)) a (h0 := rfl) (hn := by omega) (hs := fun k hk => ?_) (r := lN (pq_sum a fun i => pq_sum b fun j => pq_sum (h (4 * i + j)) fun z => 16 ^ (15 - (4 * j + z)))) ?_ ?_
  · dsimp only
    unfold fx_rotated_5
    rw [if_neg (nI_ge hk (by omega)), inner _ _ hk, Option.bind_some]
    simp only [nI_1, pq_sum]
  · dsimp only
    unfold fx_rotated_5
    rw [if_pos (nI_le (Nat.le_refl a) (by omega))]
  · rw [← pq_enc_sum hb.2 hc.2 fun i j hi hj n => ((pq_hv_R H).2.2.2.2 i j hi hj).2.1 n]
    congr 2
    rw [pq_sum_swap]
    refine pq_sum_eq fun j hj => ?_
    rw [pq_sum_eq (g := fun i => pq_sum c fun z => if z < h (4 * i + j) then 16 ^ (15 - (4 * j + z)) else 0) fun i hi => ?_, pq_sum_swap]
    · refine pq_sum_eq fun z hz => ?_
      rw [pq_R_at (by omega), pq_sum_mul]
      exact pq_sum_eq fun i hi => by split <;> simp
    · have q := (H.2.2.2.2 i j (by omega) (by omega)).1
      rw [pq_sum_cut (n := c) q fun k h1 h2 => if_neg (by omega)]
      exact pq_sum_eq fun z hz => (if_pos hz).symm
theorem pq_joined (w : Bool) {a b c : Nat} {h g : Nat → Nat} (H : pq_hv a b c h) (G : pq_hv a b c g) : fx_joined (nI a) (nI b) (nI c) (lN (pq_enc h 16)) (lN (pq_enc g 16)) (pq_b w) = some (lN (pq_enc (pq_J w h g) 16)) := by
  have ha := H.1; have hb := H.2.1; have hc := H.2.2.1
  have inner : ∀ (x i : Nat), i < a → lx_joined_18 (nI a) (nI b) (nI c) 5000 (lN (pq_enc h 16)) (lN (pq_enc g 16)) (pq_b w) (lN x) (nI i) 0 = some (lN (pq_enc h 16), lN (pq_enc g 16), pq_b w, lN (x + pq_sum b fun j => 16 ^ (15 - (4 * i + j)) * pq_J w h g (4 * i + j)), nI i) := by
    intro x i hi
    unfold lx_joined_18
    refine kq_run0 (fun k => (lN (pq_enc h 16), lN (pq_enc g 16), pq_b w, lN (x + pq_sum k fun j => 16 ^ (15 - (4 * i + j)) * pq_J w h g (4 * i + j)), nI i, nI k)) b rfl (by omega) (fun k hk => ?_) ?_
    · dsimp only
      unfold fx_joined_18
      have q := pq_hv_h H (4 * i + k) (by omega)
      have r := pq_hv_h G (4 * i + k) (by omega)
      rw [if_neg (nI_ge hk (by omega)), pq_level H (by omega) (by omega), Option.bind_some, pq_level G (by omega) (by omega), Option.bind_some, pq_cube (by omega) (by omega), Option.bind_some, pq_g_in hi hk, pq_g_in hi hk]
      unfold fx_joined_80
      have e : ∀ v : Nat, v ≤ 4 → (some (.inl (lN (pq_enc h 16), lN (pq_enc g 16), pq_b w, (lN (x + pq_sum k fun j => 16 ^ (15 - (4 * i + j)) * pq_J w h g (4 * i + j)) + (lN (16 ^ (15 - (4 * i + k))) * (nI v).toInt64)), nI i, (nI k + 1))) : Option ((Int64 × Int64 × Int32 × Int64 × Int32 × Int32) ⊕ (Int64 × Int64 × Int32 × Int64 × Int32))) = some (.inl (lN (pq_enc h 16), lN (pq_enc g 16), pq_b w, lN (x + (pq_sum k (fun j => 16 ^ (15 - (4 * i + j)) * pq_J w h g (4 * i + j)) + 16 ^ (15 - (4 * i + k)) * v)), nI i, nI (k + 1))) := by
        intro v hv
        rw [nI_l (by omega), lN_mul, lN_add, nI_1, Nat.add_assoc]
      rw [pq_sum]
      cases w
      · rw [if_pos (show pq_b false = 0 from rfl)]
        simp (disch := omega) only [nI_ltI]
        by_cases c1 : g (4 * i + k) < h (4 * i + k)
        · rw [if_pos c1, e _ r, show pq_J false h g (4 * i + k) = g (4 * i + k) by simp [pq_J]; omega]
        · rw [if_neg c1, e _ q, show pq_J false h g (4 * i + k) = h (4 * i + k) by simp [pq_J]; omega]
      · rw [if_neg (show ¬ pq_b true = 0 by decide)]
        simp (disch := omega) only [nI_ltI]
        by_cases c1 : h (4 * i + k) < g (4 * i + k)
        · rw [if_pos c1, e _ r, show pq_J true h g (4 * i + k) = g (4 * i + k) by simp [pq_J]; omega]
        · rw [if_neg c1, e _ q, show pq_J true h g (4 * i + k) = h (4 * i + k) by simp [pq_J]; omega]
    · dsimp only
      unfold fx_joined_18
      rw [if_pos (nI_le (Nat.le_refl b) (by omega))]
  unfold fx_joined lx_joined_6
  refine kq_runb (fun k => (lN (pq_enc h 16), lN (pq_enc g 16), pq_b w, lN (pq_sum k fun i => pq_sum b fun j => 16 ^ (15 - (4 * i + j)) * pq_J w h g (4 * i + j)), nI k)) a (h0 := rfl) (hn := by omega) (hs := fun k hk => ?_) (r := lN (pq_sum a fun i => pq_sum b fun j => 16 ^ (15 - (4 * i + j)) * pq_J w h g (4 * i + j))) ?_ ?_
  · dsimp only
    unfold fx_joined_6
    rw [if_neg (nI_ge hk (by omega)), inner _ _ hk, Option.bind_some]
    simp only [nI_1, pq_sum]
  · dsimp only
    unfold fx_joined_6
    rw [if_pos (nI_le (Nat.le_refl a) (by omega))]
  · rw [pq_enc_sum ha.2 hb.2 fun i j hi hj n => ((pq_hv_J (w := w) H G).2.2.2.2 i j hi hj).2.1 n]
