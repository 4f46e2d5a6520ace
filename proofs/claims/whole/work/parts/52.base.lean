/-! THE PURE SIDE, II: small numbers, one state a turn, shifts, digits, sums -/
theorem kq_lit (n : Nat) : (OfNat.ofNat n : Int32) = nI (OfNat.ofNat n) := rfl
theorem kq_litL (n : Nat) : (OfNat.ofNat n : Int64) = lN (OfNat.ofNat n) := rfl
/-- a loop whose k-th state is said -/
theorem kq_runF {S R : Type} {step : S → Option (S ⊕ R)} (s : Nat → S) (n : Nat) {r : R} : ∀ (d k fuel : Nat), k + d = n → d < fuel → (∀ k, k < n → step (s k) = some (.inl (s (k + 1)))) → step (s n) = some (.inr r) → kj_it step fuel (s k) = some r := by
  intro d
  induction d with
  | zero =>
    intro k fuel hk hf hs hx
    obtain ⟨f, rfl⟩ : ∃ f, fuel = f + 1 := ⟨fuel - 1, by omega⟩
    have hk' : k = n := by omega
    subst hk'
    simp [kj_it, hx]
  | succ d ih =>
    intro k fuel hk hf hs hx
    obtain ⟨f, rfl⟩ : ∃ f, fuel = f + 1 := ⟨fuel - 1, by omega⟩
    have h1 := hs k (by omega)
    have h2 := ih (k + 1) f (by omega) (by omega) hs hx
    simp [kj_it, h1, h2]
theorem kq_run {S R : Type} {step : S → Option (S ⊕ R)} (s : Nat → S) (n : Nat) {r : R} (hn : n < 5000) (hs : ∀ k, k < n → step (s k) = some (.inl (s (k + 1)))) (hx : step (s n) = some (.inr r)) : kj_it step 5000 (s 0) = some r :=
  kq_runF s n n 0 5000 (by omega) hn hs hx
theorem kq_runb {S R T : Type} {step : S → Option (S ⊕ R)} {k : R → Option T} (s : Nat → S) (n : Nat) (r : R) {s0 : S} (h0 : s0 = s 0) (hn : n < 5000) (hs : ∀ k, k < n → step (s k) = some (.inl (s (k + 1)))) (hx : step (s n) = some (.inr r)) {t : Option T} (ht : k r = t) : (kj_it step 5000 s0).bind k = t := by
  rw [h0, kq_run s n hn hs hx, Option.bind_some, ht]
theorem kq_run0 {S R : Type} {step : S → Option (S ⊕ R)} (s : Nat → S) (n : Nat) {r : R} {s0 : S} (h0 : s0 = s 0) (hn : n < 5000) (hs : ∀ k, k < n → step (s k) = some (.inl (s (k + 1)))) (hx : step (s n) = some (.inr r)) : kj_it step 5000 s0 = some r := by
  rw [h0, kq_run s n hn hs hx]
/-- a sum over the numbers below n -/
def pq_sum : Nat → (Nat → Nat) → Nat
  | 0, _ => 0
  | n + 1, f => pq_sum n f + f n
theorem pq_sum_le {n : Nat} {f : Nat → Nat} {m : Nat} (h : ∀ k, k < n → f k ≤ m) : pq_sum n f ≤ n * m := by
  induction n with
  | zero => simp [pq_sum]
  | succ n ih =>
    have h1 := ih fun k hk => h k (by omega)
    have h2 := h n (by omega)
    rw [pq_sum, Nat.succ_mul]; omega
theorem pq_sum_eq {n : Nat} {f g : Nat → Nat} (h : ∀ k, k < n → f k = g k) : pq_sum n f = pq_sum n g := by
  induction n with
  | zero => rfl
  | succ n ih => rw [pq_sum, pq_sum, ih fun k hk => h k (by omega), h n (by omega)]
/-! shifts -/
theorem kq_ushr {E s : Nat} (hE : E < 2 ^ 64) (hs : s < 64) : kj_ushr (lN E) (nI s) = lN (E / 2 ^ s) := by
  have h1 : ((nI s).toInt64.toUInt64 &&& Int64.toUInt64 63) = UInt64.ofNat s := by
    revert hs; revert s; decide
  unfold kj_ushr
  rw [h1]
  apply Int64.toBitVec_inj.mp
  apply BitVec.eq_of_toNat_eq
  have h2 : (UInt64.ofNat s).toNat = s := by simp; omega
  have h3 : (lN E).toUInt64.toNat = E := by
    show (BitVec.ofNat 64 E).toNat = E
    rw [BitVec.toNat_ofNat, Nat.mod_eq_of_lt hE]
  have h4 : ((lN E).toUInt64 >>> UInt64.ofNat s).toNat = E / 2 ^ s := by
    rw [UInt64.toNat_shiftRight, h2, h3, Nat.mod_eq_of_lt hs, Nat.shiftRight_eq_div_pow]
  show ((lN E).toUInt64 >>> UInt64.ofNat s).toNat = (BitVec.ofNat 64 (E / 2 ^ s)).toNat
  rw [h4, BitVec.toNat_ofNat, Nat.mod_eq_of_lt (Nat.lt_of_le_of_lt (Nat.div_le_self _ _) hE)]
theorem kq_and15 (x : Nat) : (lN x).toInt32 &&& (15 : Int32) = nI (x % 16) := by
  rw [lN_i, pk_and (nI x) (m := 15) 4 (by decide)]
  congr 1
  show (BitVec.ofNat 32 x).toNat % 2 ^ 4 = x % 16
  rw [BitVec.toNat_ofNat]; omega
theorem kq_and16 (x : Nat) : (lN x).toInt32 &&& ((65535) : Int32) = nI (x % 65536) := by
  rw [lN_i, pk_and (nI x) (m := 65535) 16 (by decide)]
  congr 1
  show (BitVec.ofNat 32 x).toNat % 2 ^ 16 = x % 65536
  rw [BitVec.toNat_ofNat]; omega
/-! the digits of pq_enc -/
theorem pq_enc_lt {h : Nat → Nat} : ∀ {n : Nat}, (∀ t, t < n → h t < 16) → pq_enc h n < 16 ^ n
  | 0, _ => by simp [pq_enc]
  | n + 1, H => by
    have h1 := pq_enc_lt (n := n) fun t ht => H t (by omega)
    have h2 := H n (by omega)
    rw [pq_enc, Nat.pow_succ]; omega
theorem pq_enc_dig {h : Nat → Nat} : ∀ {n : Nat}, (∀ t, t < n → h t < 16) → ∀ t, t < n → pq_enc h n / 16 ^ (n - 1 - t) % 16 = h t
  | 0, _, t, ht => absurd ht (by omega)
  | n + 1, H, t, ht => by
    by_cases e : t = n
    · subst e
      have h2 := H t (by omega)
      simp [pq_enc]; omega
    · have h1 := pq_enc_dig (n := n) (fun t ht => H t (by omega)) t (by omega)
      have h2 := H n (by omega)
      have h3 : n + 1 - 1 - t = (n - 1 - t) + 1 := by omega
      rw [h3, Nat.pow_succ, Nat.mul_comm, ← Nat.div_div_eq_div_mul, pq_enc]
      have h4 : (pq_enc h n * 16 + h n) / 16 = pq_enc h n := by omega
      rw [h4, h1]
theorem pq_enc_eq {h g : Nat → Nat} : ∀ {n : Nat}, (∀ t, t < n → h t = g t) → pq_enc h n = pq_enc g n
  | 0, _ => rfl
  | n + 1, H => by rw [pq_enc, pq_enc, pq_enc_eq fun t ht => H t (by omega), H n (by omega)]
theorem pq_hv_h {a b c : Nat} {h : Nat → Nat} (H : pq_hv a b c h) : ∀ t, t < 16 → h t ≤ 4 := by
  intro t ht
  have h1 := (H.2.2.2.2 (t / 4) (t % 4) (by omega) (by omega)).1
  rw [show 4 * (t / 4) + t % 4 = t by omega] at h1
  have := H.2.2.1
  omega
theorem pq_hv_E {a b c : Nat} {h : Nat → Nat} (H : pq_hv a b c h) : pq_enc h 16 < 2 ^ 64 := by
  have h1 := pq_enc_lt (h := h) (n := 16) fun t ht => Nat.lt_of_le_of_lt (pq_hv_h H t ht) (by decide)
  exact Nat.lt_of_lt_of_le h1 (by decide)
/-- one height read out of the number -/
theorem pq_dig {h : Nat → Nat} (H : ∀ t, t < 16 → h t ≤ 4) {s : Nat} {t : Nat} (ht : t < 16) (hs : s = 60 - 4 * t) : (kj_ushr (lN (pq_enc h 16)) (nI s)).toInt32 &&& (15 : Int32) = nI (h t) := by
  have hE : pq_enc h 16 < 2 ^ 64 := Nat.lt_of_lt_of_le (pq_enc_lt (h := h) (n := 16) fun t ht => Nat.lt_of_le_of_lt (H t ht) (by decide)) (by decide)
  rw [kq_ushr hE (by omega), kq_and15, hs, show (2:Nat) ^ (60 - 4 * t) = 16 ^ (15 - t) by
    rw [show (16:Nat) = 2 ^ 4 from rfl, ← Nat.pow_mul]; congr 1; omega]
  have := pq_enc_dig (h := h) (n := 16) (fun t ht => Nat.lt_of_le_of_lt (H t ht) (by decide)) t ht
  rw [show 16 - 1 - t = 15 - t by omega] at this
  rw [this]
/-- the cube at (i, j) -/
theorem pq_cube {i j : Nat} (hi : i < 4) (hj : j < 4) : fx_cube (nI i) (nI j) = some (lN (16 ^ (15 - (4 * i + j)))) := by
  have K : ∀ i, i < 4 → ∀ j, j < 4 → fx_cube (nI i) (nI j) = some (lN (16 ^ (15 - (4 * i + j)))) := by decide
  exact K i hi j hj
