/-! THE PURE SIDE: words for loops, small ints, arrays -/
/-- a loop that goes n turns -/
theorem kq_it {S R : Type} {step : S → Option (S ⊕ R)} (I : Nat → S → Prop) (Post : R → Prop) (n : Nat) (hs : ∀ k s, k < n → I k s → ∃ s', step s = some (.inl s') ∧ I (k + 1) s') (hx : ∀ s, I n s → ∃ r, step s = some (.inr r) ∧ Post r) : ∀ (d k : Nat) (s : S) (fuel : Nat), k + d = n → d < fuel → I k s → ∃ r, kj_it step fuel s = some r ∧ Post r := by
  intro d
  induction d with
  | zero =>
    intro k s fuel hk hf hI
    obtain ⟨f, rfl⟩ : ∃ f, fuel = f + 1 := ⟨fuel - 1, by omega⟩
    have hk' : k = n := by omega
    subst hk'
    obtain ⟨r, h1, h2⟩ := hx s hI
    exact ⟨r, by simp [kj_it, h1], h2⟩
  | succ d ih =>
    intro k s fuel hk hf hI
    obtain ⟨f, rfl⟩ : ∃ f, fuel = f + 1 := ⟨fuel - 1, by omega⟩
    obtain ⟨s', h1, h2⟩ := hs k s (by omega) hI
    obtain ⟨r, h3, h4⟩ := ih (k + 1) s' f (by omega) (by omega) h2
    exact ⟨r, by simp [kj_it, h1, h3], h4⟩
/-- the same from 0, with 5000 turns of fuel -/
theorem kq_it0 {S R : Type} {step : S → Option (S ⊕ R)} (I : Nat → S → Prop) (Post : R → Prop) (n : Nat) (hn : n < 5000) (hs : ∀ k s, k < n → I k s → ∃ s', step s = some (.inl s') ∧ I (k + 1) s') (hx : ∀ s, I n s → ∃ r, step s = some (.inr r) ∧ Post r) {s : S} (h0 : I 0 s) : ∃ r, kj_it step 5000 s = some r ∧ Post r :=
  kq_it I Post n hs hx n 0 s 5000 (by omega) hn h0
/-- a loop that goes at most n turns, and may leave earlier -/
theorem kq_ite {S R : Type} {step : S → Option (S ⊕ R)} (I : Nat → S → Prop) (Post : R → Prop) (n : Nat) (hs : ∀ k s, k < n → I k s → (∃ s', step s = some (.inl s') ∧ I (k + 1) s') ∨ (∃ r, step s = some (.inr r) ∧ Post r)) (hx : ∀ s, I n s → ∃ r, step s = some (.inr r) ∧ Post r) : ∀ (d k : Nat) (s : S) (fuel : Nat), k + d = n → d < fuel → I k s → ∃ r, kj_it step fuel s = some r ∧ Post r := by
  intro d
  induction d with
  | zero =>
    intro k s fuel hk hf hI
    obtain ⟨f, rfl⟩ : ∃ f, fuel = f + 1 := ⟨fuel - 1, by omega⟩
    have hk' : k = n := by omega
    subst hk'
    obtain ⟨r, h1, h2⟩ := hx s hI
    exact ⟨r, by simp [kj_it, h1], h2⟩
  | succ d ih =>
    intro k s fuel hk hf hI
    obtain ⟨f, rfl⟩ : ∃ f, fuel = f + 1 := ⟨fuel - 1, by omega⟩
    rcases hs k s (by omega) hI with ⟨s', h1, h2⟩ | ⟨r, h1, h2⟩
    · obtain ⟨r, h3, h4⟩ := ih (k + 1) s' f (by omega) (by omega) h2
      exact ⟨r, by simp [kj_it, h1, h3], h4⟩
    · exact ⟨r, by simp [kj_it, h1], h2⟩
theorem kq_ite0 {S R : Type} {step : S → Option (S ⊕ R)} (I : Nat → S → Prop) (Post : R → Prop) (n : Nat) (hn : n < 5000) (hs : ∀ k s, k < n → I k s → (∃ s', step s = some (.inl s') ∧ I (k + 1) s') ∨ (∃ r, step s = some (.inr r) ∧ Post r)) (hx : ∀ s, I n s → ∃ r, step s = some (.inr r) ∧ Post r) {s : S} (h0 : I 0 s) : ∃ r, kj_it step 5000 s = some r ∧ Post r :=
  kq_ite I Post n hs hx n 0 s 5000 (by omega) hn h0
/-! reads and writes at places that are numbers -/
theorem kq_c {j N : Nat} (h : j < N) (hN : N < 2 ^ 31) : ¬ (nI j < 0 ∨ N ≤ (nI j).toNatClampNeg) := nI_in h hN
theorem kq_rd {z : km_S} {k j : Nat} (h : j < km_len k) (hk : km_len k < 2 ^ 31) : km_rd z k (nI j) = some (z.2.1 k j) := by
  unfold km_rd; rw [if_neg (kq_c h hk), nI_clamp (by omega)]
theorem kq_wr {z : km_S} {k j : Nat} {v : Int32} (h : j < km_len k) (hk : km_len k < 2 ^ 31) : km_wr z k (nI j) v = some (z.1, va_up z.2.1 k (upd (z.2.1 k) j v), z.2.2) := by
  unfold km_wr; rw [if_neg (kq_c h hk), nI_clamp (by omega)]
theorem kq_xrd {z : kx_S} {k j : Nat} (h : j < kx_len k) (hk : kx_len k < 2 ^ 31) : kx_rd z k (nI j) = some (z.2.1 k j) := by
  unfold kx_rd; rw [if_neg (kq_c h hk), nI_clamp (by omega)]
theorem kq_xwr {z : kx_S} {k j : Nat} {v : Int32} (h : j < kx_len k) (hk : kx_len k < 2 ^ 31) : kx_wr z k (nI j) v = some (z.1, va_up z.2.1 k (upd (z.2.1 k) j v), z.2.2) := by
  unfold kx_wr; rw [if_neg (kq_c h hk), nI_clamp (by omega)]
theorem kq_xrr {z : kx_S} {k j : Nat} (h : j < kx_lenR k) (hk : kx_lenR k < 2 ^ 31) : kx_rr z k (nI j) = some (z.2.2.2 k j) := by
  unfold kx_rr; rw [if_neg (kq_c h hk), nI_clamp (by omega)]
theorem kq_km {k : Nat} : km_len k < 2 ^ 31 := by
  unfold km_len
  split <;> decide
theorem kq_kx {k : Nat} : kx_len k < 2 ^ 31 := by
  unfold kx_len
  split <;> decide
theorem kq_kxR {k : Nat} : kx_lenR k < 2 ^ 31 := by
  unfold kx_lenR
  split <;> decide
theorem kq_cpy_s {f g : Nat → Int32} {i j k : Nat} : upd (va_cpy f g i j k) (j + k) (f (i + k)) = va_cpy f g i j (k + 1) := by
  funext t
  unfold upd va_cpy
  by_cases h : t = j + k
  · subst h
    rw [if_pos rfl, if_pos (by omega), show j + k - j = k by omega]
  · rw [if_neg h]
    by_cases h2 : j ≤ t ∧ t < j + k
    · rw [if_pos h2, if_pos (by omega)]
    · rw [if_neg h2, if_neg (by omega)]
theorem kq_cpy_0 {f g : Nat → Int32} {i j : Nat} : va_cpy f g i j 0 = g := by
  funext t
  unfold va_cpy
  rw [if_neg (by omega)]
/-! the reference's bring: n ints from f at i to g at j -/
theorem kq_bring {k0 k1 i j n : Nat} {z : km_S} (hi : i + n ≤ km_len k0) (hj : j + n ≤ km_len k1) (hn : n < 5000) (hs : k0 = k1 → j ≤ i) :
    fm_bring k0 k1 (nI i) (nI j) (nI n) z = some (z.1, va_up z.2.1 k1 (va_cpy (z.2.1 k0) (z.2.1 k1) i j n), z.2.2) := by
  have hb0 : km_len k0 < 2 ^ 31 := kq_km
  have hb1 : km_len k1 < 2 ^ 31 := kq_km
  unfold fm_bring lm_bring_3
  have key := kq_it0 (step := fun (s : Int32 × Int32 × Int32 × Int32 × km_S) => fm_bring_3 k0 k1 s.1 s.2.1 s.2.2.1 s.2.2.2.1 s.2.2.2.2)
    (fun k s => s.1 = nI i ∧ s.2.1 = nI j ∧ s.2.2.1 = nI n ∧ s.2.2.2.1 = nI k ∧ s.2.2.2.2 = (z.1, va_up z.2.1 k1 (va_cpy (z.2.1 k0) (z.2.1 k1) i j k), z.2.2))
    (fun r => r = (z.1, va_up z.2.1 k1 (va_cpy (z.2.1 k0) (z.2.1 k1) i j n), z.2.2)) n hn (by
      rintro k ⟨s1, s2, s3, s4, s5⟩ hk ⟨h1, h2, h3, h4, h5⟩
      dsimp only at h1 h2 h3 h4 h5
      subst h1 h2 h3 h4 h5
      have e1 : (va_up z.2.1 k1 (va_cpy (z.2.1 k0) (z.2.1 k1) i j k)) k0 (i + k) = z.2.1 k0 (i + k) := by
        by_cases hk01 : k0 = k1
        · subst hk01
          rw [va_up_self]
          unfold va_cpy
          rw [if_neg (by have := hs rfl; omega)]
        · rw [va_up_ne _ _ hk01]
      refine ⟨(nI i, nI j, nI n, nI k + 1, (z.1, va_up z.2.1 k1 (va_cpy (z.2.1 k0) (z.2.1 k1) i j (k + 1)), z.2.2)), ?_, rfl, rfl, rfl, (nI_succ k).symm, rfl⟩
      dsimp only
      unfold fm_bring_3
      rw [if_neg (nI_ge hk (by omega)), nI_add, nI_add, kq_rd (by omega) hb0, Option.bind_some, kq_wr (by omega) hb1, Option.bind_some]
      dsimp only
      rw [e1, va_up_self, bx_uu, kq_cpy_s])
    (by
      rintro ⟨s1, s2, s3, s4, s5⟩ ⟨h1, h2, h3, h4, h5⟩
      dsimp only at h1 h2 h3 h4 h5
      subst h1 h2 h3 h4 h5
      refine ⟨_, ?_, rfl⟩
      dsimp only
      unfold fm_bring_3
      rw [if_pos (nI_le (Nat.le_refl n) (by omega))])
    (s := (nI i, nI j, nI n, 0, z)) ⟨rfl, rfl, rfl, rfl, by dsimp only; rw [kq_cpy_0, kj_upf]⟩
  obtain ⟨r, h1, h2⟩ := key
  rw [h1, h2]
  rfl
