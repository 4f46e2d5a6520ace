/-! WEIGHED -/
def pr_M : Nat := 1000000007
theorem pr_heightInRow {b c : Nat} (o : pr_ok b c) {k j : Nat} (hk : k < pr_N b c) (hj : j < 4) : fx_heightInRow (nI (pq_pack (pq_row b c k))) (nI j) = some (nI (pr_v b c k j)) :=
  pr_ball (p := fun b c => ∀ k, k < pr_N b c → ∀ j, j < 4 → fx_heightInRow (nI (pq_pack (pq_row b c k))) (nI j) = some (nI (pr_v b c k j))) (by decide +kernel) o k hk j hj
/-- what row s adds to the exponent behind another row -/
def pr_ex (b c kind i s : Nat) : Nat := if kind = 1 then pq_sum 4 (pr_v b c s) else if kind = 2 then pr_v b c s i else if kind = 3 then pq_sum 4 (fun j => if 0 < pr_v b c s j then 1 else 0) else if kind = 4 then 1 else 0
def pr_ex2 (b c kind i r s : Nat) : Nat := if kind = 4 ∧ r = s then 0 else pr_ex b c kind i s
theorem pr_exponent {b c kind i s : Nat} (o : pr_ok b c) (hk : kind < 5) (hi : i < 4) (hs : s < pr_N b c) : fr_exponent (nI kind) (nI (pq_pack (pq_row b c s))) (nI i) = some (nI (pr_ex b c kind i s)) := by
  have S : fr_sumOfHeights (nI (pq_pack (pq_row b c s))) = some (nI (pq_sum 4 (pr_v b c s))) := by
    unfold fr_sumOfHeights lr_sumOfHeights_4
    refine kq_runb (fun t => (nI (pq_pack (pq_row b c s)), nI (pq_sum t (pr_v b c s)), nI t)) 4 _ rfl (by omega) (fun t ht => ?_) rfl rfl
    dsimp only
    unfold fr_sumOfHeights_4
    rw [if_neg (show ¬ (4 : Int32) ≤ nI t from nI_ge (b := 4) ht (by omega)), pr_heightInRow o hs ht, Option.bind_some, nI_add, nI_1]
    rfl
  have A : fr_heightsAboveZero (nI (pq_pack (pq_row b c s))) = some (nI (pq_sum 4 (fun j => if 0 < pr_v b c s j then 1 else 0))) := by
    unfold fr_heightsAboveZero lr_heightsAboveZero_4
    refine kq_runb (fun t => (nI (pq_pack (pq_row b c s)), nI (pq_sum t (fun j => if 0 < pr_v b c s j then 1 else 0)), nI t)) 4 _ rfl (by omega) (fun t ht => ?_) rfl rfl
    dsimp only
    have v := (pr_row o hs t ht).1; have := o.2.2.2
    unfold fr_heightsAboveZero_4 fr_heightsAboveZero_20
    rw [if_neg (show ¬ (4 : Int32) ≤ nI t from nI_ge (b := 4) ht (by omega)), pr_heightInRow o hs ht, Option.bind_some, nI_1, nI_1, pq_sum]
    by_cases c1 : 0 < pr_v b c s t
    · rw [if_neg (nI_nle c1 (by omega)), if_pos c1]
    · rw [if_pos (show nI (pr_v b c s t) ≤ 0 from nI_le (b := 0) (by omega) (by omega)), if_neg c1]; rfl
  unfold fr_exponent pr_ex
  have : kind = 0 ∨ kind = 1 ∨ kind = 2 ∨ kind = 3 ∨ kind = 4 := by omega
  rcases this with rfl | rfl | rfl | rfl | rfl
  · rfl
  · rw [if_pos (show nI 1 = 1 from rfl), S]; rfl
  · rw [if_neg (by decide), if_pos (show nI 2 = 2 from rfl), pr_heightInRow o hs hi]; rfl
  · rw [if_neg (by decide), if_neg (by decide), if_pos (show nI 3 = 3 from rfl), A]; rfl
  · rfl
theorem pr_pow_s (q t : Nat) : q ^ t % pr_M * q % pr_M = q ^ (t + 1) % pr_M := by
  rw [Nat.pow_succ, Nat.mul_mod (q ^ t % pr_M), Nat.mod_mod, ← Nat.mul_mod]
theorem pr_lM {x : Nat} (h : x < 2 ^ 63) : lN x - lN x / 1000000007 * 1000000007 = lN (x % pr_M) := pk_lRem (b := 1000000007) h (by decide) (by decide)
theorem pr_modlt (x : Nat) : x % pr_M < 1000000007 := Nat.mod_lt _ (by decide)
theorem pr_power {q e : Nat} (hq : q < 10) (he : e < 100) : fr_power (nI q) (nI e) = some (lN (q ^ e % pr_M)) := by
  unfold fr_power lr_power_5
  refine kq_runb (fun t => (nI q, nI e, lN (q ^ t % pr_M), nI t)) e _ rfl (by omega) (fun t ht => ?_) ?_ rfl
  · dsimp only
    have := pr_modlt (q ^ t)
    have h2 : q ^ t % pr_M * q < 2 ^ 63 := by
      have := Nat.mul_le_mul (Nat.le_of_lt this) (show q ≤ 10 by omega)
      omega
    unfold fr_power_5
    rw [if_neg (nI_ge ht (by omega)), if_neg (by decide), nI_l (by omega), lN_mul, pr_lM h2, pr_pow_s, nI_1]
  · dsimp only
    unfold fr_power_5
    rw [if_pos (nI_le (Nat.le_refl e) (by omega))]
theorem pm_power {q e : Nat} (hq : q < 10) (he : e < 100) : fm_power (nI q) (nI e) = some (lN (q ^ e % pr_M)) := by
  unfold fm_power lm_power_5
  refine kq_runb (fun t => (nI q, nI e, lN (q ^ t % pr_M), nI t)) e _ rfl (by omega) (fun t ht => ?_) ?_ rfl
  · dsimp only
    have := pr_modlt (q ^ t)
    have h2 : q ^ t % pr_M * q < 2 ^ 63 := by
      have := Nat.mul_le_mul (Nat.le_of_lt this) (show q ≤ 10 by omega)
      omega
    unfold fm_power_5
    rw [if_neg (nI_ge ht (by omega)), if_neg (by decide), nI_l (by omega), lN_mul, pr_lM h2, pr_pow_s, nI_1]
  · dsimp only
    unfold fm_power_5
    rw [if_pos (nI_le (Nat.le_refl e) (by omega))]
theorem pr_ex_lt {b c kind i s : Nat} (o : pr_ok b c) (hi : i < 4) (hs : s < pr_N b c) : pr_ex b c kind i s < 100 := by
  have v := fun j hj => (pr_row o hs j hj).1
  have := o.2.2.2
  have h1 := pq_sum_le (n := 4) (f := pr_v b c s) (m := 4) fun j hj => by have := v j hj; omega
  have h2 := pq_sum_le (n := 4) (f := fun j => if 0 < pr_v b c s j then 1 else 0) (m := 1) fun j hj => by split <;> omega
  have h3 := v i hi
  unfold pr_ex
  split
  · omega
  · split
    · omega
    · split
      · omega
      · split <;> omega
theorem pr_ex2_lt {b c kind i r s : Nat} (o : pr_ok b c) (hi : i < 4) (hs : s < pr_N b c) : pr_ex2 b c kind i r s < 100 := by
  unfold pr_ex2
  split
  · omega
  · exact pr_ex_lt o hi hs
theorem pm_exponent {z : km_S} {b c kind i r s : Nat} (o : pr_ok b c) (hz : pr_ml b c z) (hk : kind < 5) (hi : i < 4) (hr : r < pr_N b c) (hs : s < pr_N b c) : fm_exponent (nI kind) (nI i) (nI r) (nI s) (nI b) z = some (nI (pr_ex2 b c kind i r s), z) := by
  have hN := pr_N_le o
  have hb := o.2.1
  have L : lm_exponent_9 5000 (nI kind) (nI i) (nI r) (nI s) (nI b) 0 0 0 z = some (nI kind, nI i, nI r, nI s, nI b, nI (pq_sum b (pr_v b c s)), nI (pq_sum b (fun j => if 0 < pr_v b c s j then 1 else 0)), z) := by
    unfold lm_exponent_9
    refine kq_run0 (fun t => (nI kind, nI i, nI r, nI s, nI b, nI (pq_sum t (pr_v b c s)), nI (pq_sum t (fun j => if 0 < pr_v b c s j then 1 else 0)), nI t, z)) b rfl (by omega) (fun t ht => ?_) ?_
    · dsimp only
      have v := (pr_row o hs t (by omega)).1; have := o.2.2.2
      unfold fm_exponent_9 fm_exponent_55
      rw [if_neg (nI_ge ht (by omega)), show (4 : Int32) * nI s = nI (4 * s) from pk_mul 4 s, nI_add, pq_rdn (hz.2 s hs t ht) (show 4 * s + t < 280 by omega), Option.bind_some, Option.bind_some, nI_add, nI_1, pq_sum, pq_sum]
      by_cases c1 : 0 < pr_v b c s t
      · rw [if_neg (nI_nle c1 (by omega)), if_pos c1, nI_1]
      · rw [if_pos (show nI (pr_v b c s t) ≤ 0 from nI_le (b := 0) (by omega) (by omega)), if_neg c1]
        simp only [kq_lit, nI_add]
    · dsimp only
      unfold fm_exponent_9
      rw [if_pos (nI_le (Nat.le_refl b) (by omega))]
  have c1 : pq_sum b (pr_v b c s) = pq_sum 4 (pr_v b c s) := (pq_sum_cut hb fun j h1 h2 => (pr_row o hs j h2).2.1 h1).symm
  have c2 : pq_sum b (fun j => if 0 < pr_v b c s j then 1 else 0) = pq_sum 4 (fun j => if 0 < pr_v b c s j then 1 else 0) := (pq_sum_cut hb fun j h1 h2 => by
    rw [(pr_row o hs j h2).2.1 h1]; rfl).symm
  unfold fm_exponent
  rw [L, Option.bind_some]
  dsimp only
  rw [c1, c2]
  unfold pr_ex2 pr_ex
  have : kind = 0 ∨ kind = 1 ∨ kind = 2 ∨ kind = 3 ∨ kind = 4 := by omega
  rcases this with rfl | rfl | rfl | rfl | rfl
  · rw [if_neg (by decide), if_neg (by decide), if_neg (by decide), if_neg (by decide), if_neg (by omega)]; rfl
  · rw [if_pos (show nI 1 = 1 from rfl), if_neg (by omega)]; rfl
  · show _ = some (nI (pr_v b c s i), z)
    rw [if_neg (by decide), if_pos (show nI 2 = 2 from rfl)]
    by_cases e : b ≤ i
    · rw [if_pos (nI_le e (by omega)), (pr_row o hs i hi).2.1 e]; rfl
    · rw [if_neg (nI_ge (by omega) (by omega)), show (4 : Int32) * nI s = nI (4 * s) from pk_mul 4 s, nI_add, pq_rdn (hz.2 s hs i (by omega)) (show 4 * s + i < 280 by omega)]; rfl
  · rw [if_neg (by decide), if_neg (by decide), if_pos (show nI 3 = 3 from rfl), if_neg (by omega)]; rfl
  · rw [if_neg (by decide), if_neg (by decide), if_neg (by decide), if_pos (show nI 4 = 4 from rfl)]
    by_cases e : s = r
    · rw [if_pos (by rw [e]), if_pos ⟨rfl, e.symm⟩]; rfl
    · rw [if_neg (mt (nI_eq (by omega) (by omega)).mp e), if_neg (fun q => e q.2.symm)]; rfl
/-- the sums, in numbers -/
def pr_wt (b c kind q : Nat) : Nat → Nat → Nat
  | 0, s => pr_l0 (pr_N b c) s
  | i + 1, s => pq_sum (pr_N b c - s) (fun t => if pr_LE b c s (s + t) then pr_wt b c kind q i (s + t) * (q ^ pr_ex2 b c kind i (s + t) s % pr_M) else 0) % pr_M
theorem pr_wt_lt {b c kind q : Nat} : ∀ i s, pr_wt b c kind q i s < 1000000007
  | 0, s => by unfold pr_wt pr_l0; split <;> omega
  | i + 1, s => pr_modlt _
theorem pr_mulM {x y : Nat} (hx : x < 1000000007) (hy : y < 1000000007) : x * y < 2 ^ 62 := by
  have h := Nat.mul_le_mul (show x ≤ 1000000006 by omega) (show y ≤ 1000000006 by omega)
  omega
theorem pr_sumOfWeights {a b c kind q : Nat} {r : kr_S} (ha : 1 ≤ a ∧ a ≤ 4) (o : pr_ok b c) (hk : kind < 5) (hq : q < 10) (hr : pq_rok b c (pr_N b c) r) : ∃ r', fr_sumOfWeights (pr_N b c) (nI a) (nI kind) (nI q) r = some (nI (pq_sum (pr_N b c) (pr_wt b c kind q a) % pr_M), r') ∧ r'.1 = r.1 ∧ r'.2.1 = r.2.1 := by
  have hN := pr_N_le o
  obtain ⟨r0, b1, b2, b3, b4⟩ := pr_begin (r := r) hN
  unfold fr_sumOfWeights
  rw [b1, Option.bind_some]
  have row : ∀ (r1 : kr_S) (i : Nat), i < a → r1.1 = r.1 → r1.2.1 = r.2.1 → (∀ k, k < pr_N b c → r1.2.2 0 k = lN (pr_wt b c kind q i k)) → ∃ r2, lr_sumOfWeights_16 (pr_N b c) 5000 (nI a) (nI kind) (nI q) (nI i) 0 r1 = some (nI a, nI kind, nI q, nI i, r2) ∧ r2.1 = r.1 ∧ r2.2.1 = r.2.1 ∧ ∀ k, k < pr_N b c → r2.2.2 1 k = lN (pr_wt b c kind q (i + 1) k) := by
    intro r1 i hi q1 q2 q3
    unfold lr_sumOfWeights_16
    obtain ⟨x, x1, r2, rfl, x2, x3, x4, x5⟩ := kq_it0 (step := fun (s : (Int32 × Int32 × Int32 × Int32 × Int32 × kr_S)) => fr_sumOfWeights_16 (pr_N b c) (s.1) (s.2.1) (s.2.2.1) (s.2.2.2.1) (s.2.2.2.2.1) (s.2.2.2.2.2))
      (fun k s => ∃ r2, s = (nI a, nI kind, nI q, nI i, nI k, r2) ∧ r2.1 = r.1 ∧ r2.2.1 = r.2.1 ∧ (∀ k, k < pr_N b c → r2.2.2 0 k = lN (pr_wt b c kind q i k)) ∧ ∀ k', k' < k → r2.2.2 1 k' = lN (pr_wt b c kind q (i + 1) k'))
      (fun x => ∃ r2, x = (nI a, nI kind, nI q, nI i, r2) ∧ r2.1 = r.1 ∧ r2.2.1 = r.2.1 ∧ (∀ k, k < pr_N b c → r2.2.2 0 k = lN (pr_wt b c kind q i k)) ∧ ∀ k, k < pr_N b c → r2.2.2 1 k = lN (pr_wt b c kind q (i + 1) k)) (pr_N b c) (by omega) (by
        rintro k s hk' ⟨r2, rfl, g1, g2, g3, g4⟩
        have rk := pr_rok_s hr g1 g2
        have exl := pr_ex_lt o (kind := kind) (i := i) (show i < 4 by omega) hk'
        have fin : ∀ w : Nat, w = q ^ pr_ex2 b c kind i k k % pr_M → ∃ s', fr_sumOfWeights_56 (pr_N b c) (nI a) (nI kind) (nI q) (nI i) (nI k) (lN (q ^ pr_ex b c kind i k % pr_M)) (lN w) r2 = some (.inl s') ∧ ∃ r2, s' = (nI a, nI kind, nI q, nI i, nI (k + 1), r2) ∧ r2.1 = r.1 ∧ r2.2.1 = r.2.1 ∧ (∀ k, k < pr_N b c → r2.2.2 0 k = lN (pr_wt b c kind q i k)) ∧ ∀ k', k' < k + 1 → r2.2.2 1 k' = lN (pr_wt b c kind q (i + 1) k') := by
          intro w hw
          have hw' : w < 1000000007 := by rw [hw]; exact pr_modlt _
          unfold fr_sumOfWeights_56
          rw [pr_others o rk hk' g3, Option.bind_some]
          dsimp only
          generalize hO : (pq_sum (pr_N b c - (k + 1)) fun t => if pr_LE b c k (k + (t + 1)) then pr_wt b c kind q i (k + (t + 1)) else 0) = O
          have hOl : O ≤ 70 * 1000000007 := by
            rw [← hO]
            have := pq_sum_le (n := pr_N b c - (k + 1)) (m := 1000000007) (f := fun t => if pr_LE b c k (k + (t + 1)) then pr_wt b c kind q i (k + (t + 1)) else 0) fun t ht => by
              have := pr_wt_lt (b := b) (c := c) (kind := kind) (q := q) i (k + (t + 1))
              split
              · exact Nat.le_of_lt this
              · exact Nat.zero_le _
            exact Nat.le_trans this (Nat.mul_le_mul_right 1000000007 (show pr_N b c - (k + 1) ≤ 70 by omega))
          have m1 := pr_modlt O; have m2 := pr_modlt (q ^ pr_ex b c kind i k)
          have m3 := pr_mulM m1 m2
          have m4 := pr_wt_lt (b := b) (c := c) (kind := kind) (q := q) i k
          have m5 := pr_mulM m4 hw'
          have m6 := pr_modlt (O % pr_M * (q ^ pr_ex b c kind i k % pr_M))
          rw [if_neg (by decide), if_neg (by decide), pr_rl hk' (by omega), Option.bind_some, if_neg (by decide), g3 k hk', pr_lM (by omega), lN_mul, pr_lM (by omega), lN_mul, lN_add, pr_lM (by omega), pr_wl hk' (by omega), Option.bind_some, nI_1]
          refine ⟨_, rfl, _, rfl, g1, g2, fun k' hk' => ?_, fun k' hk2 => ?_⟩
          · dsimp only
            rw [va_up_ne _ _ (by decide)]; exact g3 k' hk'
          · dsimp only
            rw [va_up_self]
            by_cases e : k' = k
            · subst e
              rw [pk_uLs, pr_wt, show pr_N b c - k' = (pr_N b c - (k' + 1)) + 1 by omega, pr_sum_cons, show pr_LE b c k' (k' + 0) = true from pr_LE_refl b c k', if_pos rfl, show pr_wt b c kind q i (k' + 0) * (q ^ pr_ex2 b c kind i (k' + 0) k' % pr_M) = pr_wt b c kind q i k' * w from by rw [hw]; rfl]
              congr 1
              have eS : (pq_sum (pr_N b c - (k' + 1)) fun t => if pr_LE b c k' (k' + (t + 1)) then pr_wt b c kind q i (k' + (t + 1)) * (q ^ pr_ex2 b c kind i (k' + (t + 1)) k' % pr_M) else 0) = (q ^ pr_ex b c kind i k' % pr_M) * O := by
                rw [← hO, pq_sum_mul]
                refine pq_sum_eq fun t _ => ?_
                rw [show pr_ex2 b c kind i (k' + (t + 1)) k' = pr_ex b c kind i k' from if_neg (by omega)]
                split
                · rw [Nat.mul_comm]
                · rw [Nat.mul_zero]
              rw [eS, Nat.add_comm (pr_wt b c kind q i k' * w), Nat.add_mod, Nat.mod_mod, ← Nat.add_mod, Nat.mul_comm (q ^ pr_ex b c kind i k' % pr_M), Nat.add_mod (O % pr_M * (q ^ pr_ex b c kind i k' % pr_M)), Nat.add_mod (O * (q ^ pr_ex b c kind i k' % pr_M)), Nat.mul_mod O, Nat.mod_mod, Nat.mul_mod (O % pr_M), Nat.mod_mod, Nat.mod_mod]
            · rw [pk_uLn e]; exact g4 k' (by omega)
        dsimp only
        unfold fr_sumOfWeights_16
        rw [if_neg (nI_ge hk' (by omega)), pr_rd hk' (by omega), Option.bind_some, rk.2.1 k hk', pr_exponent o hk (by omega) hk', Option.bind_some, pr_power hq exl, Option.bind_some]
        by_cases c4 : kind = 4
        · rw [if_pos (show nI kind = 4 by rw [c4]; rfl)]
          exact fin 1 (by unfold pr_ex2; rw [if_pos ⟨c4, rfl⟩]; rfl)
        · rw [if_neg (show ¬ nI kind = 4 from fun q => c4 ((nI_eq (b := 4) (by omega) (by omega)).mp q))]
          exact fin _ (by unfold pr_ex2; rw [if_neg (fun q => c4 q.1)])) (by
        rintro s ⟨r2, rfl, g1, g2, g3, g4⟩
        refine ⟨_, ?_, r2, rfl, g1, g2, g3, g4⟩
        dsimp only
        unfold fr_sumOfWeights_16
        rw [if_pos (nI_le (Nat.le_refl _) (by omega))])
      (s := (nI a, nI kind, nI q, nI i, 0, r1)) ⟨r1, rfl, q1, q2, q3, fun k hk => absurd hk (by omega)⟩
    exact ⟨r2, x1, x2, x3, x5⟩
  refine kq_pair ?_
  unfold lr_sumOfWeights_7
  refine kq_itb (fun i s => ∃ r1, s = (nI a, nI kind, nI q, nI i, r1) ∧ r1.1 = r.1 ∧ r1.2.1 = r.2.1 ∧ ∀ k, k < pr_N b c → r1.2.2 0 k = lN (pr_wt b c kind q i k))
    (fun r1 => r1.1 = r.1 ∧ r1.2.1 = r.2.1 ∧ ∀ k, k < pr_N b c → r1.2.2 0 k = lN (pr_wt b c kind q a k)) a (by omega) ⟨r0, rfl, b2, b3, b4⟩ ?_ ?_ ?_
  · rintro i s hi ⟨r1, rfl, g1, g2, g3⟩
    obtain ⟨r2, x1, x2, x3, x4⟩ := row r1 i hi g1 g2 g3
    obtain ⟨r3, y1, y2, y3, y4⟩ := pr_goNext hN.2 x4
    dsimp only
    unfold fr_sumOfWeights_7
    rw [if_neg (nI_ge hi (by omega)), x1, Option.bind_some]
    dsimp only
    rw [y1, Option.bind_some, nI_1]
    exact ⟨_, rfl, r3, rfl, y2.trans x2, y3.trans x3, y4⟩
  · rintro s ⟨r1, rfl, g1, g2, g3⟩
    refine ⟨r1, ?_, g1, g2, g3⟩
    dsimp only
    unfold fr_sumOfWeights_7
    rw [if_pos (nI_le (Nat.le_refl a) (by omega))]
  · rintro r1 ⟨g1, g2, g3⟩
    have hS := pq_sum_le (n := pr_N b c) (m := 1000000007) (f := pr_wt b c kind q a) fun t _ => Nat.le_of_lt (pr_wt_lt a t)
    have h2 := Nat.mul_le_mul_right 1000000007 hN.2
    rw [pr_sumAll hN.2 g3, Option.bind_some, if_neg (by decide)]
    dsimp only
    rw [pr_lM (by omega), lN_i]
    exact ⟨_, rfl, rfl, g1, g2⟩
/-- the reference's sums -/
theorem pm_weighed {z : km_S} {a b c kind q : Nat} (ha : 1 ≤ a ∧ a ≤ 4) (o : pr_ok b c) (hk : kind < 5) (hq : q < 10) (hz : pr_ml b c z) (h0 : ∀ r, r < pr_N b c → z.2.2 0 r = lN (pr_l0 (pr_N b c) r)) : ∃ z', lm_weighed_46 5000 (nI a) (nI b) (nI kind) (nI q) 0 z = some z' ∧ z'.1 = z.1 ∧ z'.2.1 = z.2.1 ∧ ∀ r, r < pr_N b c → z'.2.2 0 r = lN (pr_wt b c kind q a r) := by
  have hN := pr_N_le o
  have sm : ∀ (y : Nat → Nat → Int64) (i s : Nat), i < a → s < pr_N b c → (∀ r, r < pr_N b c → y 0 r = lN (pr_wt b c kind q i r)) → y 1 s = 0 → ∃ y', lm_weighed_76 5000 (nI a) (nI b) (nI kind) (nI q) (nI i) (nI s) (nI s) (z.1, z.2.1, y) = some (nI a, nI b, nI kind, nI q, nI i, nI s, (z.1, z.2.1, y')) ∧ y' 0 = y 0 ∧ (∀ r, r ≠ s → y' 1 r = y 1 r) ∧ y' 1 s = lN (pr_wt b c kind q (i + 1) s) := by
    intro y i s hi hs h1 h2
    unfold lm_weighed_76
    obtain ⟨x, x1, y', rfl, x2, x3, x4⟩ := kq_it0 (step := fun (s : (Int32 × Int32 × Int32 × Int32 × Int32 × Int32 × Int32 × km_S)) => fm_weighed_76 (s.1) (s.2.1) (s.2.2.1) (s.2.2.2.1) (s.2.2.2.2.1) (s.2.2.2.2.2.1) (s.2.2.2.2.2.2.1) (s.2.2.2.2.2.2.2))
      (fun t x => ∃ y', x = (nI a, nI b, nI kind, nI q, nI i, nI s, nI (s + t), (z.1, z.2.1, y')) ∧ y' 0 = y 0 ∧ (∀ r, r ≠ s → y' 1 r = y 1 r) ∧ y' 1 s = lN (pq_sum t (fun t => if pr_LE b c s (s + t) then pr_wt b c kind q i (s + t) * (q ^ pr_ex2 b c kind i (s + t) s % pr_M) else 0) % pr_M))
      (fun x => ∃ y', x = (nI a, nI b, nI kind, nI q, nI i, nI s, ((z.1, z.2.1, y') : km_S)) ∧ y' 0 = y 0 ∧ (∀ r, r ≠ s → y' 1 r = y 1 r) ∧ y' 1 s = lN (pr_wt b c kind q (i + 1) s)) (pr_N b c - s) (by omega) (by
        rintro t x ht ⟨y', rfl, g1, g2, g3⟩
        have hkk : s + t < pr_N b c := by omega
        have exl := pr_ex2_lt o (kind := kind) (i := i) (r := s + t) (show i < 4 by omega) hs
        have wl := pr_wt_lt (b := b) (c := c) (kind := kind) (q := q) i (s + t)
        have ml := pr_mulM wl (pr_modlt (q ^ pr_ex2 b c kind i (s + t) s))
        have fin : ∀ v : Nat, v = (if pr_LE b c s (s + t) then pr_wt b c kind q i (s + t) * (q ^ pr_ex2 b c kind i (s + t) s % pr_M) else 0) → ∃ s', fm_weighed_139 (nI a) (nI b) (nI kind) (nI q) (nI i) (nI s) (nI (s + t)) (lN v) (z.1, z.2.1, y') = some (.inl s') ∧ ∃ y', s' = (nI a, nI b, nI kind, nI q, nI i, nI s, nI (s + (t + 1)), (z.1, z.2.1, y')) ∧ y' 0 = y 0 ∧ (∀ r, r ≠ s → y' 1 r = y 1 r) ∧ y' 1 s = lN (pq_sum (t + 1) (fun t => if pr_LE b c s (s + t) then pr_wt b c kind q i (s + t) * (q ^ pr_ex2 b c kind i (s + t) s % pr_M) else 0) % pr_M) := by
          intro v hv
          have hv' : v < 2 ^ 62 := by
            rw [hv]
            split
            · exact ml
            · decide
          have m1 := pr_modlt (pq_sum t (fun t => if pr_LE b c s (s + t) then pr_wt b c kind q i (s + t) * (q ^ pr_ex2 b c kind i (s + t) s % pr_M) else 0))
          unfold fm_weighed_139
          rw [pr_mrl (by omega) (by omega), Option.bind_some, if_neg (by decide)]
          dsimp only
          rw [g3, lN_add, pr_lM (by omega), pr_mwl (by omega) (by omega), Option.bind_some, nI_1]
          refine ⟨_, rfl, _, rfl, ?_, fun r hr => ?_, ?_⟩
          · dsimp only
            rw [va_up_ne _ _ (by decide)]; exact g1
          · dsimp only
            rw [va_up_self, pk_uLn hr]; exact g2 r hr
          · dsimp only
            rw [va_up_self, pk_uLs, pq_sum, ← hv, Nat.mod_add_mod]
        dsimp only
        unfold fm_weighed_76 fm_weighed_138
        dsimp only
        have hrd : km_rl (z.1, z.2.1, y') 0 (nI (s + t)) = some (lN (pr_wt b c kind q i (s + t))) := by
          rw [pr_mrl (by omega) (by omega)]
          dsimp only
          rw [g1, h1 _ hkk]
        rw [hz.1, if_neg (nI_ge hkk (by omega)), hrd, Option.bind_some]
        have zf := fun (e0 : (if pr_LE b c s (s + t) then pr_wt b c kind q i (s + t) * (q ^ pr_ex2 b c kind i (s + t) s % pr_M) else 0) = 0) => fin 0 e0.symm
        have cmp : lg_cmp (lN (pr_wt b c kind q i (s + t))) 0 ≤ 0 ↔ pr_wt b c kind q i (s + t) = 0 := by
          rw [lg_cmp_le]
          exact (pk_lLE (a := pr_wt b c kind q i (s + t)) (b := 0) (by omega) (by omega)).trans (by omega)
        by_cases c0 : pr_wt b c kind q i (s + t) = 0
        · rw [if_pos (cmp.mpr c0)]
          exact zf (by rw [c0, Nat.zero_mul, ite_self])
        · rw [if_neg (mt cmp.mp c0), pm_isUnder (z := (z.1, z.2.1, y')) o hz hs hkk, Option.bind_some]
          dsimp only
          cases e2 : pr_LE b c s (s + t)
          · rw [if_pos (show pq_b false = 0 from rfl)]
            exact zf (by rw [e2]; rfl)
          · rw [if_neg (show ¬ pq_b true = 0 by decide), hrd, Option.bind_some, pm_exponent (z := (z.1, z.2.1, y')) o hz hk (by omega) hkk hs, Option.bind_some]
            dsimp only
            rw [pm_power hq exl, Option.bind_some, lN_mul]
            exact fin _ (by rw [e2]; rfl)) (by
        rintro x ⟨y', rfl, g1, g2, g3⟩
        refine ⟨_, ?_, y', rfl, g1, g2, by rw [g3]; rfl⟩
        dsimp only
        unfold fm_weighed_76
        dsimp only
        rw [hz.1, if_pos (nI_le (by omega) (by omega))])
      (s := (nI a, nI b, nI kind, nI q, nI i, nI s, nI s, (z.1, z.2.1, y))) ⟨y, rfl, rfl, fun _ _ => rfl, by rw [h2]; rfl⟩
    exact ⟨y', x1, x2, x3, x4⟩
  have row : ∀ (y : Nat → Nat → Int64) (i : Nat), i < a → (∀ r, r < pr_N b c → y 0 r = lN (pr_wt b c kind q i r)) → ∃ y', lm_weighed_55 5000 (nI a) (nI b) (nI kind) (nI q) (nI i) 0 (z.1, z.2.1, y) = some (nI a, nI b, nI kind, nI q, nI i, (z.1, z.2.1, y')) ∧ ∀ r, r < pr_N b c → y' 1 r = lN (pr_wt b c kind q (i + 1) r) := by
    intro y i hi h1
    unfold lm_weighed_55
    obtain ⟨x, x1, y', rfl, x2, x3⟩ := kq_it0 (step := fun (s : (Int32 × Int32 × Int32 × Int32 × Int32 × Int32 × km_S)) => fm_weighed_55 (s.1) (s.2.1) (s.2.2.1) (s.2.2.2.1) (s.2.2.2.2.1) (s.2.2.2.2.2.1) (s.2.2.2.2.2.2))
      (fun k x => ∃ y', x = (nI a, nI b, nI kind, nI q, nI i, nI k, (z.1, z.2.1, y')) ∧ y' 0 = y 0 ∧ ∀ r, r < k → y' 1 r = lN (pr_wt b c kind q (i + 1) r))
      (fun x => ∃ y', x = (nI a, nI b, nI kind, nI q, nI i, ((z.1, z.2.1, y') : km_S)) ∧ y' 0 = y 0 ∧ ∀ r, r < pr_N b c → y' 1 r = lN (pr_wt b c kind q (i + 1) r)) (pr_N b c) (by omega) (by
        rintro k x hk' ⟨y', rfl, g1, g2⟩
        dsimp only
        unfold fm_weighed_55
        dsimp only
        rw [hz.1, if_neg (nI_ge hk' (by omega)), pr_mwl (by omega) (by omega), Option.bind_some]
        dsimp only
        obtain ⟨y2, z1, z2, z3, z4⟩ := sm (va_up y' 1 (vp_updL (y' 1) k 0)) i k hi hk' (fun r hr => by rw [va_up_ne _ _ (by decide), g1]; exact h1 r hr) (by rw [va_up_self, pk_uLs])
        rw [z1, Option.bind_some, nI_1]
        refine ⟨_, rfl, y2, rfl, by rw [z2, va_up_ne _ _ (by decide)]; exact g1, fun r hr => ?_⟩
        by_cases e : r = k
        · subst e; exact z4
        · rw [z3 r e, va_up_self, pk_uLn e]; exact g2 r (by omega)) (by
        rintro x ⟨y', rfl, g1, g2⟩
        refine ⟨_, ?_, y', rfl, g1, g2⟩
        dsimp only
        unfold fm_weighed_55
        dsimp only
        rw [hz.1, if_pos (nI_le (Nat.le_refl _) (by omega))])
      (s := (nI a, nI b, nI kind, nI q, nI i, 0, (z.1, z.2.1, y))) ⟨y, rfl, rfl, fun r hr => absurd hr (by omega)⟩
    exact ⟨y', x1, x3⟩
  unfold lm_weighed_46
  obtain ⟨x, x1, y, rfl, x2⟩ := kq_it0 (step := fun (s : (Int32 × Int32 × Int32 × Int32 × Int32 × km_S)) => fm_weighed_46 (s.1) (s.2.1) (s.2.2.1) (s.2.2.2.1) (s.2.2.2.2.1) (s.2.2.2.2.2))
    (fun i x => ∃ y, x = (nI a, nI b, nI kind, nI q, nI i, (z.1, z.2.1, y)) ∧ ∀ r, r < pr_N b c → y 0 r = lN (pr_wt b c kind q i r))
    (fun x => ∃ y, x = ((z.1, z.2.1, y) : km_S) ∧ ∀ r, r < pr_N b c → y 0 r = lN (pr_wt b c kind q a r)) a (by omega) (by
      rintro i x hi ⟨y, rfl, g1⟩
      dsimp only
      unfold fm_weighed_46
      obtain ⟨y2, z1, z2⟩ := row y i hi g1
      obtain ⟨z3, n1, n2, n3, n4⟩ := pm_nextRow (z := (z.1, z.2.1, y2)) hz.1 hN.2 z2
      rw [if_neg (nI_ge hi (by omega)), z1, Option.bind_some]
      dsimp only
      rw [n1, Option.bind_some, nI_1]
      refine ⟨_, rfl, z3.2.2, ?_, n4⟩
      rw [← n2, ← n3]) (by
      rintro x ⟨y, rfl, g1⟩
      refine ⟨_, ?_, y, rfl, g1⟩
      dsimp only
      unfold fm_weighed_46
      rw [if_pos (nI_le (Nat.le_refl a) (by omega))])
    (s := (nI a, nI b, nI kind, nI q, 0, z)) ⟨z.2.2, rfl, h0⟩
  exact ⟨_, x1, rfl, rfl, x2⟩
/-- weighed(a, b, c, kind, q) -/
theorem pq_s21 (cA : Nat → ClassId) : kl_s21 cA (pq_Inv cA) := by
  intro zx P zm hI a1 a2 a3 a4 a5
  unfold vc_weighed fm_weighed
  refine pr_of (fun h0 => ⟨fun _ => ?_, fun _ e => by cases e⟩) (fun a b c bx ha o hm e1 e2 e3 h1 hb => ⟨fun e => (by cases e), fun a3' e => ?_⟩)
  · rw [h0]; exact ⟨_, rfl, rfl, hI⟩
  cases e
  subst e1 e2 e3
  have hN := pr_N_le o
  have hIa := pq_Inv_app [((bx, .inr (0, [.int (nI a), .int (nI b), .int (nI c)])) : Nat × va_E)] hI
  have hin : fm_in a5 1 9 = if a5 < 1 ∨ (9 : Int32) < a5 then some 0 else some 1 := by
    unfold fm_in
    by_cases c1 : a5 < 1
    · rw [if_pos c1, if_pos (Or.inl c1)]
    · rw [if_neg c1]
      by_cases c2 : (9 : Int32) < a5
      · rw [if_pos c2, if_pos (Or.inr c2)]
      · rw [if_neg c2, if_neg (not_or.mpr ⟨c1, c2⟩)]
  rw [h1, Option.bind_some, if_neg kq_10, hin, show fm_in a4 0 4 = (if a4 < 0 ∨ (4 : Int32) < a4 then some 0 else some 1) from pq_in0 (x := a4) (n := 4) (by omega)]
  refine ⟨fun c1 => ?_, fun c1 => ⟨fun c2 => ?_, fun c2 => ⟨fun c3 => ?_, fun c3 => ⟨fun c4 => ?_, fun c4 => ?_⟩⟩⟩⟩
  · rw [if_pos (Or.inl c1)]; exact ⟨_, rfl, rfl, hIa⟩
  · rw [if_pos (Or.inr c2)]; exact ⟨_, rfl, rfl, hIa⟩
  · rw [if_neg (not_or.mpr ⟨c1, c2⟩), Option.bind_some, if_neg kq_10, if_pos (Or.inl c3)]; exact ⟨_, rfl, rfl, hIa⟩
  · rw [if_neg (not_or.mpr ⟨c1, c2⟩), Option.bind_some, if_neg kq_10, if_neg (not_or.mpr ⟨c3, Int32.not_lt.mpr c4⟩), Option.bind_some, if_neg kq_10]
    obtain ⟨kind, hkind, rfl⟩ := nI_of2 (x := a4) (M := 4) (n := 4) rfl c1 (Int32.not_lt.mp c2)
    have c0 : ¬ a5 < 0 := fun q => c3 (Int32.lt_of_lt_of_le q (by decide))
    obtain ⟨q, hq, rfl⟩ := nI_of2 (x := a5) (M := 9) (n := 9) rfl c0 c4
    refine pr_rowsOf hIa hb o fun ad qr r Pa Pb zx' hz hx hat hI2 => ?_
    obtain ⟨r', b1, b2, b3⟩ := pr_sumOfWeights (kind := kind) (q := q) ha o (by omega) (by omega) hat.1
    refine ⟨ad, rfl, qr, _, r, Pa, Pb, rfl, _, b1, ?_⟩
    obtain ⟨z1, l1, l2, l3, l4⟩ := pm_laysRows (z := zm) o
    obtain ⟨z2, s1, s2, s3, s4⟩ := pm_beginsSums l2.1 hN
    obtain ⟨z3, t1, t2, t3, t4⟩ := pm_weighed (z := z2) (kind := kind) (q := q) ha o (by omega) (by omega) ⟨by rw [s2]; exact l2.1, by rw [s3]; exact l2.2⟩ s4
    have hS := pq_sum_le (n := pr_N b c) (m := 1000000007) (f := pr_wt b c kind q a) fun t _ => Nat.le_of_lt (pr_wt_lt a t)
    have h2 := Nat.mul_le_mul_right 1000000007 hN.2
    rw [l1, Option.bind_some, s1, Option.bind_some, t1, Option.bind_some, pm_allSums (by rw [t2, s2]; exact l2.1) hN.2 t4, Option.bind_some, if_neg (by decide)]
    dsimp only
    rw [pr_lM (by omega), lN_i]
    refine ⟨_, rfl, rfl, hat.2 r' b2 b3 _ (pr_Inv_m (I := [5]) (A := [6]) hI2 ⟨fun k hk => ?_, fun k hk => ?_⟩ (by decide) (by intro k hk; simp; omega))⟩
    · dsimp only
      rw [t2, s2]; exact l3.1 k hk
    · dsimp only
      rw [t3, s3]; exact l3.2 k hk
  · rw [if_neg (not_or.mpr ⟨c1, c2⟩), Option.bind_some, if_neg kq_10, if_pos (Or.inr (Int32.not_le.mp c4))]; exact ⟨_, rfl, rfl, hIa⟩
