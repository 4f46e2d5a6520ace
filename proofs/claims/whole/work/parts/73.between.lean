/-! SUMS OVER ROWS, ONE AFTER THE OTHER -/
theorem pr_mrl {z : km_S} {k j : Nat} (hk : k < 2) (h : j < 70) : km_rl z k (nI j) = some (z.2.2 k j) := by
  have : km_lenJ k = 70 := by
    have : k = 0 ∨ k = 1 := by omega
    rcases this with rfl | rfl <;> rfl
  unfold km_rl; rw [this, if_neg (kq_c h (by omega)), nI_clamp (by omega)]
theorem pr_mwl {z : km_S} {k j : Nat} {v : Int64} (hk : k < 2) (h : j < 70) : km_wl z k (nI j) v = some (z.1, z.2.1, va_up z.2.2 k (vp_updL (z.2.2 k) j v)) := by
  have : km_lenJ k = 70 := by
    have : k = 0 ∨ k = 1 := by omega
    rcases this with rfl | rfl <;> rfl
  unfold km_wl; rw [this, if_neg (kq_c h (by omega)), nI_clamp (by omega)]
theorem pr_sum_cons {f : Nat → Nat} : ∀ {n : Nat}, pq_sum (n + 1) f = f 0 + pq_sum n (fun t => f (t + 1))
  | 0 => by simp [pq_sum]
  | n + 1 => by rw [pq_sum, pr_sum_cons (n := n), pq_sum, Nat.add_assoc]
def pr_l0 (n r : Nat) : Nat := if r = n - 1 then 1 else 0
theorem pm_beginsSums {z : km_S} {n : Nat} (h5 : z.1 5 = nI n) (hn : 1 ≤ n ∧ n ≤ 70) : ∃ z', fm_beginsSums z = some z' ∧ z'.1 = z.1 ∧ z'.2.1 = z.2.1 ∧ ∀ r, r < n → z'.2.2 0 r = lN (pr_l0 n r) := by
  unfold fm_beginsSums lm_beginsSums_2
  refine kq_itb (fun k s => ∃ y, s = (nI k, (z.1, z.2.1, y)) ∧ ∀ r, r < k → y 0 r = lN (pr_l0 n r)) (fun z' => z'.1 = z.1 ∧ z'.2.1 = z.2.1 ∧ ∀ r, r < n → z'.2.2 0 r = lN (pr_l0 n r)) n (by omega) ⟨z.2.2, rfl, fun r hr => absurd hr (by omega)⟩ ?_ ?_ (fun r h => ⟨r, rfl, h⟩)
  · rintro k s hk ⟨y, rfl, g⟩
    dsimp only
    unfold fm_beginsSums_2 fm_beginsSums_30
    dsimp only
    rw [h5, if_neg (nI_ge hk (by omega)), show nI n - 1 = nI (n - 1) from pk_sub (b := 1) (by omega), pr_mwl (by omega) (by omega), pr_mwl (by omega) (by omega), Option.bind_some, Option.bind_some, nI_1]
    dsimp only
    have fin : ∀ v, v = lN (pr_l0 n k) → ∃ y', (z.1, z.2.1, va_up y 0 (vp_updL (y 0) k v)) = ((z.1, z.2.1, y') : km_S) ∧ ∀ r, r < k + 1 → y' 0 r = lN (pr_l0 n r) := by
      intro v hv
      refine ⟨_, rfl, fun r hr => ?_⟩
      rw [va_up_self]
      by_cases e : r = k
      · subst e; rw [pk_uLs, hv]
      · rw [pk_uLn e]; exact g r (by omega)
    by_cases c1 : k = n - 1
    · rw [if_pos (by rw [c1])]
      obtain ⟨y', e1, e2⟩ := fin 1 (by unfold pr_l0; rw [if_pos c1]; rfl)
      exact ⟨_, rfl, y', by rw [e1], e2⟩
    · rw [if_neg (mt (nI_eq (by omega) (by omega)).mp c1)]
      obtain ⟨y', e1, e2⟩ := fin 0 (by unfold pr_l0; rw [if_neg c1]; rfl)
      exact ⟨_, rfl, y', by rw [e1], e2⟩
  · rintro s ⟨y, rfl, g⟩
    refine ⟨(z.1, z.2.1, y), ?_, rfl, rfl, g⟩
    dsimp only
    unfold fm_beginsSums_2
    dsimp only
    rw [h5, if_pos (nI_le (Nat.le_refl n) (by omega))]
theorem pm_nextRow {z : km_S} {n : Nat} {F : Nat → Nat} (h5 : z.1 5 = nI n) (hn : n ≤ 70) (h1 : ∀ r, r < n → z.2.2 1 r = lN (F r)) : ∃ z', fm_nextRow z = some z' ∧ z'.1 = z.1 ∧ z'.2.1 = z.2.1 ∧ ∀ r, r < n → z'.2.2 0 r = lN (F r) := by
  unfold fm_nextRow lm_nextRow_2
  refine kq_itb (fun k s => ∃ y, s = (nI k, (z.1, z.2.1, y)) ∧ (∀ r, r < n → y 1 r = lN (F r)) ∧ ∀ r, r < k → y 0 r = lN (F r)) (fun z' => z'.1 = z.1 ∧ z'.2.1 = z.2.1 ∧ ∀ r, r < n → z'.2.2 0 r = lN (F r)) n (by omega) ⟨z.2.2, rfl, h1, fun r hr => absurd hr (by omega)⟩ ?_ ?_ (fun r h => ⟨r, rfl, h⟩)
  · rintro k s hk ⟨y, rfl, g1, g⟩
    dsimp only
    unfold fm_nextRow_2
    dsimp only
    rw [h5, if_neg (nI_ge hk (by omega)), pr_mrl (by omega) (by omega), Option.bind_some, pr_mwl (by omega) (by omega), Option.bind_some, nI_1]
    refine ⟨_, rfl, _, rfl, fun r hr => ?_, fun r hr => ?_⟩
    · dsimp only
      rw [va_up_ne _ _ (by decide)]; exact g1 r hr
    · dsimp only
      rw [va_up_self]
      by_cases e : r = k
      · subst e; rw [pk_uLs, g1 r hk]
      · rw [pk_uLn e]; exact g r (by omega)
  · rintro s ⟨y, rfl, g1, g⟩
    refine ⟨(z.1, z.2.1, y), ?_, rfl, rfl, g⟩
    dsimp only
    unfold fm_nextRow_2
    dsimp only
    rw [h5, if_pos (nI_le (Nat.le_refl n) (by omega))]
theorem pm_allSums {z : km_S} {n : Nat} {F : Nat → Nat} (h5 : z.1 5 = nI n) (hn : n ≤ 70) (h1 : ∀ r, r < n → z.2.2 0 r = lN (F r)) : fm_allSums z = some (lN (pq_sum n F), z) := by
  unfold fm_allSums lm_allSums_4
  refine kq_runb (fun k => (lN (pq_sum k F), nI k, z)) n (lN (pq_sum n F), z) rfl (by omega) (fun k hk => ?_) ?_ rfl
  · dsimp only
    unfold fm_allSums_4
    rw [h5, if_neg (nI_ge hk (by omega)), pr_mrl (by omega) (by omega), Option.bind_some, h1 k hk, lN_add, nI_1]
    rfl
  · dsimp only
    unfold fm_allSums_4
    rw [h5, if_pos (nI_le (Nat.le_refl n) (by omega))]
/-! the class's -/
theorem pr_begin {r : kr_S} {n : Nat} (hn : 1 ≤ n ∧ n ≤ 70) : ∃ r', fr_beginWithFullRow n r = some r' ∧ r'.1 = r.1 ∧ r'.2.1 = r.2.1 ∧ ∀ k, k < n → r'.2.2 0 k = lN (pr_l0 n k) := by
  obtain ⟨g, g1, g2, _⟩ := pr_fillL (n := n) (v := 0) (f := r.2.2 0) (by omega)
  unfold fr_beginWithFullRow
  rw [g1, Option.bind_some, show nI n - 1 = nI (n - 1) from pk_sub (b := 1) (by omega), pr_wl (by omega) (by omega), Option.bind_some]
  refine ⟨_, rfl, rfl, rfl, fun k hk => ?_⟩
  dsimp only
  rw [va_up_self, va_up_self]
  unfold pr_l0
  by_cases e : k = n - 1
  · subst e; rw [pk_uLs, if_pos rfl]; rfl
  · rw [pk_uLn e, if_neg e, g2 k hk]; rfl
theorem pr_goNext {r : kr_S} {n : Nat} {F : Nat → Nat} (hn : n ≤ 70) (h1 : ∀ k, k < n → r.2.2 1 k = lN (F k)) : ∃ r', fr_goToNextRow n r = some r' ∧ r'.1 = r.1 ∧ r'.2.1 = r.2.1 ∧ ∀ k, k < n → r'.2.2 0 k = lN (F k) := by
  unfold fr_goToNextRow kr_cp
  rw [show (0 : Int32) = nI 0 from rfl, nI_clamp (by omega), nI_clamp (by omega), if_neg (by
    refine not_or.mpr ⟨by decide, not_or.mpr ⟨by decide, not_or.mpr ⟨nI_pos (by omega), not_or.mpr ⟨by omega, by omega⟩⟩⟩⟩), Option.bind_some]
  refine ⟨_, rfl, rfl, rfl, fun k hk => ?_⟩
  dsimp only
  rw [va_up_self]
  have := pq_cpy_in (f := r.2.2 1) (g := r.2.2 0) (i := 0) (j := 0) (n := n) hk
  rw [Nat.zero_add] at this
  rw [this]; exact h1 k hk
theorem pr_sumAll {r : kr_S} {n : Nat} {F : Nat → Nat} (hn : n ≤ 70) (h1 : ∀ k, k < n → r.2.2 0 k = lN (F k)) : fr_sumOfAll n r = some (lN (pq_sum n F), r) := by
  unfold fr_sumOfAll lr_sumOfAll_4
  refine kq_runb (fun k => (lN (pq_sum k F), nI k, r)) n (lN (pq_sum n F), r) rfl (by omega) (fun k hk => ?_) ?_ rfl
  · dsimp only
    unfold fr_sumOfAll_4
    rw [if_neg (nI_ge hk (by omega)), pr_rl hk (by omega), Option.bind_some, h1 k hk, lN_add, nI_1]
    rfl
  · dsimp only
    unfold fr_sumOfAll_4
    rw [if_pos (nI_le (Nat.le_refl n) (by omega))]
theorem pr_others {b c s : Nat} {r : kr_S} {F : Nat → Nat} (o : pr_ok b c) (hr : pq_rok b c (pr_N b c) r) (hs : s < pr_N b c) (h1 : ∀ k, k < pr_N b c → r.2.2 0 k = lN (F k)) : fr_sumOfOthersAbove (pr_N b c) (nI s) r = some (lN (pq_sum (pr_N b c - (s + 1)) fun t => if pr_LE b c s (s + (t + 1)) then F (s + (t + 1)) else 0), r) := by
  have hN := pr_N_le o
  unfold fr_sumOfOthersAbove lr_sumOfOthersAbove_7
  refine kq_runb (fun t => (nI s, lN (pq_sum t fun t => if pr_LE b c s (s + (t + 1)) then F (s + (t + 1)) else 0), nI (s + 1 + t), r)) (pr_N b c - (s + 1)) (lN (pq_sum (pr_N b c - (s + 1)) fun t => if pr_LE b c s (s + (t + 1)) then F (s + (t + 1)) else 0), r) (by rw [nI_1]; rfl) (by omega) (fun t ht => ?_) ?_ rfl
  · dsimp only
    unfold fr_sumOfOthersAbove_7 fr_sumOfOthersAbove_46
    have hk : s + 1 + t < pr_N b c := by omega
    rw [if_neg (nI_ge hk (by omega)), pr_rd hk (by omega), Option.bind_some, pr_rd hs (by omega), Option.bind_some, hr.2.1 _ hk, hr.2.1 _ hs, pr_covers_row o hs hk, Option.bind_some, nI_1, pq_sum, show s + (t + 1) = s + 1 + t by omega]
    cases e : pr_LE b c s (s + 1 + t)
    · rw [if_pos (show pq_b false = 0 from rfl), if_neg (by decide)]; rfl
    · rw [if_neg (show ¬ pq_b true = 0 by decide), if_pos rfl, pr_rl hk (by omega), Option.bind_some, h1 _ hk, lN_add]; rfl
  · dsimp only
    unfold fr_sumOfOthersAbove_7
    rw [if_pos (nI_le (by omega) (by omega))]
/-! BETWEEN -/
def pr_fit (b c : Nat) (h g : Nat → Nat) (i s : Nat) : Bool := pr_le4 (fun j => h (4 * i + j)) (pr_v b c s) && pr_le4 (pr_v b c s) (fun j => g (4 * i + j))
def pr_bt (b c : Nat) (h g : Nat → Nat) : Nat → Nat → Nat
  | 0, s => pr_l0 (pr_N b c) s
  | i + 1, s => if pr_fit b c h g i s then pq_sum (pr_N b c - s) (fun t => if pr_LE b c s (s + t) then pr_bt b c h g i (s + t) else 0) else 0
theorem pr_f4_hv {a b c : Nat} {h : Nat → Nat} (H : pq_hv a b c h) {i : Nat} (hi : i < 4) : pr_f4 fun j => h (4 * i + j) := by
  have q := fun j hj => H.2.2.2.2 i j hi hj
  exact ⟨pq_hv_h H _ (by omega), (q 0 (by omega)).2.2.2 (by omega), (q 1 (by omega)).2.2.2 (by omega), (q 2 (by omega)).2.2.2 (by omega)⟩
theorem pr_heapsBetween {a b c : Nat} {h g : Nat → Nat} {r : kr_S} (H : pq_hv a b c h) (G : pq_hv a b c g) (hr : pq_rok b c (pr_N b c) r) : ∃ r', fr_heapsBetween (pr_N b c) (nI a) (lN (pq_enc h 16)) (lN (pq_enc g 16)) r = some (nI (pq_sum (pr_N b c) (pr_bt b c h g a)), r') ∧ r'.1 = r.1 ∧ r'.2.1 = r.2.1 := by
  have o := pr_hv H
  have ha := H.1
  have hN := pr_N_le o
  obtain ⟨r0, b1, b2, b3, b4⟩ := pr_begin (r := r) hN
  unfold fr_heapsBetween
  rw [b1, Option.bind_some]
  have row : ∀ (r1 : kr_S) (i : Nat), i < a → r1.1 = r.1 → r1.2.1 = r.2.1 → (∀ k, k < pr_N b c → r1.2.2 0 k = lN (pr_bt b c h g i k)) → ∃ r2, lr_heapsBetween_33 (pr_N b c) 5000 (nI a) (lN (pq_enc h 16)) (lN (pq_enc g 16)) (nI i) (nI (pr_pk4 fun j => h (4 * i + j))) (nI (pr_pk4 fun j => g (4 * i + j))) 0 r1 = some (nI a, lN (pq_enc h 16), lN (pq_enc g 16), nI i, r2) ∧ r2.1 = r.1 ∧ r2.2.1 = r.2.1 ∧ ∀ k, k < pr_N b c → r2.2.2 1 k = lN (pr_bt b c h g (i + 1) k) := by
    intro r1 i hi q1 q2 q3
    unfold lr_heapsBetween_33
    obtain ⟨x, x1, r2, rfl, x2, x3, x4, x5⟩ := kq_it0 (step := fun (s : (Int32 × Int64 × Int64 × Int32 × Int32 × Int32 × Int32 × kr_S)) => fr_heapsBetween_33 (pr_N b c) (s.1) (s.2.1) (s.2.2.1) (s.2.2.2.1) (s.2.2.2.2.1) (s.2.2.2.2.2.1) (s.2.2.2.2.2.2.1) (s.2.2.2.2.2.2.2))
      (fun k s => ∃ r2, s = (nI a, lN (pq_enc h 16), lN (pq_enc g 16), nI i, nI (pr_pk4 fun j => h (4 * i + j)), nI (pr_pk4 fun j => g (4 * i + j)), nI k, r2) ∧ r2.1 = r.1 ∧ r2.2.1 = r.2.1 ∧ (∀ k, k < pr_N b c → r2.2.2 0 k = lN (pr_bt b c h g i k)) ∧ ∀ k', k' < k → r2.2.2 1 k' = lN (pr_bt b c h g (i + 1) k'))
      (fun x => ∃ r2, x = (nI a, lN (pq_enc h 16), lN (pq_enc g 16), nI i, r2) ∧ r2.1 = r.1 ∧ r2.2.1 = r.2.1 ∧ (∀ k, k < pr_N b c → r2.2.2 0 k = lN (pr_bt b c h g i k)) ∧ ∀ k, k < pr_N b c → r2.2.2 1 k = lN (pr_bt b c h g (i + 1) k)) (pr_N b c) (by omega) (by
        rintro k s hk ⟨r2, rfl, g1, g2, g3, g4⟩
        have rk := pr_rok_s hr g1 g2
        have fin : ∀ v : Int64, v = lN (pr_bt b c h g (i + 1) k) → ∃ s', fr_heapsBetween_109 (pr_N b c) (nI a) (lN (pq_enc h 16)) (lN (pq_enc g 16)) (nI i) (nI (pr_pk4 fun j => h (4 * i + j))) (nI (pr_pk4 fun j => g (4 * i + j))) (nI k) v (nI k) r2 = some (.inl s') ∧ ∃ r2, s' = (nI a, lN (pq_enc h 16), lN (pq_enc g 16), nI i, nI (pr_pk4 fun j => h (4 * i + j)), nI (pr_pk4 fun j => g (4 * i + j)), nI (k + 1), r2) ∧ r2.1 = r.1 ∧ r2.2.1 = r.2.1 ∧ (∀ k, k < pr_N b c → r2.2.2 0 k = lN (pr_bt b c h g i k)) ∧ ∀ k', k' < k + 1 → r2.2.2 1 k' = lN (pr_bt b c h g (i + 1) k') := by
          intro v hv
          unfold fr_heapsBetween_109
          rw [pr_wl hk (by omega), Option.bind_some, nI_1]
          refine ⟨_, rfl, _, rfl, g1, g2, fun k' hk' => ?_, fun k' hk' => ?_⟩
          · dsimp only
            rw [va_up_ne _ _ (by decide)]; exact g3 k' hk'
          · dsimp only
            rw [va_up_self]
            by_cases e : k' = k
            · subst e; rw [pk_uLs, hv]
            · rw [pk_uLn e]; exact g4 k' (by omega)
        dsimp only
        unfold fr_heapsBetween_33 fr_heapsBetween_77 fr_heapsBetween_78
        rw [if_neg (nI_ge hk (by omega)), pr_rd hk (by omega), Option.bind_some, rk.2.1 k hk, pr_pk4v, pr_covers (x := pr_v b c k) (y := fun j => h (4 * i + j)) (pr_f4_row o hk) (pr_f4_hv H (by omega)), Option.bind_some, Option.bind_some, pr_covers (x := fun j => g (4 * i + j)) (y := pr_v b c k) (pr_f4_hv G (by omega)) (pr_f4_row o hk), Option.bind_some, if_pos (show (0 : Int32) = 0 from rfl), if_neg kq_10]
        cases e1 : pr_le4 (fun j => h (4 * i + j)) (pr_v b c k)
        · rw [if_pos (show pq_b false = 0 from rfl)]
          exact fin 0 (by rw [pr_bt, show pr_fit b c h g i k = false by unfold pr_fit; rw [e1]; rfl]; rfl)
        · rw [if_neg (show ¬ pq_b true = 0 by decide)]
          cases e2 : pr_le4 (pr_v b c k) (fun j => g (4 * i + j))
          · rw [if_pos (show pq_b false = 0 from rfl)]
            exact fin 0 (by rw [pr_bt, show pr_fit b c h g i k = false by unfold pr_fit; rw [e1, e2]; rfl]; rfl)
          · rw [if_neg (show ¬ pq_b true = 0 by decide), pr_rl hk (by omega), Option.bind_some, g3 k hk, pr_others o rk hk g3, Option.bind_some]
            dsimp only
            refine fin _ ?_
            rw [lN_add, pr_bt, show pr_fit b c h g i k = true by unfold pr_fit; rw [e1, e2]; rfl, if_pos rfl, show pr_N b c - k = (pr_N b c - (k + 1)) + 1 by omega, pr_sum_cons, show pr_LE b c k (k + 0) = true from pr_LE_refl b c k, if_pos rfl]
            try rfl) (by
        rintro s ⟨r2, rfl, g1, g2, g3, g4⟩
        refine ⟨_, ?_, r2, rfl, g1, g2, g3, g4⟩
        dsimp only
        unfold fr_heapsBetween_33
        rw [if_pos (nI_le (Nat.le_refl _) (by omega))])
      (s := (nI a, lN (pq_enc h 16), lN (pq_enc g 16), nI i, nI (pr_pk4 fun j => h (4 * i + j)), nI (pr_pk4 fun j => g (4 * i + j)), 0, r1)) ⟨r1, rfl, q1, q2, q3, fun k hk => absurd hk (by omega)⟩
    exact ⟨r2, x1, x2, x3, x5⟩
  refine kq_pair ?_
  unfold lr_heapsBetween_7
  refine kq_itb (fun i s => ∃ r1, s = (nI a, lN (pq_enc h 16), lN (pq_enc g 16), nI i, r1) ∧ r1.1 = r.1 ∧ r1.2.1 = r.2.1 ∧ ∀ k, k < pr_N b c → r1.2.2 0 k = lN (pr_bt b c h g i k))
    (fun r1 => r1.1 = r.1 ∧ r1.2.1 = r.2.1 ∧ ∀ k, k < pr_N b c → r1.2.2 0 k = lN (pr_bt b c h g a k)) a (by omega) ⟨r0, rfl, b2, b3, b4⟩ ?_ ?_ ?_
  · rintro i s hi ⟨r1, rfl, g1, g2, g3⟩
    obtain ⟨r2, x1, x2, x3, x4⟩ := row r1 i hi g1 g2 g3
    obtain ⟨r3, y1, y2, y3, y4⟩ := pr_goNext hN.2 x4
    dsimp only
    unfold fr_heapsBetween_7
    rw [if_neg (nI_ge hi (by omega)), pr_rowIn (pq_hv_h H) (by omega), Option.bind_some, pr_rowIn (pq_hv_h G) (by omega), Option.bind_some, x1, Option.bind_some]
    dsimp only
    rw [y1, Option.bind_some, nI_1]
    exact ⟨_, rfl, r3, rfl, y2.trans x2, y3.trans x3, y4⟩
  · rintro s ⟨r1, rfl, g1, g2, g3⟩
    refine ⟨r1, ?_, g1, g2, g3⟩
    dsimp only
    unfold fr_heapsBetween_7
    rw [if_pos (nI_le (Nat.le_refl a) (by omega))]
  · rintro r1 ⟨g1, g2, g3⟩
    rw [pr_sumAll hN.2 g3, Option.bind_some]
    exact ⟨_, rfl, lN_i _, g1, g2⟩
theorem pm_isBetween {z : km_S} {p q i s a b c : Nat} {h g : Nat → Nat} (hp : p < 4) (hq : q < 4) (H : pq_hv a b c h) (G : pq_hv a b c g) (hb : pq_mb (z.2.1 0) (20 * p) a b c h) (hg : pq_mb (z.2.1 0) (20 * q) a b c g) (hz : pr_ml b c z) (hs : s < pr_N b c) (hi : i < a) : fm_isBetween (nI s) (nI p) (nI q) (nI i) z = some (pq_b (pr_fit b c h g i s), z) := by
  have o := pr_hv H
  have ha := H.1; have hb4 := o.2.1; have hc4 := o.2.2.2
  have hN := pr_N_le o
  have hl : 20 * p + 20 ≤ km_len 0 := by show 20 * p + 20 ≤ 80; omega
  have hl' : 20 * q + 20 ≤ km_len 0 := by show 20 * q + 20 ≤ 80; omega
  have e : pr_fit b c h g i s = pq_all b fun j => decide (h (4 * i + j) ≤ pr_v b c s j ∧ pr_v b c s j ≤ g (4 * i + j)) := by
    apply Bool.eq_iff_iff.mpr
    rw [pq_all_iff]
    unfold pr_fit pr_le4
    simp only [Bool.and_eq_true, decide_eq_true_eq]
    constructor
    · intro q j hj
      have : j = 0 ∨ j = 1 ∨ j = 2 ∨ j = 3 := by omega
      rcases this with rfl | rfl | rfl | rfl
      · exact ⟨q.1.1, q.2.1⟩
      · exact ⟨q.1.2.1, q.2.2.1⟩
      · exact ⟨q.1.2.2.1, q.2.2.2.1⟩
      · exact ⟨q.1.2.2.2, q.2.2.2.2⟩
    · intro q
      have key : ∀ j, j < 4 → h (4 * i + j) ≤ pr_v b c s j ∧ pr_v b c s j ≤ g (4 * i + j) := fun j hj => by
        by_cases e : j < b
        · exact q j e
        · rw [(pr_row o hs j hj).2.1 (by omega), (H.2.2.2.2 i j (by omega) hj).2.1 (by omega)]; exact ⟨Nat.le_refl _, Nat.zero_le _⟩
      exact ⟨⟨(key 0 (by omega)).1, (key 1 (by omega)).1, (key 2 (by omega)).1, (key 3 (by omega)).1⟩, ⟨(key 0 (by omega)).2, (key 1 (by omega)).2, (key 2 (by omega)).2, (key 3 (by omega)).2⟩⟩
  rw [e]
  unfold fm_isBetween lm_isBetween_6
  have hB : (20 : Int32) * nI p + 2 = nI (20 * p + 2) := by rw [show (20 : Int32) * nI p = nI (20 * p) from pk_mul 20 p]; exact nI_add _ 2
  refine kq_runb (fun k => (nI s, nI p, nI q, nI i, pq_b (pq_all k fun j => decide (h (4 * i + j) ≤ pr_v b c s j ∧ pr_v b c s j ≤ g (4 * i + j))), nI k, z)) b (pq_b (pq_all b fun j => decide (h (4 * i + j) ≤ pr_v b c s j ∧ pr_v b c s j ≤ g (4 * i + j))), z) rfl (by omega) (fun k hk => ?_) ?_ (if_pos (pq_b01 _))
  · dsimp only
    unfold fm_isBetween_6 fm_isBetween_88 fm_isBetween_89
    rw [hB, pq_rdb hb hl, Option.bind_some, if_neg (nI_ge hk (by omega)), show (4 : Int32) * nI s = nI (4 * s) from pk_mul 4 s, nI_add, pq_rdn (hz.2 s hs k hk) (show 4 * s + k < 280 by omega), Option.bind_some, pq_all, nI_1]
    cases e : (pq_all k fun j => decide (h (4 * i + j) ≤ pr_v b c s j ∧ pr_v b c s j ≤ g (4 * i + j)))
    · rw [if_pos (show pq_b false = 0 from rfl)]; rfl
    · have v1 := (pr_row o hs k (by omega)).1; have v2 := pq_hv_h H (4 * i + k) (by omega); have v3 := pq_hv_h G (4 * i + k) (by omega)
      rw [if_neg (show ¬ pq_b true = 0 by decide), pq_at, Option.bind_some, show (20 : Int32) * nI p = nI (20 * p) from pk_mul 20 p, nI_add, pq_rdh hb hl (4 * i + k) (by omega) (by omega), Option.bind_some]
      by_cases c1 : pr_v b c s k < h (4 * i + k)
      · rw [if_pos (nI_lt c1 (by omega)), decide_eq_false (by omega)]; rfl
      · rw [if_neg (nI_nlt (by omega) (by omega)), Option.bind_some, show (20 : Int32) * nI q = nI (20 * q) from pk_mul 20 q, nI_add, pq_rdh hg hl' (4 * i + k) (by omega) (by omega), Option.bind_some]
        by_cases c2 : g (4 * i + k) < pr_v b c s k
        · rw [if_pos (nI_lt c2 (by omega)), decide_eq_false (by omega)]; rfl
        · rw [if_neg (nI_nlt (by omega) (by omega)), decide_eq_true (by omega)]; rfl
  · dsimp only
    unfold fm_isBetween_6
    rw [hB, pq_rdb hb hl, Option.bind_some, if_pos (nI_le (Nat.le_refl b) (by omega))]
/-- the reference's sums -/
theorem pm_between {z : km_S} {p q a b c : Nat} {h g : Nat → Nat} (hp : p < 4) (hq : q < 4) (H : pq_hv a b c h) (G : pq_hv a b c g) (hb : pq_mb (z.2.1 0) (20 * p) a b c h) (hg : pq_mb (z.2.1 0) (20 * q) a b c g) (hz : pr_ml b c z) (h0 : ∀ r, r < pr_N b c → z.2.2 0 r = lN (pr_l0 (pr_N b c) r)) : ∃ z', lm_between_66 5000 (nI p) (nI q) (nI b) 0 z = some z' ∧ z'.1 = z.1 ∧ z'.2.1 = z.2.1 ∧ ∀ r, r < pr_N b c → z'.2.2 0 r = lN (pr_bt b c h g a r) := by
  have o := pr_hv H
  have ha := H.1; have hb4 := o.2.1
  have hN := pr_N_le o
  have hl : 20 * p + 20 ≤ km_len 0 := by show 20 * p + 20 ≤ 80; omega
  have hA : (20 : Int32) * nI p + 1 = nI (20 * p + 1) := by rw [show (20 : Int32) * nI p = nI (20 * p) from pk_mul 20 p]; exact nI_add _ 1
  -- one sum
  have sm : ∀ (y : Nat → Nat → Int64) (i s : Nat), i < a → s < pr_N b c → (∀ r, r < pr_N b c → y 0 r = lN (pr_bt b c h g i r)) → y 1 s = 0 → ∃ y', lm_between_106 5000 (nI p) (nI q) (nI b) (nI i) (nI s) (nI s) (z.1, z.2.1, y) = some (nI p, nI q, nI b, nI i, nI s, (z.1, z.2.1, y')) ∧ y' 0 = y 0 ∧ (∀ r, r ≠ s → y' 1 r = y 1 r) ∧ y' 1 s = lN (pr_bt b c h g (i + 1) s) := by
    intro y i s hi hs h1 h2
    unfold lm_between_106
    obtain ⟨x, x1, y', rfl, x2, x3, x4⟩ := kq_it0 (step := fun (s : (Int32 × Int32 × Int32 × Int32 × Int32 × Int32 × km_S)) => fm_between_106 (s.1) (s.2.1) (s.2.2.1) (s.2.2.2.1) (s.2.2.2.2.1) (s.2.2.2.2.2.1) (s.2.2.2.2.2.2))
      (fun t x => ∃ y', x = (nI p, nI q, nI b, nI i, nI s, nI (s + t), (z.1, z.2.1, y')) ∧ y' 0 = y 0 ∧ (∀ r, r ≠ s → y' 1 r = y 1 r) ∧ y' 1 s = lN (if pr_fit b c h g i s then pq_sum t (fun t => if pr_LE b c s (s + t) then pr_bt b c h g i (s + t) else 0) else 0))
      (fun x => ∃ y', x = (nI p, nI q, nI b, nI i, nI s, ((z.1, z.2.1, y') : km_S)) ∧ y' 0 = y 0 ∧ (∀ r, r ≠ s → y' 1 r = y 1 r) ∧ y' 1 s = lN (pr_bt b c h g (i + 1) s)) (pr_N b c - s) (by omega) (by
        rintro t x ht ⟨y', rfl, g1, g2, g3⟩
        have hk : s + t < pr_N b c := by omega
        have fin : ∀ v : Int64, v = lN (if pr_fit b c h g i s then (if pr_LE b c s (s + t) then pr_bt b c h g i (s + t) else 0) else 0) → ∃ s', fm_between_159 (nI p) (nI q) (nI b) (nI i) (nI s) (nI (s + t)) v (y' 1 s) (nI s) (z.1, z.2.1, y') = some (.inl s') ∧ ∃ y', s' = (nI p, nI q, nI b, nI i, nI s, nI (s + (t + 1)), (z.1, z.2.1, y')) ∧ y' 0 = y 0 ∧ (∀ r, r ≠ s → y' 1 r = y 1 r) ∧ y' 1 s = lN (if pr_fit b c h g i s then pq_sum (t + 1) (fun t => if pr_LE b c s (s + t) then pr_bt b c h g i (s + t) else 0) else 0) := by
          intro v hv
          unfold fm_between_159
          rw [pr_mwl (by omega) (by omega), Option.bind_some, nI_1]
          refine ⟨_, rfl, _, rfl, ?_, fun r hr => ?_, ?_⟩
          · dsimp only
            rw [va_up_ne _ _ (by decide)]; exact g1
          · dsimp only
            rw [va_up_self, pk_uLn hr]; exact g2 r hr
          · dsimp only
            rw [va_up_self, pk_uLs, g3, hv, lN_add, pq_sum]
            cases pr_fit b c h g i s <;> rfl
        dsimp only
        unfold fm_between_106 fm_between_158
        dsimp only
        rw [hz.1, if_neg (nI_ge hk (by omega)), pr_mrl (by omega) (by omega), Option.bind_some, pm_isBetween (z := (z.1, z.2.1, y')) hp hq H G hb hg hz hs hi, Option.bind_some]
        dsimp only
        rcases (show pr_fit b c h g i s = false ∨ pr_fit b c h g i s = true by cases pr_fit b c h g i s <;> simp) with e1 | e1
        · rw [if_pos (show pq_b (pr_fit b c h g i s) = 0 by rw [e1]; rfl)]
          exact fin 0 (by rw [e1]; rfl)
        · rw [if_neg (show ¬ pq_b (pr_fit b c h g i s) = 0 by rw [e1]; decide), pm_isUnder (z := (z.1, z.2.1, y')) o hz hs hk, Option.bind_some]
          dsimp only
          rcases (show pr_LE b c s (s + t) = false ∨ pr_LE b c s (s + t) = true by cases pr_LE b c s (s + t) <;> simp) with e2 | e2
          · rw [if_pos (show pq_b (pr_LE b c s (s + t)) = 0 by rw [e2]; rfl)]
            exact fin 0 (by rw [e1, e2]; rfl)
          · rw [if_neg (show ¬ pq_b (pr_LE b c s (s + t)) = 0 by rw [e2]; decide), pr_mrl (by omega) (by omega), Option.bind_some]
            exact fin (y' 0 (s + t)) (by rw [e1, e2, g1, h1 _ hk]; rfl)) (by
        rintro x ⟨y', rfl, g1, g2, g3⟩
        refine ⟨_, ?_, y', rfl, g1, g2, by rw [g3]; rfl⟩
        dsimp only
        unfold fm_between_106
        dsimp only
        rw [hz.1, if_pos (nI_le (by omega) (by omega))])
      (s := (nI p, nI q, nI b, nI i, nI s, nI s, (z.1, z.2.1, y))) ⟨y, rfl, rfl, fun _ _ => rfl, by rw [h2]; simp only [pq_sum, ite_self]; rfl⟩
    exact ⟨y', x1, x2, x3, x4⟩
  -- one row
  have row : ∀ (y : Nat → Nat → Int64) (i : Nat), i < a → (∀ r, r < pr_N b c → y 0 r = lN (pr_bt b c h g i r)) → ∃ y', lm_between_85 5000 (nI p) (nI q) (nI b) (nI i) 0 (z.1, z.2.1, y) = some (nI p, nI q, nI b, nI i, (z.1, z.2.1, y')) ∧ ∀ r, r < pr_N b c → y' 1 r = lN (pr_bt b c h g (i + 1) r) := by
    intro y i hi h1
    unfold lm_between_85
    obtain ⟨x, x1, y', rfl, x2, x3⟩ := kq_it0 (step := fun (s : (Int32 × Int32 × Int32 × Int32 × Int32 × km_S)) => fm_between_85 (s.1) (s.2.1) (s.2.2.1) (s.2.2.2.1) (s.2.2.2.2.1) (s.2.2.2.2.2))
      (fun k x => ∃ y', x = (nI p, nI q, nI b, nI i, nI k, (z.1, z.2.1, y')) ∧ y' 0 = y 0 ∧ ∀ r, r < k → y' 1 r = lN (pr_bt b c h g (i + 1) r))
      (fun x => ∃ y', x = (nI p, nI q, nI b, nI i, ((z.1, z.2.1, y') : km_S)) ∧ y' 0 = y 0 ∧ ∀ r, r < pr_N b c → y' 1 r = lN (pr_bt b c h g (i + 1) r)) (pr_N b c) (by omega) (by
        rintro k x hk ⟨y', rfl, g1, g2⟩
        dsimp only
        unfold fm_between_85
        dsimp only
        rw [hz.1, if_neg (nI_ge hk (by omega)), pr_mwl (by omega) (by omega), Option.bind_some]
        dsimp only
        obtain ⟨y2, z1, z2, z3, z4⟩ := sm (va_up y' 1 (vp_updL (y' 1) k 0)) i k hi hk (fun r hr => by rw [va_up_ne _ _ (by decide), g1]; exact h1 r hr) (by rw [va_up_self, pk_uLs])
        rw [z1, Option.bind_some, nI_1]
        refine ⟨_, rfl, y2, rfl, by rw [z2, va_up_ne _ _ (by decide)]; exact g1, fun r hr => ?_⟩
        by_cases e : r = k
        · subst e; exact z4
        · rw [z3 r e, va_up_self, pk_uLn e]; exact g2 r (by omega)) (by
        rintro x ⟨y', rfl, g1, g2⟩
        refine ⟨_, ?_, y', rfl, g1, g2⟩
        dsimp only
        unfold fm_between_85
        dsimp only
        rw [hz.1, if_pos (nI_le (Nat.le_refl _) (by omega))])
      (s := (nI p, nI q, nI b, nI i, 0, (z.1, z.2.1, y))) ⟨y, rfl, rfl, fun r hr => absurd hr (by omega)⟩
    exact ⟨y', x1, x3⟩
  unfold lm_between_66
  obtain ⟨x, x1, y, rfl, x2⟩ := kq_it0 (step := fun (s : (Int32 × Int32 × Int32 × Int32 × km_S)) => fm_between_66 (s.1) (s.2.1) (s.2.2.1) (s.2.2.2.1) (s.2.2.2.2))
    (fun i x => ∃ y, x = (nI p, nI q, nI b, nI i, (z.1, z.2.1, y)) ∧ ∀ r, r < pr_N b c → y 0 r = lN (pr_bt b c h g i r))
    (fun x => ∃ y, x = ((z.1, z.2.1, y) : km_S) ∧ ∀ r, r < pr_N b c → y 0 r = lN (pr_bt b c h g a r)) a (by omega) (by
      rintro i x hi ⟨y, rfl, g1⟩
      dsimp only
      unfold fm_between_66
      obtain ⟨y2, z1, z2⟩ := row y i hi g1
      obtain ⟨z3, n1, n2, n3, n4⟩ := pm_nextRow (z := (z.1, z.2.1, y2)) hz.1 hN.2 z2
      rw [hA, show km_rd (z.1, z.2.1, y) 0 (nI (20 * p + 1)) = some (nI a) from pq_rda (z := (z.1, z.2.1, y)) hb hl, Option.bind_some, if_neg (nI_ge hi (by omega)), z1, Option.bind_some]
      dsimp only
      rw [n1, Option.bind_some, nI_1]
      refine ⟨_, rfl, z3.2.2, ?_, n4⟩
      rw [← n2, ← n3]) (by
      rintro x ⟨y, rfl, g1⟩
      refine ⟨_, ?_, y, rfl, g1⟩
      dsimp only
      unfold fm_between_66
      rw [hA, show km_rd (z.1, z.2.1, y) 0 (nI (20 * p + 1)) = some (nI a) from pq_rda (z := (z.1, z.2.1, y)) hb hl, Option.bind_some, if_pos (nI_le (Nat.le_refl a) (by omega))])
    (s := (nI p, nI q, nI b, 0, z)) ⟨z.2.2, rfl, h0⟩
  exact ⟨_, x1, rfl, rfl, x2⟩
/-- between(x, y) -/
theorem pq_s23 (cA : Nat → ClassId) : kl_s23 cA (pq_Inv cA) := by
  intro zx P zm hI a1 a2
  have hp := hI.2.2.2.1
  unfold vc_between fm_between
  rcases pq_place hp a1 with ⟨q1, q2⟩ | ⟨p, ad, a, b, c, h, bx, hp4, rfl, q1, q2, q3, H, e1, e2, hb⟩
  · rw [q2]
    obtain ⟨o3, ho3, ho3'⟩ : ∃ o3 : Option Nat, fc_heapAt P a2 zx = some (o3, zx) ∧ True := by
      rcases pq_place hp a2 with ⟨r1, r2⟩ | ⟨p', ad', a', b', c', h', bx', _, _, r1, _⟩
      · exact ⟨_, r1, trivial⟩
      · exact ⟨_, r1, trivial⟩
    exact ⟨_, q1, _, ho3, fun _ => ⟨_, rfl, rfl, hI⟩, fun a3 e => by cases e⟩
  rcases pq_place hp a2 with ⟨r1, r2⟩ | ⟨p', ad', a', b', c', h', bx', hp4', rfl, r1, r2, r3, H', e1', e2', hb'⟩
  · refine ⟨_, q1, _, r1, fun e => (by cases e), fun a3 e => ⟨fun _ => ?_, fun a7 e => by cases e⟩⟩
    rw [q2]
    simp only [Option.bind_some, if_neg kq_10]
    rw [r2]; exact ⟨_, rfl, rfl, hI⟩
  refine ⟨_, q1, _, r1, fun e => (by cases e), fun a5 e => ⟨fun e => (by cases e), fun a7 e' => ?_⟩⟩
  cases e; cases e'
  have ha := H.1; have hb4 := H.2.1; have hc4 := H.2.2.1
  have ha' := H'.1; have hb4' := H'.2.1; have hc4' := H'.2.2.1
  have o := pr_hv H
  have hN := pr_N_le o
  have hl : 20 * p + 20 ≤ km_len 0 := by show 20 * p + 20 ≤ 80; omega
  rw [q2]
  simp only [Option.bind_some, if_neg kq_10, r2]
  rw [pm_alike hp4 hp4' H H' hb hb', Option.bind_some]
  refine ⟨_, e1, _, e1', _, e2, _, e2', _, pq_same ha.2 hb4.2 hc4.2 ha'.2 hb4'.2 hc4'.2, fun n => ?_, fun n => ?_⟩
  · rw [if_pos n]; exact ⟨_, rfl, rfl, hI⟩
  rw [if_neg n]
  by_cases same : a = a' ∧ b = b' ∧ c = c'
  case neg => rw [decide_eq_false same] at n; exact absurd rfl n
  obtain ⟨rfl, rfl, rfl⟩ := same
  refine ⟨_, e1, pr_rowsOf hI e2 o fun adr q r Pa Pb zx' hz hx hat hI2 => ?_⟩
  obtain ⟨r', b1, b2, b3⟩ := pr_heapsBetween H H' hat.1
  refine ⟨_, hx.1 _ _ e1, _, hx.2 _ _ e2, _, hx.1 _ _ e1, _, hx.1 _ _ e1', adr, rfl, q, _, r, Pa, Pb, rfl, _, b1, ?_⟩
  dsimp only
  rw [show (20 : Int32) * nI p = nI (20 * p) from pk_mul 20 p, show nI (20 * p) + 2 = nI (20 * p + 2) from nI_add _ 2, pq_rdb hb hl, Option.bind_some, show nI (20 * p) + 3 = nI (20 * p + 3) from nI_add _ 3, pq_rdc hb hl, Option.bind_some]
  obtain ⟨z1, l1, l2, l3, l4⟩ := pm_laysRows (z := zm) o
  obtain ⟨z2, s1, s2, s3, s4⟩ := pm_beginsSums l2.1 hN
  have f2 : z2.2.1 0 = zm.2.1 0 := by rw [s3, l3.2 0 (by decide)]
  obtain ⟨z3, t1, t2, t3, t4⟩ := pm_between (z := z2) hp4 hp4' H H' (by rw [f2]; exact hb) (by rw [f2]; exact hb') ⟨by rw [s2]; exact l2.1, by rw [s3]; exact l2.2⟩ s4
  rw [l1, Option.bind_some, s1, Option.bind_some, t1, Option.bind_some, pm_allSums (by rw [t2, s2]; exact l2.1) hN.2 t4, Option.bind_some]
  refine ⟨_, rfl, (lN_i _).symm, hat.2 r' b2 b3 _ (pr_Inv_m (I := [5]) (A := [6]) hI2 ⟨fun k hk => ?_, fun k hk => ?_⟩ (by decide) (by intro k hk; simp; omega))⟩
  · dsimp only
    rw [t2, s2]; exact l3.1 k hk
  · dsimp only
    rw [t3, s3]; exact l3.2 k hk
