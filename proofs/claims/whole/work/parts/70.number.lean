/-! THE NUMBER OF A HEAP -/
theorem pr_enc_split (h : Nat → Nat) (m : Nat) : ∀ n, pq_enc h (m + n) = pq_enc h m * 16 ^ n + pq_enc (fun t => h (m + t)) n
  | 0 => by simp [pq_enc]
  | n + 1 => by
    rw [← Nat.add_assoc, pq_enc, pr_enc_split h m n, pq_enc, Nat.pow_succ, Nat.add_mul, Nat.mul_assoc]
    omega
theorem pr_rowIn {h : Nat → Nat} (H : ∀ t, t < 16 → h t ≤ 4) {i : Nat} (hi : i < 4) : fx_rowIn (lN (pq_enc h 16)) (nI i) = some (nI (pr_pk4 fun j => h (4 * i + j))) := by
  have hE : pq_enc h 16 < 2 ^ 64 := Nat.lt_of_lt_of_le (pq_enc_lt (h := h) (n := 16) fun t ht => Nat.lt_of_le_of_lt (H t ht) (by decide)) (by decide)
  have h0 := H (4 * i) (by omega); have h1 := H (4 * i + 1) (by omega); have h2 := H (4 * i + 2) (by omega); have h3 := H (4 * i + 3) (by omega)
  have e := pr_enc_split h (4 * (i + 1)) (16 - 4 * (i + 1))
  rw [show 4 * (i + 1) + (16 - 4 * (i + 1)) = 16 by omega] at e
  have l := pq_enc_lt (h := fun t => h (4 * (i + 1) + t)) (n := 16 - 4 * (i + 1)) fun t ht => Nat.lt_of_le_of_lt (H _ (by omega)) (by decide)
  have p : (16 : Nat) ^ (16 - 4 * (i + 1)) = 2 ^ (48 - 16 * i) := by
    rw [show (16 : Nat) = 2 ^ 4 from rfl, ← Nat.pow_mul]; congr 1; omega
  rw [p] at e l
  have pos := Nat.two_pow_pos (48 - 16 * i)
  have q : pq_enc h 16 / 2 ^ (48 - 16 * i) = pq_enc h (4 * (i + 1)) := by
    rw [e, Nat.mul_comm, Nat.mul_add_div pos, Nat.div_eq_of_lt l, Nat.add_zero]
  unfold fx_rowIn
  rw [pr_sh i hi, kq_ushr hE (by omega), kq_and16, q, pr_enc_row]
  congr 2
  show _ = h (4 * i) * 4096 + h (4 * i + 1) * 256 + h (4 * i + 2) * 16 + h (4 * i + 3)
  omega
/-- K i is the row i of the heap -/
def pr_kx (b c a : Nat) (h K : Nat → Nat) : Prop := ∀ i, i < a → K i < pr_N b c ∧ ∀ j, j < 4 → pr_v b c (K i) j = h (4 * i + j)
theorem pr_kx_ex {a b c : Nat} {h : Nat → Nat} (H : pq_hv a b c h) : ∃ K, pr_kx b c a h K := by
  refine pq_choose1 (p := fun i k => k < pr_N b c ∧ ∀ j, j < 4 → pr_v b c k j = h (4 * i + j)) fun i hi => ?_
  have ha := H.1
  have q := fun j hj => H.2.2.2.2 i j (by omega) hj
  exact pr_find (pr_hv H) (x := fun j => h (4 * i + j)) (q 0 (by omega)).1 ((q 0 (by omega)).2.2.2 (by omega)) ((q 1 (by omega)).2.2.2 (by omega)) ((q 2 (by omega)).2.2.2 (by omega)) (fun j h1 h2 => (q j h2).2.1 (by omega))
theorem pr_kx_pk {a b c : Nat} {h K : Nat → Nat} (hK : pr_kx b c a h K) {i : Nat} (hi : i < a) : pq_pack (pq_row b c (K i)) = pr_pk4 fun j => h (4 * i + j) := by
  have q := (hK i hi).2
  rw [pr_pk, q 0 (by omega), q 1 (by omega), q 2 (by omega), q 3 (by omega)]; rfl
def pr_ab (b c : Nat) (K : Nat → Nat) (i : Nat) : Nat := if i = 0 then pr_N b c - 1 else K (i - 1)
theorem pr_kx_ab {a b c : Nat} {h K : Nat → Nat} (o : pr_ok b c) (hK : pr_kx b c a h K) {i : Nat} (hi : i ≤ a) : pr_ab b c K i < pr_N b c := by
  have := pr_N_le o
  unfold pr_ab
  split
  · omega
  · exact (hK (i - 1) (by omega)).1
theorem pr_kx_LE {a b c : Nat} {h K : Nat → Nat} (H : pq_hv a b c h) (hK : pr_kx b c a h K) {i : Nat} (hi : i < a) : pr_LE b c (K i) (pr_ab b c K i) = true := by
  have ha := H.1
  unfold pr_ab
  split
  · exact pr_LE_last (pr_hv H) (hK i hi).1
  · rw [pr_LE4]
    unfold pr_le4
    apply decide_eq_true
    obtain ⟨i, rfl⟩ : ∃ x, i = x + 1 := ⟨i - 1, by omega⟩
    rw [Nat.add_sub_cancel]
    have key : ∀ j, j < 4 → pr_v b c (K (i + 1)) j ≤ pr_v b c (K i) j := fun j hj => by
      rw [(hK (i + 1) hi).2 j hj, (hK i (by omega)).2 j hj]
      exact (H.2.2.2.2 i j (by omega) hj).2.2.1 (by omega)
    exact ⟨key 0 (by omega), key 1 (by omega), key 2 (by omega), key 3 (by omega)⟩
def pr_G (b c a : Nat) (K : Nat → Nat) (i : Nat) : Nat := pq_sum (K i) (pr_W b c (a - 1 - i) (pr_ab b c K i))
def pr_num (b c a : Nat) (K : Nat → Nat) : Nat := pq_sum a (pr_G b c a K)
/-- numberOf(a, cubes) -/
theorem pr_numberOf {a b c : Nat} {h K : Nat → Nat} {r : kr_S} (H : pq_hv a b c h) (hr : pq_rok b c (pr_N b c) r) (hK : pr_kx b c a h K) : fr_numberOf (pr_N b c) (nI a) (lN (pq_enc h 16)) r = some (nI (pr_num b c a K), r) := by
  have o := pr_hv H
  have ha := H.1
  have hN := pr_N_le o
  have inner : ∀ (x i : Nat), i < a → lr_numberOf_37 (pr_N b c) 5000 (nI a) (lN (pq_enc h 16)) (nI x) (nI (pq_pack (pq_row b c (pr_ab b c K i)))) (nI i) (nI (pq_pack (pq_row b c (K i)))) 0 r = some (nI a, lN (pq_enc h 16), nI (x + pr_G b c a K i), nI i, nI (pq_pack (pq_row b c (K i))), r) := by
    intro x i hi
    have k1 := (hK i hi).1
    have p1 := pr_kx_ab o hK (i := i) (by omega)
    unfold pr_G
    generalize pr_ab b c K i = A at *
    unfold lr_numberOf_37
    refine kq_run0 (fun t => (nI a, lN (pq_enc h 16), nI (x + pq_sum t (pr_W b c (a - 1 - i) A)), nI (pq_pack (pq_row b c A)), nI i, nI (pq_pack (pq_row b c (K i))), nI t, r)) (K i) rfl (by omega) (fun t ht => ?_) ?_
    · dsimp only
      have pl := pr_pk_lt o ht k1
      have pm := pr_pk_le o k1
      unfold fr_numberOf_37 fr_numberOf_93
      rw [if_neg (nI_ge (show t < pr_N b c by omega) (by omega)), pr_rd (show t < pr_N b c by omega) (by omega), Option.bind_some, hr.2.1 t (by omega), if_neg (nI_ge pl (by omega)), Option.bind_some, pr_covers_row o (by omega) p1, Option.bind_some, pq_sum, nI_1]
      unfold pr_W
      cases e : pr_LE b c t A
      · rw [if_pos (show pq_b false = 0 from rfl), if_neg (by decide)]; rfl
      · rw [if_neg (show ¬ pq_b true = 0 by decide), if_pos rfl, show nI a - 1 - nI i = nI (a - 1 - i) by
          simp (disch := omega) only [kq_lit, pk_sub], pr_ix (by omega), Option.bind_some, pr_ru (by omega) (by omega), Option.bind_some, hr.2.2 _ _ (by omega) (by omega), nI_add, Nat.add_assoc]
    · dsimp only
      unfold fr_numberOf_37
      rw [if_neg (nI_ge k1 (by omega)), pr_rd k1 (by omega), Option.bind_some, hr.2.1 _ k1, if_pos (Int32.le_refl _)]
  unfold fr_numberOf
  rw [show nI (pr_N b c) - 1 = nI (pr_N b c - 1) from pk_sub (b := 1) (by omega), pr_rd (by omega) (by omega), Option.bind_some, hr.2.1 _ (by omega)]
  unfold lr_numberOf_20
  refine kq_runb (fun i => (nI a, lN (pq_enc h 16), nI (pq_sum i (pr_G b c a K)), nI (pq_pack (pq_row b c (pr_ab b c K i))), nI i, r)) a (nI (pr_num b c a K), r) rfl (by omega) (fun i hi => ?_) ?_ rfl
  · dsimp only
    unfold fr_numberOf_20 fr_numberOf_99
    rw [if_neg (nI_ge hi (by omega)), pr_rowIn (pq_hv_h H) (by omega), Option.bind_some, ← pr_kx_pk hK hi, inner _ i hi, Option.bind_some, nI_1, pq_sum]
    dsimp only
    rw [show pr_ab b c K (i + 1) = K i from if_neg (by omega)]
  · dsimp only
    unfold fr_numberOf_20
    rw [if_pos (nI_le (Nat.le_refl a) (by omega))]; rfl
theorem pm_rowOf {z : km_S} {k0 q a b c : Nat} {h K : Nat → Nat} (H : pq_hv a b c h) (hb : pq_mb (z.2.1 k0) q a b c h) (hl : q + 20 ≤ km_len k0) (hz : pr_ml b c z) (hK : pr_kx b c a h K) {i : Nat} (hi : i < a) : fm_rowOf k0 (nI q) (nI i) z = some (nI (K i), z) := by
  have o := pr_hv H
  have ha := H.1; have hb4 := o.2.1
  have hN := pr_N_le o
  have hk0 := kq_km (k := k0)
  have k1 := (hK i hi).1
  unfold fm_rowOf lm_rowOf_3
  have stp : ∀ t, t < pr_N b c → fm_rowOf_3 k0 (nI q) (nI i) (nI t) z = if (pq_all b fun u => decide (pr_v b c t u = h (4 * i + u))) = true then some (.inr (nI t, z)) else some (.inl (nI q, nI i, nI (t + 1), z)) := by
    intro t ht
    unfold fm_rowOf_3
    rw [show (0 : Int32) = nI 0 from rfl, pq_at, Option.bind_some, show nI q + 2 = nI (q + 2) from nI_add q 2, pq_rdb hb hl, Option.bind_some, nI_add, show (4 : Int32) * nI t = nI (4 * t) from pk_mul 4 t, pm_isSame (show 4 * t + b ≤ 280 by omega) (by omega) (by omega), Option.bind_some, nI_1]
    have e : (pq_all b fun u => decide (z.2.1 6 (4 * t + u) = z.2.1 k0 (q + (4 + 4 * i + 0) + u))) = pq_all b fun u => decide (pr_v b c t u = h (4 * i + u)) := by
      apply Bool.eq_iff_iff.mpr
      rw [pq_all_iff, pq_all_iff]
      refine ⟨fun p u hu => ?_, fun p u hu => ?_⟩
      · have p1 := of_decide_eq_true (p u hu)
        have v1 := (pr_row o ht u (by omega)).1; have v2 := pq_hv_h H (4 * i + u) (by omega); have := o.2.2.2
        rw [hz.2 t ht u hu, show q + (4 + 4 * i + 0) + u = q + 4 + (4 * i + u) by omega, hb.2.2.2.2 _ (by omega), nI_eq (by omega) (by omega)] at p1
        exact decide_eq_true p1
      · have p1 := of_decide_eq_true (p u hu)
        apply decide_eq_true
        rw [hz.2 t ht u hu, show q + (4 + 4 * i + 0) + u = q + 4 + (4 * i + u) by omega, hb.2.2.2.2 _ (by omega), p1]
    rw [e]
    cases (pq_all b fun u => decide (pr_v b c t u = h (4 * i + u)))
    · rw [if_pos (show pq_b false = nI 0 from rfl)]; rfl
    · rw [if_neg (show ¬ pq_b true = nI 0 by decide)]; rfl
  refine kq_runb (fun t => (nI q, nI i, nI t, z)) (K i) (nI (K i), z) rfl (by omega) (fun t ht => ?_) ?_ rfl
  · dsimp only
    rw [stp t (by omega), if_neg]
    intro p
    rw [pq_all_iff] at p
    have pl := pr_pk_lt o ht k1
    have key : ∀ j, j < 4 → pr_v b c t j = pr_v b c (K i) j := fun j hj => by
      by_cases e : j < b
      · rw [of_decide_eq_true (p j e), (hK i hi).2 j hj]
      · rw [(pr_row o (show t < pr_N b c by omega) j hj).2.1 (by omega), (pr_row o k1 j hj).2.1 (by omega)]
    rw [pr_pk, pr_pk, key 0 (by omega), key 1 (by omega), key 2 (by omega), key 3 (by omega)] at pl
    omega
  · dsimp only
    rw [stp _ k1, if_pos]
    rw [pq_all_iff]
    exact fun u hu => decide_eq_true ((hK i hi).2 u (by omega))
/-- numberOf(f, i) of the reference -/
theorem pm_numberOf {z : km_S} {k0 q a b c : Nat} {h K : Nat → Nat} (H : pq_hv a b c h) (hb : pq_mb (z.2.1 k0) q a b c h) (hl : q + 20 ≤ km_len k0) (h6 : k0 ≠ 6) (h7 : k0 ≠ 7) (hK : pr_kx b c a h K) : ∃ z', fm_numberOf k0 (nI q) z = some (nI (pr_num b c a K), z') ∧ pr_ly a b c z' ∧ pr_fq [5] [6, 7] z z' ∧ z'.2.2 = z.2.2 := by
  have o := pr_hv H
  have ha := H.1; have hb4 := o.2.1
  have hN := pr_N_le o
  obtain ⟨z', l1, l2, l3, l4⟩ := pm_lays (z := z) o ha
  have hb' : pq_mb (z'.2.1 k0) q a b c h := by rw [l3.2 k0 (by simp [h6, h7])]; exact hb
  refine ⟨z', ?_, l2, l3, l4⟩
  unfold fm_numberOf
  rw [show nI q + 1 = nI (q + 1) from nI_add q 1, pq_rda hb hl, Option.bind_some, show nI q + 2 = nI (q + 2) from nI_add q 2, pq_rdb hb hl, Option.bind_some, show nI q + 3 = nI (q + 3) from nI_add q 3, pq_rdc hb hl, Option.bind_some, l1, Option.bind_some]
  dsimp only
  have inner : ∀ (x i : Nat), i < a → lm_numberOf_59 k0 5000 (nI q) (nI a) (nI b) (nI x) (nI (pr_ab b c K i)) (nI i) (nI (K i)) 0 z' = some (nI q, nI a, nI b, nI (x + pr_G b c a K i), nI i, nI (K i), z') := by
    intro x i hi
    have k1 := (hK i hi).1
    have p1 := pr_kx_ab o hK (i := i) (by omega)
    unfold pr_G
    generalize pr_ab b c K i = A at *
    unfold lm_numberOf_59
    refine kq_run0 (fun t => (nI q, nI a, nI b, nI (x + pq_sum t (pr_W b c (a - 1 - i) A)), nI A, nI i, nI (K i), nI t, z')) (K i) rfl (by omega) (fun t ht => ?_) ?_
    · dsimp only
      unfold fm_numberOf_59 fm_numberOf_101
      rw [if_neg (nI_ge ht (by omega)), pm_isUnder o l2.1 (by omega) p1, Option.bind_some, pq_sum, nI_1]
      unfold pr_W
      cases e : pr_LE b c t A
      · rw [if_pos (show pq_b false = 0 from rfl), if_neg (by decide), ← Nat.add_assoc]
        simp only [kq_lit, nI_add]
      · rw [if_neg (show ¬ pq_b true = 0 by decide), if_pos rfl, show (5 : Int32) * nI t + nI a - 1 - nI i = nI (5 * t + (a - 1 - i)) by
          rw [show (5 : Int32) * nI t = nI (5 * t) from pk_mul 5 t, nI_add, show nI (5 * t + a) - 1 = nI (5 * t + a - 1) from pk_sub (b := 1) (by omega), pk_sub (by omega)]; congr 1; omega, pq_rdn (l2.2 (a - 1 - i) (by omega) t (by omega)) (show 5 * t + (a - 1 - i) < 350 by omega), Option.bind_some, nI_add, Nat.add_assoc]
    · dsimp only
      unfold fm_numberOf_59
      rw [if_pos (nI_le (Nat.le_refl _) (by omega))]
  rw [l2.1.1, show nI (pr_N b c) - 1 = nI (pr_N b c - 1) from pk_sub (b := 1) (by omega)]
  unfold lm_numberOf_40
  refine kq_runb (fun i => (nI q, nI a, nI b, nI (pq_sum i (pr_G b c a K)), nI (pr_ab b c K i), nI i, z')) a (nI (pr_num b c a K), z') rfl (by omega) (fun i hi => ?_) ?_ rfl
  · dsimp only
    unfold fm_numberOf_40
    rw [if_neg (nI_ge hi (by omega)), pm_rowOf H hb' hl l2.1 hK hi, Option.bind_some]
    dsimp only
    rw [inner _ i hi, Option.bind_some, nI_1, pq_sum]
    dsimp only
    rw [show pr_ab b c K (i + 1) = K i from if_neg (by omega)]
  · dsimp only
    unfold fm_numberOf_40
    rw [if_pos (nI_le (Nat.le_refl a) (by omega))]; rfl
/-! number and heap belong to each other -/
theorem pr_num_ge {a b c : Nat} {h K : Nat → Nat} (H : pq_hv a b c h) (hK : pr_kx b c a h K) : ∀ d i, i + d = a → pr_num b c a K < pq_sum i (pr_G b c a K) + pq_U b c d (pr_ab b c K i)
  | 0, i, hi => by
    have : i = a := by omega
    subst this
    rw [pr_U0]; unfold pr_num; omega
  | d + 1, i, hi => by
    have o := pr_hv H
    have ih := pr_num_ge H hK d (i + 1) (by omega)
    have le := pr_kx_LE H hK (i := i) (by omega)
    have k1 := (hK i (by omega)).1
    have le2 := pr_LE_le o k1 (pr_kx_ab o hK (i := i) (by omega)) le
    rw [show pr_ab b c K (i + 1) = K i from if_neg (by omega), pq_sum] at ih
    have h1 : pr_G b c a K i + pq_U b c d (K i) = pq_sum (K i + 1) (pr_W b c d (pr_ab b c K i)) := by
      unfold pr_G
      rw [show a - 1 - i = d by omega, pq_sum]
      congr 1
      unfold pr_W
      rw [le, if_pos rfl]
    have h2 := pr_sum_le (f := pr_W b c d (pr_ab b c K i)) (m := K i + 1) (n := pr_ab b c K i + 1) (by omega)
    rw [pr_W_sum]
    omega
theorem pr_num_lt {a b c : Nat} {h K : Nat → Nat} (H : pq_hv a b c h) (hK : pr_kx b c a h K) : pr_num b c a K < pq_U b c a (pr_N b c - 1) := by
  have := pr_num_ge H hK a 0 (by omega)
  simpa [pq_sum, pr_ab] using this
theorem pr_num_st {a b c : Nat} {h K : Nat → Nat} (H : pq_hv a b c h) (hK : pr_kx b c a h K) : ∀ i, i ≤ a → pr_st b c a (pr_num b c a K) i = (pr_ab b c K i, pr_num b c a K - pq_sum i (pr_G b c a K))
  | 0, _ => rfl
  | i + 1, hi => by
    have o := pr_hv H
    have k1 := (hK i (by omega)).1
    have le := pr_kx_LE H hK (i := i) (by omega)
    have s1 : pq_sum (i + 1) (pr_G b c a K) ≤ pr_num b c a K := pr_sum_le hi
    have s2 := pr_num_ge H hK (a - 1 - i) (i + 1) (by omega)
    rw [show pr_ab b c K (i + 1) = K i from if_neg (by omega)] at s2 ⊢
    have ih := pr_num_st H hK i (by omega)
    have hG : pr_G b c a K i = pq_sum (K i) (pr_W b c (a - 1 - i) (pr_ab b c K i)) := rfl
    have hW : pr_W b c (a - 1 - i) (pr_ab b c K i) (K i) = pq_U b c (a - 1 - i) (K i) := by
      unfold pr_W; rw [le, if_pos rfl]
    rw [pq_sum] at s1 s2 ⊢
    have hk : pr_ks (pr_W b c (a - 1 - i) (pr_ab b c K i)) (pr_num b c a K - pq_sum i (pr_G b c a K)) (pr_N b c) = K i :=
      pr_ks_eq k1 (by omega) (by rw [pq_sum]; omega)
    show (pr_ks (pr_W b c (a - 1 - i) (pr_st b c a (pr_num b c a K) i).1) (pr_st b c a (pr_num b c a K) i).2 (pr_N b c), (pr_st b c a (pr_num b c a K) i).2 - pq_sum (pr_ks (pr_W b c (a - 1 - i) (pr_st b c a (pr_num b c a K) i).1) (pr_st b c a (pr_num b c a K) i).2 (pr_N b c)) (pr_W b c (a - 1 - i) (pr_st b c a (pr_num b c a K) i).1)) = _
    rw [ih]
    dsimp only
    rw [hk, ← hG, Nat.sub_sub]
/-- the heap with the number of a heap is that heap -/
theorem pr_hn_num {a b c : Nat} {h K : Nat → Nat} (H : pq_hv a b c h) (hK : pr_kx b c a h K) : ∀ t, t < 16 → pr_hn b c a (pr_num b c a K) t = h t := by
  intro t ht
  have ha := H.1
  by_cases e : t / 4 < a
  · have h1 := pr_hn_at (b := b) (c := c) (num := pr_num b c a K) e (show t % 4 < 4 by omega)
    rw [show 4 * (t / 4) + t % 4 = t by omega] at h1
    rw [h1, pr_num_st H hK _ (by omega)]
    dsimp only
    rw [show pr_ab b c K (t / 4 + 1) = K (t / 4) from if_neg (by omega), (hK _ e).2 _ (by omega), show 4 * (t / 4) + t % 4 = t by omega]
  · unfold pr_hn
    rw [if_neg e]
    have := (H.2.2.2.2 (t / 4) (t % 4) (by omega) (by omega)).2.1 (by omega)
    rw [show 4 * (t / 4) + t % 4 = t by omega] at this
    exact this.symm
/-- a greater number, a later heap -/
theorem pr_hn_lt {a b c n m : Nat} (ha : 1 ≤ a ∧ a ≤ 4) (o : pr_ok b c) (hm : a * b * c ≤ 48) (h : n < m) (hmU : m < pq_U b c a (pr_N b c - 1)) : pq_enc (pr_hn b c a n) 16 < pq_enc (pr_hn b c a m) 16 := by
  have hnU : n < pq_U b c a (pr_N b c - 1) := by omega
  have Hn := pq_hv_h (pr_hn_hv ha o hm hnU)
  have Hm := pq_hv_h (pr_hn_hv ha o hm hmU)
  -- either alike so far, or already before
  have key : ∀ i, i ≤ a → (((pr_st b c a n i).1 = (pr_st b c a m i).1 ∧ (pr_st b c a n i).2 < (pr_st b c a m i).2) ∧ pq_enc (pr_hn b c a n) (4 * i) = pq_enc (pr_hn b c a m) (4 * i)) ∨ pq_enc (pr_hn b c a n) (4 * i) < pq_enc (pr_hn b c a m) (4 * i) := by
    intro i
    induction i with
    | zero => intro _; exact Or.inl ⟨⟨rfl, h⟩, rfl⟩
    | succ i ih =>
      intro hi
      obtain ⟨q1, q2, q3, q4, _⟩ := pr_st_pick o hnU (i := i) (by omega)
      obtain ⟨p1, p2, p3, p4, _⟩ := pr_st_pick o hmU (i := i) (by omega)
      have rn : ∀ num, pr_hn b c a num (4 * i) * 4096 + pr_hn b c a num (4 * i + 1) * 256 + pr_hn b c a num (4 * i + 2) * 16 + pr_hn b c a num (4 * i + 3) = pq_pack (pq_row b c (pr_st b c a num (i + 1)).1) := fun num => by
        rw [pr_pk, show 4 * i = 4 * i + 0 from rfl, pr_hn_at (by omega) (by omega), show 4 * i + 0 + 1 = 4 * i + 1 from rfl, pr_hn_at (by omega) (by omega), show 4 * i + 0 + 2 = 4 * i + 2 from rfl, pr_hn_at (by omega) (by omega), show 4 * i + 0 + 3 = 4 * i + 3 from rfl, pr_hn_at (by omega) (by omega)]
      rw [pr_enc_row, pr_enc_row, rn, rn]
      have b1 := pr_pk_le o q1; have b2 := pr_pk_le o p1
      rcases ih (by omega) with ⟨⟨e1, e2⟩, e3⟩ | e
      · rw [← e1] at p2 p3 p4
        generalize pr_W b c (a - 1 - i) (pr_st b c a n i).1 = f at *
        rcases Nat.lt_trichotomy (pr_st b c a n (i + 1)).1 (pr_st b c a m (i + 1)).1 with t | t | t
        · have := pr_pk_lt o t p1
          exact Or.inr (by omega)
        · rw [← t] at p2 p4
          exact Or.inl ⟨⟨t, by omega⟩, by rw [e3, t]⟩
        · have := pr_sum_le (f := f) (m := (pr_st b c a m (i + 1)).1 + 1) (n := (pr_st b c a n (i + 1)).1) (by omega)
          omega
      · exact Or.inr (by omega)
  have z : ∀ num, num < pq_U b c a (pr_N b c - 1) → pq_enc (pr_hn b c a num) 16 = pq_enc (pr_hn b c a num) (4 * a) * 2 ^ (64 - 16 * a) := fun num hnum => pr_enc_tail ha.2 fun t h1 h2 => by
    unfold pr_hn; rw [if_neg (by omega)]
  rw [z n hnU, z m hmU]
  rcases key a (Nat.le_refl a) with ⟨⟨e1, e2⟩, _⟩ | e
  · have h1 := (pr_st_ok o hmU a (Nat.le_refl a)).2
    rw [Nat.sub_self, pr_U0] at h1
    omega
  · exact Nat.mul_lt_mul_of_pos_right e (Nat.two_pow_pos _)
/-- numberOf(heap) of the class -/
theorem pr_numberOfC {cA : Nat → ClassId} {zx : kx_S} {P : va_W} {zm : km_S} (hI : pq_Inv cA zx P zm) {ad bx a b c : Nat} {h K : Nat → Nat} (H : pq_hv a b c h) (e1 : kx_hp P ad = some (bx, lN (pq_enc h 16))) (e2 : kx_bx P bx = some (nI a, nI b, nI c)) (hK : pr_kx b c a h K) {Q : Int32 → kx_S → va_W → Prop}
    (hQ : ∀ zx' P', (zx'.1 = zx.1 ∧ zx'.2.1 = zx.2.1 ∧ ∀ k, k ≠ 3 → zx'.2.2.2 k = zx.2.2.2 k) → pq_ext P P' → pq_Inv cA zx' P' zm → Q (nI (pr_num b c a K)) zx' P') : vc_numberOf cA ad zx P Q := by
  unfold vc_numberOf
  refine ⟨_, e1, pr_rowsOf hI e2 (pr_hv H) fun ad' q r Pa Pb zx' hz hx hat hI2 => ?_⟩
  exact ⟨_, hx.1 _ _ e1, _, hx.2 _ _ e2, _, hx.1 _ _ e1, ad', rfl, q, _, r, Pa, Pb, rfl, _, pr_numberOf H hat.1 hK, hQ zx' _ hz hx hI2⟩
