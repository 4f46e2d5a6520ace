/-! ORDERS: the class -/
theorem pr_sum16 (F : Nat → Nat) : pq_sum 16 F = pq_sum 4 fun i => pq_sum 4 fun j => F (4 * i + j) := by
  simp [pq_sum]; omega
theorem pr_shr_sh {a b c : Nat} {g : Nat → Nat} (H : pq_hv a b c g) {i j : Nat} (hi : i < a) (hj : j < b) : pq_shr a b g i j = pr_shk g (4 * i + j) := by
  have ha := H.1; have hb := H.2.1
  unfold pq_shr pr_shk
  have e1 : pq_g a b g (i + 1) j = if 4 * i + j + 4 < 16 then g (4 * i + j + 4) else 0 := by
    unfold pq_g
    by_cases c : i + 1 < a
    · rw [if_pos ⟨c, hj⟩, if_pos (by omega), show 4 * (i + 1) + j = 4 * i + j + 4 by omega]
    · rw [if_neg (by omega)]
      by_cases c2 : 4 * i + j + 4 < 16
      · rw [if_pos c2]
        have := (H.2.2.2.2 (i + 1) j (by omega) (by omega)).2.1 (by omega)
        rw [show 4 * (i + 1) + j = 4 * i + j + 4 by omega] at this
        exact this.symm
      · rw [if_neg c2]
  have e2 : pq_g a b g i (j + 1) = if (4 * i + j) % 4 < 3 then g (4 * i + j + 1) else 0 := by
    unfold pq_g
    by_cases c : j + 1 < b
    · rw [if_pos ⟨hi, c⟩, if_pos (by omega), show 4 * i + (j + 1) = 4 * i + j + 1 by omega]
    · rw [if_neg (by omega)]
      by_cases c2 : (4 * i + j) % 4 < 3
      · rw [if_pos c2]
        have := (H.2.2.2.2 i (j + 1) (by omega) (by omega)).2.1 (by omega)
        rw [show 4 * i + (j + 1) = 4 * i + j + 1 by omega] at this
        exact this.symm
      · rw [if_neg c2]
  rw [e1, e2, pq_g_in hi hj]
theorem pr_shk_0 {g : Nat → Nat} {t : Nat} (h : g t = 0) : pr_shk g t = false := by
  unfold pr_shk; rw [h]; exact decide_eq_false (by omega)
/-- the sum over the box -/
theorem pr_od_box {a b c n : Nat} {g : Nat → Nat} (H : pq_hv a b c g) : pr_od (n + 1) g = pq_sum a fun i => pq_sum b fun j => if pr_shk g (4 * i + j) then pr_od n (pq_u g (4 * i + j) (g (4 * i + j) - 1)) else 0 := by
  have ha := H.1; have hb := H.2.1
  have z : ∀ i j, i < 4 → j < 4 → ¬ (i < a ∧ j < b) → (if pr_shk g (4 * i + j) then pr_od n (pq_u g (4 * i + j) (g (4 * i + j) - 1)) else 0) = 0 := fun i j hi hj hn => by
    rw [pr_shk_0 ((H.2.2.2.2 i j hi hj).2.1 hn)]; rfl
  rw [pr_od, pr_sum16, pq_sum_cut (n := 4) (a := a) ha.2 fun k h1 h2 => by
    rw [pq_sum_eq (g := fun _ => 0) fun j hj => z k j h2 hj (by omega)]
    exact pq_sum_zero]
  exact pq_sum_eq fun i hi => pq_sum_cut hb.2 fun j h1 h2 => z i j (by omega) h2 (by omega)
theorem pr_od_1 {g : Nat → Nat} (hg : pr_fall g) (hs : pq_sum 16 g = 1) : pr_od 1 g = 1 := by
  have le : ∀ t, t < 16 → g t ≤ g 0 := by
    have row : ∀ t, t < 4 → g t ≤ g 0 := by
      intro t ht
      induction t with
      | zero => exact Nat.le_refl _
      | succ t ih => exact Nat.le_trans ((hg t (by omega)).2 (by omega)) (ih (by omega))
    intro t ht
    have col : ∀ i, i < 4 → g (4 * i + t % 4) ≤ g (t % 4) := by
      intro i hi
      induction i with
      | zero => rw [Nat.mul_zero, Nat.zero_add]; exact Nat.le_refl _
      | succ i ih =>
        have := (hg (4 * i + t % 4) (by omega)).1 (by omega)
        rw [show 4 * i + t % 4 + 4 = 4 * (i + 1) + t % 4 by omega] at this
        exact Nat.le_trans this (ih (by omega))
    have := col (t / 4) (by omega)
    rw [show 4 * (t / 4) + t % 4 = t by omega] at this
    exact Nat.le_trans this (row (t % 4) (by omega))
  have g0 : g 0 = 1 := by
    rcases Nat.eq_zero_or_pos (g 0) with q | q
    · rw [pq_sum_eq (g := fun _ => 0) fun t ht => by have := le t ht; omega, pq_sum_zero] at hs
      omega
    · have := pr_sum_le (f := g) (m := 1) (n := 16) (by omega)
      simp only [pq_sum] at this; simp only [pq_sum] at hs; omega
  have gz : ∀ t, t < 15 → g (t + 1) = 0 := by
    intro t ht
    rw [pr_sum_cons (n := 15), g0] at hs
    have h15 : pq_sum 15 (fun t => g (t + 1)) = 0 := by omega
    have := pr_sum_le (f := fun t => g (t + 1)) (m := t + 1) (n := 15) (by omega)
    rw [pq_sum] at this
    omega
  rw [pr_od, pr_sum_cons (n := 15), pq_sum_eq (g := fun _ => 0) fun t ht => by
    rw [pr_shk_0 (gz t ht)]; rfl, pq_sum_zero]
  have : pr_shk g 0 = true := by
    unfold pr_shk
    rw [if_pos (by omega), if_pos (by omega), show 0 + 4 = 3 + 1 from rfl, gz 3 (by omega), gz 0 (by omega), g0]; decide
  rw [this]; rfl
theorem pr_dec {g : Nat → Nat} {t : Nat} (ht : t < 16) (hp : 0 < g t) : lN (pq_enc g 16) - lN (16 ^ (15 - t)) = lN (pq_enc (pq_u g t (g t - 1)) 16) := by
  have enc := pq_enc_u (h := g) (v := g t - 1) (n := 16) (t := t) ht
  rw [show 16 - 1 - t = 15 - t by omega] at enc
  have e5 : 16 ^ (15 - t) * g t = 16 ^ (15 - t) * (g t - 1) + 16 ^ (15 - t) := by
    rw [← Nat.mul_succ, Nat.succ_eq_add_one, Nat.sub_add_cancel hp]
  have e6 : pq_enc g 16 = pq_enc (pq_u g t (g t - 1)) 16 + 16 ^ (15 - t) := by omega
  rw [e6, lN_sub (by omega), Nat.add_sub_cancel]
/-- ordersOf(box, cubes, volume) -/
theorem pr_ordersOf {a b c : Nat} : ∀ (d n : Nat) (g : Nat → Nat), pq_hv a b c g → pq_sum 16 g = n → n < d → fc_ordersOf d (nI a) (nI b) (nI c) (lN (pq_enc g 16)) (nI n) = some (nI (pr_od n g))
  | 0, n, g, _, _, hd => absurd hd (by omega)
  | d + 1, n, g, H, hn, hd => by
    have ha := H.1; have hb := H.2.1
    have n64 : n ≤ 64 := by
      have := pq_sum_le (n := 16) (m := 4) (f := g) (pq_hv_h H)
      omega
    show fc_ordersOf_body (nI a) (nI b) (nI c) (fc_ordersOf d (nI a) (nI b) (nI c)) (lN (pq_enc g 16)) (nI n) = _
    unfold fc_ordersOf_body
    by_cases c1 : n ≤ 1
    · rw [if_neg (show ¬ (1 : Int32) < nI n from nI_nlt (a := 1) c1 (by omega))]
      have : n = 0 ∨ n = 1 := by omega
      rcases this with rfl | rfl
      · rfl
      · rw [pr_od_1 (pr_fall_hv H) hn]; rfl
    · rw [if_pos (show (1 : Int32) < nI n from nI_lt (a := 1) (by omega) (by omega))]
      obtain ⟨m, rfl⟩ : ∃ m, n = m + 1 := ⟨n - 1, by omega⟩
      rw [pr_od_box H]
      generalize hf : (fun t => if pr_shk g t then pr_od m (pq_u g t (g t - 1)) else 0) = f
      have hf' : ∀ t, (if pr_shk g t then pr_od m (pq_u g t (g t - 1)) else 0) = f t := fun t => by rw [← hf]
      simp only [hf']
      have inner : ∀ (x i : Nat), i < a → lc_ordersOf_25 (nI a) (nI b) (nI c) (fc_ordersOf d (nI a) (nI b) (nI c)) 5000 (lN (pq_enc g 16)) (nI (m + 1)) (nI x) (nI i) 0 = some (lN (pq_enc g 16), nI (m + 1), nI (x + pq_sum b fun j => f (4 * i + j)), nI i) := by
        intro x i hi
        unfold lc_ordersOf_25
        obtain ⟨r, r1, rfl⟩ := kq_ite0 (step := fun (s : (Int64 × Int32 × Int32 × Int32 × Int32)) => fc_ordersOf_25 (nI a) (nI b) (nI c) (fc_ordersOf d (nI a) (nI b) (nI c)) (s.1) (s.2.1) (s.2.2.1) (s.2.2.2.1) (s.2.2.2.2))
          (fun j s => s = (lN (pq_enc g 16), nI (m + 1), nI (x + pq_sum j fun j => f (4 * i + j)), nI i, nI j))
          (fun r => r = (lN (pq_enc g 16), nI (m + 1), nI (x + pq_sum b fun j => f (4 * i + j)), nI i)) b (by omega) (by
            rintro j s hj rfl
            have l4 := pq_hv_h H (4 * i + j) (by omega)
            dsimp only
            unfold fc_ordersOf_25 fc_ordersOf_79
            rw [if_neg (nI_ge hj (by omega)), pq_level H (by omega) (by omega), Option.bind_some, pq_g_in hi hj]
            by_cases c2 : g (4 * i + j) = 0
            · rw [if_pos (show nI (g (4 * i + j)) ≤ 0 from nI_le (b := 0) (by omega) (by omega))]
              refine Or.inr ⟨_, rfl, ?_⟩
              rw [pq_sum_cut (n := b) (a := j) (by omega) fun k h1 h2 => ?_]
              have := pq_hv_m2 H (i := i) (j := j) (k := k) (by omega) h1 (by omega)
              rw [← hf', pr_shk_0 (show g (4 * i + k) = 0 by omega)]; rfl
            · rw [if_neg (nI_nle (by omega) (by omega)), pq_shrinks H (by omega) (by omega), Option.bind_some, pr_shr_sh H hi hj, nI_1]
              refine Or.inl ?_
              cases e : pr_shk g (4 * i + j)
              · rw [if_pos (show pq_b false = 0 from rfl)]
                refine ⟨_, rfl, ?_⟩
                rw [pq_sum, show f (4 * i + j) = 0 by rw [← hf', e]; rfl]; rfl
              · have hsr : pq_chg false a b c g i j = true := by
                  show pq_shr a b g i j = true
                  rw [pr_shr_sh H hi hj]; exact e
                obtain ⟨_, Hu⟩ := pq_hv_u (w := false) H hi hj hsr
                have eu : pq_u g (4 * i + j) (pq_cv false (g (4 * i + j))) = pq_u g (4 * i + j) (g (4 * i + j) - 1) := rfl
                rw [eu] at Hu
                have su := pr_sum_u (g := g) (t := 4 * i + j) (v := g (4 * i + j) - 1) (n := 16) (by omega)
                rw [if_neg (show ¬ pq_b true = 0 by decide), pq_cube (by omega) (by omega), Option.bind_some, pr_dec (by omega) (by omega), nI_pred, pr_ordersOf d m _ Hu (by omega) (by omega), Option.bind_some, nI_add]
                refine ⟨_, rfl, ?_⟩
                rw [pq_sum, show f (4 * i + j) = pr_od m (pq_u g (4 * i + j) (g (4 * i + j) - 1)) by rw [← hf', e]; rfl, Nat.add_assoc]) (by
            rintro s rfl
            refine ⟨_, ?_, rfl⟩
            dsimp only
            unfold fc_ordersOf_25
            rw [if_pos (nI_le (Nat.le_refl b) (by omega))])
          (s := (lN (pq_enc g 16), nI (m + 1), nI x, nI i, 0)) rfl
        exact r1
      unfold lc_ordersOf_13
      refine kq_runb (fun i => (lN (pq_enc g 16), nI (m + 1), nI (pq_sum i fun i => pq_sum b fun j => f (4 * i + j)), nI i)) a (nI (pq_sum a fun i => pq_sum b fun j => f (4 * i + j))) rfl (by omega) (fun i hi => ?_) ?_ rfl
      · dsimp only
        unfold fc_ordersOf_13 fc_ordersOf_85
        rw [if_neg (nI_ge hi (by omega)), inner _ i hi, Option.bind_some, nI_1, pq_sum]
      · dsimp only
        unfold fc_ordersOf_13
        rw [if_pos (nI_le (Nat.le_refl a) (by omega))]
/-! the reference -/
theorem nx_and (a b : Nat) : nI a &&& nI b = nI (a &&& b) := by
  apply Int32.toBitVec_inj.1
  show BitVec.ofNat 32 a &&& BitVec.ofNat 32 b = BitVec.ofNat 32 (a &&& b)
  apply BitVec.eq_of_getLsbD_eq
  intro i hi
  simp [hi]
theorem nx_xor (a b : Nat) : nI a ^^^ nI b = nI (a ^^^ b) := by
  apply Int32.toBitVec_inj.1
  show BitVec.ofNat 32 a ^^^ BitVec.ofNat 32 b = BitVec.ofNat 32 (a ^^^ b)
  apply BitVec.eq_of_getLsbD_eq
  intro i hi
  simp [hi]
theorem nx_or (a b : Nat) : nI a ||| nI b = nI (a ||| b) := by
  apply Int32.toBitVec_inj.1
  show BitVec.ofNat 32 a ||| BitVec.ofNat 32 b = BitVec.ofNat 32 (a ||| b)
  apply BitVec.eq_of_getLsbD_eq
  intro i hi
  simp [hi]
theorem pr_shl8 : ∀ k, k < 9 → (1 : Int32) <<< (nI k &&& 31) = nI (2 ^ k) := by decide +kernel
def pr_cd (h : Nat → Nat) (m : Nat) : Nat := 100 * (pr_T h m / 4) + 10 * (pr_T h m % 4) + pr_Z h m
theorem pr_cd_inj {h : Nat → Nat} (h4 : ∀ t, t < 16 → h t ≤ 4) {m k : Nat} (hm : m < pq_sum 16 h) (hk : k < pq_sum 16 h) (e : pr_cd h m = pr_cd h k) : m = k := by
  obtain ⟨m1, m2, m3⟩ := pr_TZ hm
  obtain ⟨k1, k2, k3⟩ := pr_TZ hk
  have q1 := h4 _ m1; have q2 := h4 _ k1
  unfold pr_cd at e
  have eT : pr_T h m = pr_T h k := by omega
  rw [← m3, ← k3, eT]
  unfold pr_id
  rw [eT] at e
  omega
/-- the three that can't be found -/
def pr_cknf : Bool := pq_all 4 fun p => pq_all 4 fun q => pq_all 4 fun r => pq_all 4 fun x => pq_all 4 fun y => !(decide (nI (100 * p + 10 * q + r) = (100 : Int32) * (nI 0 - 1) + (10 : Int32) * nI x + nI y)) && (!(decide (nI (100 * p + 10 * q + r) = (100 : Int32) * nI x + (10 : Int32) * (nI 0 - 1) + nI y)) && !(decide (nI (100 * p + 10 * q + r) = (100 : Int32) * nI x + (10 : Int32) * nI y + (nI 0 - 1))))
theorem pr_nf {p q r x y : Nat} (hp : p < 4) (hq : q < 4) (hr : r < 4) (hx : x < 4) (hy : y < 4) : nI (100 * p + 10 * q + r) ≠ (100 : Int32) * (nI 0 - 1) + (10 : Int32) * nI x + nI y ∧ nI (100 * p + 10 * q + r) ≠ (100 : Int32) * nI x + (10 : Int32) * (nI 0 - 1) + nI y ∧ nI (100 * p + 10 * q + r) ≠ (100 : Int32) * nI x + (10 : Int32) * nI y + (nI 0 - 1) := by
  have K : pr_cknf = true := by decide +kernel
  unfold pr_cknf at K
  rw [pq_all_iff] at K
  have K1 := K p hp
  rw [pq_all_iff] at K1
  have K2 := K1 q hq
  rw [pq_all_iff] at K2
  have K3 := K2 r hr
  rw [pq_all_iff] at K3
  have K4 := K3 x hx
  rw [pq_all_iff] at K4
  have K5 := K4 y hy
  simp only [Bool.and_eq_true, Bool.not_eq_true', decide_eq_false_iff_not] at K5
  exact K5
theorem pm_cubeAt {z : km_S} {n : Nat} {X Y W : Int32} (hn : n ≤ 8) : (∀ k, k < n → z.2.1 10 k = 100 * X + 10 * Y + W → (∀ m, m < k → z.2.1 10 m ≠ 100 * X + 10 * Y + W) → fm_cubeAt (nI n) X Y W z = some (nI (2 ^ k), z)) ∧ ((∀ m, m < n → z.2.1 10 m ≠ 100 * X + 10 * Y + W) → fm_cubeAt (nI n) X Y W z = some (nI 0, z)) := by
  have stp : ∀ t, t < n → fm_cubeAt_3 (nI n) X Y W (nI t) z = if z.2.1 10 t = 100 * X + 10 * Y + W then some (.inr (.inl (nI t, z))) else some (.inl (nI n, X, Y, W, nI (t + 1), z)) := by
    intro t ht
    unfold fm_cubeAt_3
    rw [if_neg (nI_ge ht (by omega)), kq_rd (show t < 8 by omega) kq_km, Option.bind_some, nI_1]
  unfold fm_cubeAt lm_cubeAt_3
  refine ⟨fun k hk e ne => ?_, fun ne => ?_⟩
  · rw [kq_run0 (s0 := (nI n, X, Y, W, 0, z)) (fun t => (nI n, X, Y, W, nI t, z)) k (r := .inl (nI k, z)) rfl (by omega) (fun t ht => by dsimp only; rw [stp t (by omega), if_neg (ne t ht)]) (by dsimp only; rw [stp k hk, if_pos e]), Option.bind_some]
    dsimp only [kj_se]
    rw [pr_shl8 k (by omega)]
  · rw [kq_run0 (s0 := (nI n, X, Y, W, 0, z)) (fun t => (nI n, X, Y, W, nI t, z)) n (r := .inr z) rfl (by omega) (fun t ht => by dsimp only; rw [stp t ht, if_neg (ne t ht)]) (by
      dsimp only
      unfold fm_cubeAt_3
      rw [if_pos (nI_le (Nat.le_refl n) (by omega))]), Option.bind_some]
    rfl
def pr_mc (z : km_S) (h : Nat → Nat) (n : Nat) : Prop := ∀ m, m < n → z.2.1 10 m = nI (pr_cd h m) ∧ z.2.1 11 m = nI (pr_nd h m)
theorem pm_laysCubes {z : km_S} {q a b c : Nat} {h : Nat → Nat} (H : pq_hv a b c h) (hb : pq_mb (z.2.1 0) q a b c h) (hl : q + 20 ≤ 80) (hV : pq_sum 16 h ≤ 8) : ∃ z', fm_laysCubes (nI q) z = some (nI (pq_sum 16 h), z') ∧ pr_mc z' h (pq_sum 16 h) ∧ pr_fq [] [10, 11] z z' := by
  have ha := H.1; have hb4 := H.2.1; have hc4 := H.2.2.1
  have h4 := pq_hv_h H
  have fal := pr_fall_hv H
  have hl' : q + 20 ≤ km_len 0 := hl
  have hbz : ∀ {z' : km_S}, pr_fq [] [10, 11] z z' → pq_mb (z'.2.1 0) q a b c h := fun f => by rw [f.2 0 (by decide)]; exact hb
  -- one cube
  have cube : ∀ (z1 : km_S) (i j w : Nat), i < a → j < b → w < h (4 * i + j) → pr_fq [] [10, 11] z z1 → pr_mc z1 h (pr_id h (4 * i + j) w) → ∃ z2, fm_laysCubes_35 (nI q) (nI (pr_id h (4 * i + j) w)) (nI i) (nI j) (nI w) z1 = some (.inl (nI q, nI (pr_id h (4 * i + j) w + 1), nI i, nI j, nI (w + 1), z2)) ∧ pr_fq [] [10, 11] z z2 ∧ pr_mc z2 h (pr_id h (4 * i + j) w + 1) := by
    intro z1 i j w hi hj hw f1 mc
    have t16 : 4 * i + j < 16 := by omega
    have w4 := h4 _ t16
    obtain ⟨eT, eZ⟩ := pr_id_TZ t16 hw
    have nlt := pr_id_lt t16 hw
    generalize hn : pr_id h (4 * i + j) w = n at *
    have fal1 := fal (4 * i + j) t16
    have ecd : pr_cd h n = 100 * i + 10 * j + w := by unfold pr_cd; rw [eT, eZ]; omega
    have val : (100 : Int32) * nI i + (10 : Int32) * nI j + nI w = nI (100 * i + 10 * j + w) := by
      rw [show (100 : Int32) * nI i = nI (100 * i) from pk_mul 100 i, show (10 : Int32) * nI j = nI (10 * j) from pk_mul 10 j, nI_add, nI_add]
    -- after the first write
    have old : ∀ m, m < n → (upd (z1.2.1 10) n (nI (100 * i + 10 * j + w))) m = nI (pr_cd h m) := fun m hm => by
      rw [pk_un (by omega)]; exact (mc m hm).1
    have mlt : ∀ m, m < n → m < pq_sum 16 h := fun m hm => by omega
    have cdr : ∀ m, m < n → ∃ p u r, p < 4 ∧ u < 4 ∧ r < 4 ∧ pr_cd h m = 100 * p + 10 * u + r := fun m hm => by
      obtain ⟨m1, m2, _⟩ := pr_TZ (mlt m hm)
      have := h4 _ m1
      exact ⟨pr_T h m / 4, pr_T h m % 4, pr_Z h m, by omega, by omega, by omega, rfl⟩
    -- a cube that is there
    have found : ∀ (X Y W : Int32) (t' w' : Nat), t' < 16 → w' < h t' → pr_id h t' w' < n → (100 : Int32) * X + (10 : Int32) * Y + W = nI (100 * (t' / 4) + 10 * (t' % 4) + w') → fm_cubeAt (nI n) X Y W (z1.1, va_up z1.2.1 10 (upd (z1.2.1 10) n (nI (100 * i + 10 * j + w))), z1.2.2) = some (nI (2 ^ pr_id h t' w'), (z1.1, va_up z1.2.1 10 (upd (z1.2.1 10) n (nI (100 * i + 10 * j + w))), z1.2.2)) := by
      intro X Y W t' w' ht' hw' hlt e
      obtain ⟨eT', eZ'⟩ := pr_id_TZ ht' hw'
      have ecd' : pr_cd h (pr_id h t' w') = 100 * (t' / 4) + 10 * (t' % 4) + w' := by unfold pr_cd; rw [eT', eZ']
      refine (pm_cubeAt (by omega)).1 _ hlt ?_ fun m hm => ?_
      · dsimp only
        rw [va_up_self, old _ hlt, e, ecd']
      · dsimp only
        rw [va_up_self, old m (by omega), e, ← ecd']
        intro q
        have l1 : pr_cd h m < 1000 := by
          obtain ⟨p, u, r, h1, h2, h3, h5⟩ := cdr m (by omega); omega
        have l2 : pr_cd h (pr_id h t' w') < 1000 := by
          obtain ⟨p, u, r, h1, h2, h3, h5⟩ := cdr _ hlt; omega
        have := pr_cd_inj h4 (mlt m (by omega)) (mlt _ hlt) ((nI_eq (by omega) (by omega)).mp q)
        omega
    have lost : ∀ (X Y W : Int32), (∀ p u r, p < 4 → u < 4 → r < 4 → nI (100 * p + 10 * u + r) ≠ (100 : Int32) * X + (10 : Int32) * Y + W) → fm_cubeAt (nI n) X Y W (z1.1, va_up z1.2.1 10 (upd (z1.2.1 10) n (nI (100 * i + 10 * j + w))), z1.2.2) = some (nI 0, (z1.1, va_up z1.2.1 10 (upd (z1.2.1 10) n (nI (100 * i + 10 * j + w))), z1.2.2)) := by
      intro X Y W ne
      refine (pm_cubeAt (by omega)).2 fun m hm => ?_
      obtain ⟨p, u, r, h1, h2, h3, h5⟩ := cdr m hm
      dsimp only
      rw [va_up_self, old m hm, h5]
      exact ne p u r h1 h2 h3
    have id_lt : ∀ t' w', t' < 4 * i + j → w' < h t' → pr_id h t' w' < n := fun t' w' h1 h2 => by
      rw [← hn]
      have := pr_sum_le (f := h) (m := t' + 1) (n := 4 * i + j) (by omega)
      rw [pq_sum] at this
      unfold pr_id; omega
    have A : fm_cubeAt (nI n) (nI i - 1) (nI j) (nI w) (z1.1, va_up z1.2.1 10 (upd (z1.2.1 10) n (nI (100 * i + 10 * j + w))), z1.2.2) = some (nI (if 4 ≤ 4 * i + j then 2 ^ pr_id h (4 * i + j - 4) w else 0), (z1.1, va_up z1.2.1 10 (upd (z1.2.1 10) n (nI (100 * i + 10 * j + w))), z1.2.2)) := by
      by_cases c : i = 0
      · subst c
        rw [if_neg (by omega)]
        exact lost _ _ _ fun p u r h1 h2 h3 => (pr_nf h1 h2 h3 (by omega) (by omega)).1
      · obtain ⟨i, rfl⟩ : ∃ k, i = k + 1 := ⟨i - 1, by omega⟩
        have q := (fal (4 * i + j) (by omega)).1 (by omega)
        rw [show 4 * i + j + 4 = 4 * (i + 1) + j by omega] at q
        rw [if_pos (by omega), nI_pred, show 4 * (i + 1) + j - 4 = 4 * i + j by omega]
        refine found _ _ _ (4 * i + j) w (by omega) (by omega) (id_lt _ _ (by omega) (by omega)) ?_
        rw [show (100 : Int32) * nI i = nI (100 * i) from pk_mul 100 i, show (10 : Int32) * nI j = nI (10 * j) from pk_mul 10 j, nI_add, nI_add]
        congr 1; omega
    have B : fm_cubeAt (nI n) (nI i) (nI j - 1) (nI w) (z1.1, va_up z1.2.1 10 (upd (z1.2.1 10) n (nI (100 * i + 10 * j + w))), z1.2.2) = some (nI (if (4 * i + j) % 4 ≠ 0 then 2 ^ pr_id h (4 * i + j - 1) w else 0), (z1.1, va_up z1.2.1 10 (upd (z1.2.1 10) n (nI (100 * i + 10 * j + w))), z1.2.2)) := by
      by_cases c : j = 0
      · subst c
        rw [if_neg (by omega)]
        exact lost _ _ _ fun p u r h1 h2 h3 => (pr_nf h1 h2 h3 (by omega) (by omega)).2.1
      · obtain ⟨j, rfl⟩ : ∃ k, j = k + 1 := ⟨j - 1, by omega⟩
        have q := (fal (4 * i + j) (by omega)).2 (by omega)
        rw [show 4 * i + j + 1 = 4 * i + (j + 1) by omega] at q
        rw [if_pos (by omega), nI_pred, show 4 * i + (j + 1) - 1 = 4 * i + j by omega]
        refine found _ _ _ (4 * i + j) w (by omega) (by omega) (id_lt _ _ (by omega) (by omega)) ?_
        rw [show (100 : Int32) * nI i = nI (100 * i) from pk_mul 100 i, show (10 : Int32) * nI j = nI (10 * j) from pk_mul 10 j, nI_add, nI_add]
        congr 1; omega
    have C : fm_cubeAt (nI n) (nI i) (nI j) (nI w - 1) (z1.1, va_up z1.2.1 10 (upd (z1.2.1 10) n (nI (100 * i + 10 * j + w))), z1.2.2) = some (nI (if w ≠ 0 then 2 ^ pr_id h (4 * i + j) (w - 1) else 0), (z1.1, va_up z1.2.1 10 (upd (z1.2.1 10) n (nI (100 * i + 10 * j + w))), z1.2.2)) := by
      by_cases c : w = 0
      · subst c
        rw [if_neg (by omega)]
        exact lost _ _ _ fun p u r h1 h2 h3 => (pr_nf h1 h2 h3 (by omega) (by omega)).2.2
      · obtain ⟨w, rfl⟩ : ∃ k, w = k + 1 := ⟨w - 1, by omega⟩
        rw [if_pos (by omega), nI_pred, Nat.add_sub_cancel]
        refine found _ _ _ (4 * i + j) w t16 (by omega) (by rw [← hn]; unfold pr_id; omega) ?_
        rw [show (100 : Int32) * nI i = nI (100 * i) from pk_mul 100 i, show (10 : Int32) * nI j = nI (10 * j) from pk_mul 10 j, nI_add, nI_add]
        congr 1; omega
    unfold fm_laysCubes_35
    rw [pq_at, Option.bind_some, nI_add, pq_rdh (hbz f1) hl' (4 * i + j) t16 (by omega), Option.bind_some, if_neg (nI_ge hw (by omega)), val, kq_wr (show n < 8 by omega) kq_km, Option.bind_some, A, Option.bind_some]
    dsimp only
    rw [B, Option.bind_some]
    dsimp only
    rw [C, Option.bind_some]
    dsimp only
    rw [nx_or, nx_or, kq_wr (show n < km_len 11 from (by show n < 8; omega)) kq_km, Option.bind_some, nI_1, nI_1]
    refine ⟨_, rfl, ⟨fun k hk => f1.1 k hk, fun k hk => ?_⟩, fun m hm => ?_⟩
    · dsimp only
      rw [va_up_ne _ _ (by intro e; exact hk (by simp [e])), va_up_ne _ _ (by intro e; exact hk (by simp [e]))]
      exact f1.2 k hk
    · dsimp only
      rw [va_up_self, va_up_ne _ _ (by decide), va_up_self, va_up_ne _ _ (show (11 : Nat) ≠ 10 by decide)]
      by_cases e : m = n
      · subst e
        rw [pk_us, pk_us, ecd]
        refine ⟨rfl, ?_⟩
        unfold pr_nd
        rw [eT, eZ]
      · rw [pk_un e, pk_un e]; exact mc m (by omega)
  -- one cell
  have cell : ∀ (z1 : km_S) (i j : Nat), i < a → j < b → pr_fq [] [10, 11] z z1 → pr_mc z1 h (pq_sum (4 * i + j) h) → ∃ z2, lm_laysCubes_35 5000 (nI q) (nI (pq_sum (4 * i + j) h)) (nI i) (nI j) 0 z1 = some (nI q, nI (pq_sum (4 * i + j + 1) h), nI i, nI j, z2) ∧ pr_fq [] [10, 11] z z2 ∧ pr_mc z2 h (pq_sum (4 * i + j + 1) h) := by
    intro z1 i j hi hj f1 mc
    have t16 : 4 * i + j < 16 := by omega
    unfold lm_laysCubes_35
    obtain ⟨x, x1, z2, rfl, x2, x3⟩ := kq_it0 (step := fun (s : (Int32 × Int32 × Int32 × Int32 × Int32 × km_S)) => fm_laysCubes_35 (s.1) (s.2.1) (s.2.2.1) (s.2.2.2.1) (s.2.2.2.2.1) (s.2.2.2.2.2))
      (fun w x => ∃ z2, x = (nI q, nI (pr_id h (4 * i + j) w), nI i, nI j, nI w, z2) ∧ pr_fq [] [10, 11] z z2 ∧ pr_mc z2 h (pr_id h (4 * i + j) w))
      (fun x => ∃ z2, x = (nI q, nI (pq_sum (4 * i + j + 1) h), nI i, nI j, z2) ∧ pr_fq [] [10, 11] z z2 ∧ pr_mc z2 h (pq_sum (4 * i + j + 1) h)) (h (4 * i + j)) (by have := h4 _ t16; omega) (by
        rintro w x hw ⟨z2, rfl, g1, g2⟩
        obtain ⟨z3, c1, c2, c3⟩ := cube z2 i j w hi hj hw g1 g2
        exact ⟨_, c1, z3, rfl, c2, c3⟩) (by
        rintro x ⟨z2, rfl, g1, g2⟩
        refine ⟨_, ?_, z2, rfl, g1, g2⟩
        dsimp only
        unfold fm_laysCubes_35
        have := h4 _ t16
        rw [pq_at, Option.bind_some, nI_add, pq_rdh (hbz g1) hl' (4 * i + j) t16 (by omega), Option.bind_some, if_pos (nI_le (Nat.le_refl _) (by omega))]; rfl)
      (s := (nI q, nI (pq_sum (4 * i + j) h), nI i, nI j, 0, z1)) ⟨z1, rfl, f1, mc⟩
    exact ⟨z2, x1, x2, x3⟩
  -- beyond the columns there is nothing
  have skip : ∀ i, i < 4 → pq_sum (4 * i + b) h = pq_sum (4 * (i + 1)) h := by
    intro i hi
    have : ∀ d, b + d ≤ 4 → pq_sum (4 * i + (b + d)) h = pq_sum (4 * i + b) h := by
      intro d
      induction d with
      | zero => intro _; rfl
      | succ d ih =>
        intro hd
        rw [← Nat.add_assoc, ← Nat.add_assoc, pq_sum, Nat.add_assoc (4 * i), ih (by omega), (H.2.2.2.2 i (b + d) hi (by omega)).2.1 (by omega), Nat.add_zero]
    have := this (4 - b) (by omega)
    rw [show 4 * i + (b + (4 - b)) = 4 * (i + 1) by omega] at this
    exact this.symm
  have row : ∀ (z1 : km_S) (i : Nat), i < a → pr_fq [] [10, 11] z z1 → pr_mc z1 h (pq_sum (4 * i) h) → ∃ z2, lm_laysCubes_19 5000 (nI q) (nI (pq_sum (4 * i) h)) (nI i) 0 z1 = some (nI q, nI (pq_sum (4 * (i + 1)) h), nI i, z2) ∧ pr_fq [] [10, 11] z z2 ∧ pr_mc z2 h (pq_sum (4 * (i + 1)) h) := by
    intro z1 i hi f1 mc
    unfold lm_laysCubes_19
    obtain ⟨x, x1, z2, rfl, x2, x3⟩ := kq_it0 (step := fun (s : (Int32 × Int32 × Int32 × Int32 × km_S)) => fm_laysCubes_19 (s.1) (s.2.1) (s.2.2.1) (s.2.2.2.1) (s.2.2.2.2))
      (fun j x => ∃ z2, x = (nI q, nI (pq_sum (4 * i + j) h), nI i, nI j, z2) ∧ pr_fq [] [10, 11] z z2 ∧ pr_mc z2 h (pq_sum (4 * i + j) h))
      (fun x => ∃ z2, x = (nI q, nI (pq_sum (4 * (i + 1)) h), nI i, z2) ∧ pr_fq [] [10, 11] z z2 ∧ pr_mc z2 h (pq_sum (4 * (i + 1)) h)) b (by omega) (by
        rintro j x hj ⟨z2, rfl, g1, g2⟩
        obtain ⟨z3, c1, c2, c3⟩ := cell z2 i j hi hj g1 g2
        dsimp only
        unfold fm_laysCubes_19
        rw [show nI q + 2 = nI (q + 2) from nI_add q 2, pq_rdb (hbz g1) hl', Option.bind_some, if_neg (nI_ge hj (by omega)), c1, Option.bind_some, nI_1]
        exact ⟨_, rfl, z3, rfl, c2, c3⟩) (by
        rintro x ⟨z2, rfl, g1, g2⟩
        rw [skip i (by omega)] at g2 ⊢
        refine ⟨_, ?_, z2, rfl, g1, g2⟩
        dsimp only
        unfold fm_laysCubes_19
        rw [show nI q + 2 = nI (q + 2) from nI_add q 2, pq_rdb (hbz g1) hl', Option.bind_some, if_pos (nI_le (Nat.le_refl b) (by omega))])
      (s := (nI q, nI (pq_sum (4 * i) h), nI i, 0, z1)) ⟨z1, rfl, f1, mc⟩
    exact ⟨z2, x1, x2, x3⟩
  have fin : pq_sum (4 * a) h = pq_sum 16 h := (pq_sum_cut (n := 16) (a := 4 * a) (by omega) fun k h1 h2 => by
    have := (H.2.2.2.2 (k / 4) (k % 4) (by omega) (by omega)).2.1 (by omega)
    rwa [show 4 * (k / 4) + k % 4 = k by omega] at this).symm
  refine kq_pair ?_
  unfold fm_laysCubes lm_laysCubes_4
  refine kq_itb (fun i x => ∃ z2, x = (nI q, nI (pq_sum (4 * i) h), nI i, z2) ∧ pr_fq [] [10, 11] z z2 ∧ pr_mc z2 h (pq_sum (4 * i) h)) (fun x => ∃ z2, x = (nI (pq_sum 16 h), z2) ∧ pr_fq [] [10, 11] z z2 ∧ pr_mc z2 h (pq_sum 16 h)) a (by omega) ⟨z, rfl, pr_fq_r, fun m hm => absurd hm (by simp [pq_sum])⟩ ?_ ?_ ?_
  · rintro i x hi ⟨z2, rfl, g1, g2⟩
    obtain ⟨z3, c1, c2, c3⟩ := row z2 i hi g1 g2
    dsimp only
    unfold fm_laysCubes_4
    rw [show nI q + 1 = nI (q + 1) from nI_add q 1, pq_rda (hbz g1) hl', Option.bind_some, if_neg (nI_ge hi (by omega)), c1, Option.bind_some, nI_1]
    exact ⟨_, rfl, z3, rfl, c2, c3⟩
  · rintro x ⟨z2, rfl, g1, g2⟩
    rw [fin] at g2 ⊢
    refine ⟨_, ?_, z2, rfl, g1, g2⟩
    dsimp only
    unfold fm_laysCubes_4
    rw [show nI q + 1 = nI (q + 1) from nI_add q 1, pq_rda (hbz g1) hl', Option.bind_some, if_pos (nI_le (Nat.le_refl a) (by omega))]
  · rintro x ⟨z2, rfl, g1, g2⟩
    exact ⟨_, rfl, rfl, g2, g1⟩
/-! the table of sets -/
theorem pr_bit8 : ∀ w, w < 256 → ∀ k, k < 8 → ((nI w >>> (nI k &&& 31)) &&& (1 : Int32) = 1 ↔ w.testBit k = true) := by decide +kernel
theorem pr_clr8 : ∀ w, w < 256 → ∀ k, k < 8 → nI w &&& ((1 : Int32) <<< (nI k &&& 31) ^^^ (-1 : Int32)) = nI (pr_clr w k) := by decide +kernel
theorem pr_sub8 {x w : Nat} (hx : x < 256) (hw : w < 256) : nI x &&& (nI w ^^^ (-1 : Int32)) = 0 ↔ pr_sub x w = true := by
  have m1 : (-1 : Int32) = nI 4294967295 := by decide
  rw [m1, nx_xor, nx_and, show (0 : Int32) = nI 0 from rfl]
  have lt : x &&& (w ^^^ 4294967295) < 256 := Nat.lt_of_le_of_lt Nat.and_le_left hx
  rw [nI_eq (by omega) (by omega), pr_sub_iff]
  have f : ∀ i, (4294967295 : Nat).testBit i = decide (i < 32) := fun i => Nat.testBit_two_pow_sub_one 32 i
  have big : ∀ i, 8 ≤ i → x.testBit i = false := fun i hi => Nat.testBit_lt_two_pow (Nat.lt_of_lt_of_le hx (Nat.pow_le_pow_right (show 0 < 2 by decide) hi))
  constructor
  · intro e i hi
    have : (x &&& (w ^^^ 4294967295)).testBit i = false := by rw [e]; simp
    rw [Nat.testBit_and, Nat.testBit_xor, f, hi, Bool.true_and] at this
    by_cases c : i < 32
    · rw [decide_eq_true c] at this
      cases q : w.testBit i
      · rw [q] at this; exact absurd this (by decide)
      · rfl
    · rw [big i (by omega)] at hi; cases hi
  · intro h
    refine pr_bits fun i => ?_
    rw [Nat.testBit_and, Nat.testBit_xor, f, Nat.zero_testBit]
    cases q : x.testBit i
    · rfl
    · rw [h i q]
      by_cases c : i < 32
      · rw [decide_eq_true c]; rfl
      · rw [big i (by omega)] at q; cases q
theorem pm_ways {z : km_S} {h : Nat → Nat} (hV : pq_sum 16 h ≤ 8) (mc : pr_mc z h (pq_sum 16 h)) : ∃ z', lm_orders_41 5000 (nI (pq_sum 16 h)) 0 z = some (nI (pq_sum 16 h), z') ∧ (∀ w, w < 2 ^ pq_sum 16 h → z'.2.1 12 w = nI (pr_ways (pq_sum 16 h) (pr_nd h) w)) ∧ pr_fq [] [12] z z' := by
  have p256 : 2 ^ pq_sum 16 h ≤ 256 := Nat.pow_le_pow_right (show 0 < 2 by decide) hV
  have nd256 : ∀ k, k < pq_sum 16 h → pr_nd h k < 256 := by
    intro k hk
    have : ∀ i, 8 ≤ i → (pr_nd h k).testBit i = false := by
      intro i hi
      cases c : (pr_nd h k).testBit i
      · rfl
      · obtain ⟨k1, k2, k3⟩ := pr_TZ hk
        have idk : pr_id h (pr_T h k) (pr_Z h k) = k := k3
        have m := fun (t : Nat) (ht : t ≤ pr_T h k) => pr_sum_le (f := h) (m := t) (n := pr_T h k) ht
        rcases pr_nd_bit.mp c with ⟨c1, e⟩ | ⟨c1, e⟩ | ⟨c1, e⟩
        · have := m (pr_T h k - 4) (by omega)
          unfold pr_id at e idk; omega
        · have := m (pr_T h k - 1) (by omega)
          unfold pr_id at e idk; omega
        · unfold pr_id at e idk; omega
    exact Nat.lt_pow_two_of_testBit (n := 8) _ this
  have rf : ∀ f : Nat → Int32, pr_mc (z.1, va_up z.2.1 12 f, z.2.2) h (pq_sum 16 h) := fun f m hm => by
    dsimp only
    rw [va_up_ne _ _ (by decide), va_up_ne _ _ (by decide)]; exact mc m hm
  have inner : ∀ (f : Nat → Int32) (w : Nat), w < 2 ^ pq_sum 16 h → (∀ u, u < w → f u = nI (pr_ways (pq_sum 16 h) (pr_nd h) u)) → f w = nI (if w = 0 then 1 else 0) → ∃ f', lm_orders_66 5000 (nI (pq_sum 16 h)) (nI w) 0 (z.1, va_up z.2.1 12 f, z.2.2) = some (nI (pq_sum 16 h), nI w, (z.1, va_up z.2.1 12 f', z.2.2)) ∧ ∀ u, u < w + 1 → f' u = nI (pr_ways (pq_sum 16 h) (pr_nd h) u) := by
    intro f w hw hu hfw
    unfold lm_orders_66
    obtain ⟨x, x1, f', rfl, x2, x3⟩ := kq_it0 (step := fun (s : (Int32 × Int32 × Int32 × km_S)) => fm_orders_66 (s.1) (s.2.1) (s.2.2.1) (s.2.2.2))
      (fun k x => ∃ f', x = (nI (pq_sum 16 h), nI w, nI k, (z.1, va_up z.2.1 12 f', z.2.2)) ∧ (∀ u, u < w → f' u = nI (pr_ways (pq_sum 16 h) (pr_nd h) u)) ∧ f' w = nI ((if w = 0 then 1 else 0) + pq_sum k (fun k => if pr_ok1 (pr_nd h) w k then pr_ways (pq_sum 16 h) (pr_nd h) (pr_clr w k) else 0)))
      (fun x => ∃ f', x = (nI (pq_sum 16 h), nI w, ((z.1, va_up z.2.1 12 f', z.2.2) : km_S)) ∧ (∀ u, u < w → f' u = nI (pr_ways (pq_sum 16 h) (pr_nd h) u)) ∧ f' w = nI (pr_ways (pq_sum 16 h) (pr_nd h) w)) (pq_sum 16 h) (by omega) (by
        rintro k x hk ⟨f', rfl, g1, g2⟩
        have fin : ∀ v : Nat, v = (if pr_ok1 (pr_nd h) w k then pr_ways (pq_sum 16 h) (pr_nd h) (pr_clr w k) else 0) → ∃ s', fm_orders_132 (nI (pq_sum 16 h)) (nI w) (nI k) (nI v) (f' w) (nI w) (z.1, va_up z.2.1 12 f', z.2.2) = some (.inl s') ∧ ∃ f', s' = (nI (pq_sum 16 h), nI w, nI (k + 1), (z.1, va_up z.2.1 12 f', z.2.2)) ∧ (∀ u, u < w → f' u = nI (pr_ways (pq_sum 16 h) (pr_nd h) u)) ∧ f' w = nI ((if w = 0 then 1 else 0) + pq_sum (k + 1) (fun k => if pr_ok1 (pr_nd h) w k then pr_ways (pq_sum 16 h) (pr_nd h) (pr_clr w k) else 0)) := by
          intro v hv
          unfold fm_orders_132
          rw [pq_wrg (show w < 256 by omega), Option.bind_some, nI_1]
          refine ⟨_, rfl, _, rfl, fun u hu' => by rw [pk_un (by omega)]; exact g1 u hu', ?_⟩
          rw [pk_us, g2, nI_add, hv, Nat.add_assoc]; rfl
        have rd12 : km_rd (z.1, va_up z.2.1 12 f', z.2.2) 12 (nI w) = some (f' w) := by
          rw [kq_rd (show w < 256 by omega) kq_km]; dsimp only; rw [va_up_self]
        dsimp only
        unfold fm_orders_66 fm_orders_100 fm_orders_101
        rw [if_neg (nI_ge hk (by omega)), rd12, pq_rdn (k := 11) (rf f' k hk).2 (show k < 8 by omega), pr_clr8 w (by omega) k (by omega)]
        simp only [Option.bind_some, eq_self, if_true, if_neg kq_10]
        by_cases c1 : w.testBit k = true
        · rw [if_pos ((pr_bit8 w (by omega) k (by omega)).mpr c1)]
          by_cases c2 : pr_sub (pr_nd h k) w = true
          · have lt := pr_clr_lt (show k < 8 by omega) c1 (show w < 256 by omega)
            have ok : pr_ok1 (pr_nd h) w k = true := by unfold pr_ok1; rw [c1, c2]; rfl
            rw [if_pos ((pr_sub8 (nd256 k hk) (by omega)).mpr c2), pq_rdn (k := 12) (v := nI (pr_ways (pq_sum 16 h) (pr_nd h) (pr_clr w k))) (by dsimp only; rw [va_up_self]; exact g1 _ lt) (show pr_clr w k < 256 by omega), Option.bind_some]
            exact fin _ (by rw [ok]; rfl)
          · have ok : pr_ok1 (pr_nd h) w k = false := by unfold pr_ok1; rw [c1, Bool.eq_false_iff.mpr c2]; rfl
            rw [if_neg (mt (pr_sub8 (nd256 k hk) (by omega)).mp c2)]
            exact fin 0 (by rw [ok]; rfl)
        · have ok : pr_ok1 (pr_nd h) w k = false := by unfold pr_ok1; rw [Bool.eq_false_iff.mpr c1]; rfl
          rw [if_neg (mt (pr_bit8 w (by omega) k (by omega)).mp c1)]
          exact fin 0 (by rw [ok]; rfl)) (by
        rintro x ⟨f', rfl, g1, g2⟩
        refine ⟨_, ?_, f', rfl, g1, by rw [g2, ← pr_ways_rec hV (by omega)]⟩
        dsimp only
        unfold fm_orders_66
        rw [if_pos (nI_le (Nat.le_refl _) (by omega))])
      (s := (nI (pq_sum 16 h), nI w, 0, (z.1, va_up z.2.1 12 f, z.2.2))) ⟨f, rfl, hu, by rw [hfw]; rfl⟩
    refine ⟨f', x1, fun u hu' => ?_⟩
    by_cases e : u = w
    · subst e; exact x3
    · exact x2 u (by omega)
  unfold lm_orders_41
  obtain ⟨x, x1, f, rfl, x2⟩ := kq_it0 (step := fun (s : (Int32 × Int32 × km_S)) => fm_orders_41 (s.1) (s.2.1) (s.2.2))
    (fun w x => ∃ f, x = (nI (pq_sum 16 h), nI w, (z.1, va_up z.2.1 12 f, z.2.2)) ∧ ∀ u, u < w → f u = nI (pr_ways (pq_sum 16 h) (pr_nd h) u))
    (fun x => ∃ f, x = (nI (pq_sum 16 h), ((z.1, va_up z.2.1 12 f, z.2.2) : km_S)) ∧ ∀ u, u < 2 ^ pq_sum 16 h → f u = nI (pr_ways (pq_sum 16 h) (pr_nd h) u)) (2 ^ pq_sum 16 h) (by omega) (by
      rintro w x hw ⟨f, rfl, g1⟩
      have go : ∀ v : Nat, v = (if w = 0 then 1 else 0) → ∃ s', fm_orders_62 (nI (pq_sum 16 h)) (nI w) (nI v) (nI w) (z.1, va_up z.2.1 12 f, z.2.2) = some (.inl s') ∧ ∃ f, s' = (nI (pq_sum 16 h), nI (w + 1), (z.1, va_up z.2.1 12 f, z.2.2)) ∧ ∀ u, u < w + 1 → f u = nI (pr_ways (pq_sum 16 h) (pr_nd h) u) := by
        intro v hv
        obtain ⟨f', i1, i2⟩ := inner (upd f w (nI v)) w hw (fun u hu => by rw [pk_un (by omega)]; exact g1 u hu) (by rw [pk_us, hv])
        unfold fm_orders_62
        rw [pq_wrg (show w < 256 by omega), Option.bind_some, i1, Option.bind_some, nI_1]
        exact ⟨_, rfl, f', rfl, i2⟩
      dsimp only
      unfold fm_orders_41
      rw [pr_shl8 _ (by omega), if_neg (nI_ge hw (by omega))]
      by_cases c : w = 0
      · rw [if_pos (show nI w = 0 by rw [c]; rfl)]
        exact go 1 (by rw [if_pos c])
      · rw [if_neg (nI_ne0 (by omega) (by omega))]
        exact go 0 (by rw [if_neg c])) (by
      rintro x ⟨f, rfl, g1⟩
      refine ⟨_, ?_, f, rfl, g1⟩
      dsimp only
      unfold fm_orders_41
      rw [pr_shl8 _ (by omega), if_pos (nI_le (Nat.le_refl _) (by omega))])
    (s := (nI (pq_sum 16 h), 0, z)) ⟨z.2.1 12, by rw [kj_upf]; rfl, fun u hu => absurd hu (by omega)⟩
  exact ⟨_, x1, fun w hw => by dsimp only; rw [va_up_self]; exact x2 w hw, pr_fq_u (by decide)⟩
/-- orders(heap) -/
theorem pq_s17 (cA : Nat → ClassId) : kl_s17 cA (pq_Inv cA) := by
  intro zx P zm hI a1
  have hp := hI.2.2.2.1
  unfold vc_orders fm_orders
  rcases pq_place hp a1 with ⟨q1, q2⟩ | ⟨p, ad, a, b, c, h, bx, hp4, rfl, q1, q2, q3, H, e1, e2, hb⟩
  · rw [q2]
    exact ⟨_, q1, fun _ => ⟨_, rfl, rfl, hI⟩, fun a3 e => by cases e⟩
  refine ⟨_, q1, fun e => (by cases e), fun a3 e => ?_⟩
  cases e
  have hl : 20 * p + 20 ≤ km_len 0 := by show 20 * p + 20 ≤ 80; omega
  have v64 : pq_sum 16 h ≤ 64 := pq_sum_le (n := 16) (m := 4) (pq_hv_h H)
  rw [q2, Option.bind_some, if_neg kq_10, show (20 : Int32) * nI p = nI (20 * p) from pk_mul 20 p]
  dsimp only
  rw [pm_volume hb.2.2.2.2 hl, Option.bind_some]
  dsimp only
  refine ⟨_, e1, nI (pq_sum 16 h), by unfold fh_volume; rw [pq_volume (pq_hv_h H)]; rfl, fun c1 => ?_, fun c1 => ?_⟩
  · have hV : pq_sum 16 h ≤ 8 := (nI_leI (b := 8) (by omega) (by omega)).mp c1
    refine ⟨_, e1, _, e1, _, e2, _, pr_ordersOf 9 _ h H rfl (by omega), ?_⟩
    obtain ⟨z1, l1, l2, l3⟩ := pm_laysCubes H hb (show 20 * p + 20 ≤ 80 by omega) hV
    obtain ⟨z2, w1, w2, w3⟩ := pm_ways hV l2
    have p256 : 2 ^ pq_sum 16 h ≤ 256 := Nat.pow_le_pow_right (show 0 < 2 by decide) hV
    have p0 := Nat.two_pow_pos (pq_sum 16 h)
    rw [if_pos c1, l1, Option.bind_some]
    dsimp only
    rw [w1, Option.bind_some]
    dsimp only
    rw [pr_shl8 _ (by omega), show nI (2 ^ pq_sum 16 h) - 1 = nI (2 ^ pq_sum 16 h - 1) from pk_sub (b := 1) p0, pq_rdn (w2 _ (by omega)) (show 2 ^ pq_sum 16 h - 1 < 256 by omega), Option.bind_some, ← pr_S_full, pr_orders (pr_fall_hv H) hV _ h (pr_fall_hv H) (fun _ _ => Nat.le_refl _) rfl]
    exact ⟨_, rfl, rfl, pr_Inv_m (pr_Inv_m hI l3 (by decide) (by intro k hk; simp; omega)) w3 (by decide) (by intro k hk; simp; omega)⟩
  · rw [if_neg c1]
    exact ⟨_, rfl, rfl, hI⟩
