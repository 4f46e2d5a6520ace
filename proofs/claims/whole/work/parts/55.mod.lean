/-! the reference's texts on twenty ints -/
def pq_mb (f : Nat → Int32) (o a b c : Nat) (h : Nat → Nat) : Prop := f o = 1 ∧ f (o + 1) = nI a ∧ f (o + 2) = nI b ∧ f (o + 3) = nI c ∧ ∀ t, t < 16 → f (o + 4 + t) = nI (h t)
theorem pq_rdn {z : km_S} {k n : Nat} {v : Int32} (hv : z.2.1 k n = v) (h : n < km_len k) : km_rd z k (nI n) = some v := by
  rw [kq_rd h kq_km, hv]
theorem pq_rdh {z : km_S} {k o a b c : Nat} {h : Nat → Nat} (hb : pq_mb (z.2.1 k) o a b c h) (hl : o + 20 ≤ km_len k) {n : Nat} (t : Nat) (ht : t < 16) (hn : n = o + 4 + t) : km_rd z k (nI n) = some (nI (h t)) :=
  pq_rdn (by rw [hn]; exact hb.2.2.2.2 t ht) (by omega)
theorem pq_rda {z : km_S} {k o a b c : Nat} {h : Nat → Nat} (hb : pq_mb (z.2.1 k) o a b c h) (hl : o + 20 ≤ km_len k) : km_rd z k (nI (o + 1)) = some (nI a) := pq_rdn hb.2.1 (by omega)
theorem pq_rdb {z : km_S} {k o a b c : Nat} {h : Nat → Nat} (hb : pq_mb (z.2.1 k) o a b c h) (hl : o + 20 ≤ km_len k) : km_rd z k (nI (o + 2)) = some (nI b) := pq_rdn hb.2.2.1 (by omega)
theorem pq_rdc {z : km_S} {k o a b c : Nat} {h : Nat → Nat} (hb : pq_mb (z.2.1 k) o a b c h) (hl : o + 20 ≤ km_len k) : km_rd z k (nI (o + 3)) = some (nI c) := pq_rdn hb.2.2.2.1 (by omega)
theorem pq_at (i j : Nat) : fm_at (nI i) (nI j) = some (nI (4 + 4 * i + j)) := by
  unfold fm_at; simp only [kq_lit, nI_add, pk_mul]
theorem pm_volume {z : km_S} {k o : Nat} {h : Nat → Nat} (hb : ∀ t, t < 16 → z.2.1 k (o + 4 + t) = nI (h t)) (hl : o + 20 ≤ km_len k) : fm_volume k (nI o) z = some (nI (pq_sum 16 h), z) := by
  have hk := kq_km (k := k)
  unfold fm_volume lm_volume_4
  refine kq_runb (fun t => (nI o, nI (pq_sum t h), nI t, z)) 16 (nI (pq_sum 16 h), z) rfl (by omega) (fun t ht => ?_) rfl rfl
  dsimp only
  unfold fm_volume_4
  rw [if_neg (show ¬ (16 : Int32) ≤ nI t from nI_ge (b := 16) ht (by omega)), show nI o + 4 + nI t = nI (o + 4 + t) by simp only [kq_lit, nI_add], pq_rdn (hb t ht) (by omega), Option.bind_some, nI_add, nI_1]
  rfl
theorem pm_canLay {z : km_S} {k o a b c : Nat} {h : Nat → Nat} (H : pq_hv a b c h) (hb : pq_mb (z.2.1 k) o a b c h) (hl : o + 20 ≤ km_len k) {i j : Nat} (hi : i < a) (hj : j < b) : fm_canLay k (nI o) (nI i) (nI j) z = some (pq_b (pq_grow a b c h i j), z) := by
  have hk := kq_km (k := k)
  have ha := H.1; have hb4 := H.2.1; have hc4 := H.2.2.1
  have q := H.2.2.2.2 i j (by omega) (by omega)
  unfold fm_canLay
  rw [pq_at, Option.bind_some, nI_add, pq_rdh hb hl (4 * i + j) (by omega) (by omega), Option.bind_some, show nI o + 3 = nI (o + 3) from nI_add o 3, pq_rdc hb hl, Option.bind_some]
  have e0 : pq_g a b h i j = h (4 * i + j) := pq_g_in hi hj
  have tail : ∀ U : Bool, (U = true ↔ pq_g a b h i j < pq_up a b c h i j) → U = true → h (4 * i + j) < c → fm_canLay_41 k (nI o) (nI i) (nI j) (nI (h (4 * i + j))) z = some (pq_b (pq_grow a b c h i j), z) := by
    intro U hU hU1 hhc
    have hU2 := hU.mp hU1
    unfold fm_canLay_41
    by_cases j0 : j = 0
    · subst j0
      rw [if_pos (show nI 0 = 0 from rfl), show pq_grow a b c h i 0 = true by
        unfold pq_grow pq_lf; rw [if_pos rfl]; simp only [decide_eq_true_eq]; exact ⟨hU2, by rw [e0]; exact hhc⟩]
      rfl
    · obtain ⟨j, rfl⟩ : ∃ k, j = k + 1 := ⟨j - 1, by omega⟩
      rw [if_neg (nI_ne0 (by omega) (by omega)), nI_pred, pq_at, Option.bind_some, nI_add, pq_rdh hb hl (4 * i + j) (by omega) (by omega), Option.bind_some]
      have e1 : pq_lf a b c h i (j + 1) = h (4 * i + j) := by
        unfold pq_lf; rw [if_neg (by omega)]; exact pq_g_in hi (by omega)
      have q1 := pq_hv_h H (4 * i + j) (by omega); have q2 := pq_hv_h H (4 * i + (j + 1)) (by omega)
      unfold pq_grow
      rw [e1, e0] at *
      simp (disch := omega) only [nI_leI]
      by_cases c1 : h (4 * i + j) ≤ h (4 * i + (j + 1))
      · rw [if_pos c1, decide_eq_false (by omega)]; rfl
      · rw [if_neg c1, decide_eq_true (by omega)]; rfl
  have q1 := pq_hv_h H (4 * i + j) (by omega)
  simp only [show (nI c ≤ nI (h (4 * i + j))) = (c ≤ h (4 * i + j)) from propext (nI_leI (by omega) (by omega))]
  have hup : pq_up a b c h i j ≤ c := by
    unfold pq_up
    split
    · omega
    · rw [pq_g_in (by omega) hj]; exact (H.2.2.2.2 (i - 1) j (by omega) (by omega)).1
  by_cases c0 : c ≤ h (4 * i + j)
  · rw [if_pos c0, show pq_grow a b c h i j = false by unfold pq_grow; rw [e0]; exact decide_eq_false (by omega)]; rfl
  · rw [if_neg c0]
    by_cases i0 : i = 0
    · subst i0
      rw [if_pos (show nI 0 = 0 from rfl)]
      exact tail true (by unfold pq_up; rw [if_pos rfl, e0]; exact ⟨fun _ => by omega, fun _ => rfl⟩) rfl (by omega)
    · obtain ⟨i, rfl⟩ : ∃ k, i = k + 1 := ⟨i - 1, by omega⟩
      rw [if_neg (nI_ne0 (by omega) (by omega)), nI_pred, pq_at, Option.bind_some, nI_add, pq_rdh hb hl (4 * i + j) (by omega) (by omega), Option.bind_some]
      have q2 := pq_hv_h H (4 * i + j) (by omega)
      have e1 : pq_up a b c h (i + 1) j = h (4 * i + j) := by
        unfold pq_up; rw [if_neg (by omega)]; exact pq_g_in (by omega) hj
      simp only [show (nI (h (4 * i + j)) ≤ nI (h (4 * (i + 1) + j))) = (h (4 * i + j) ≤ h (4 * (i + 1) + j)) from propext (nI_leI (by omega) (by omega))]
      by_cases c1 : h (4 * i + j) ≤ h (4 * (i + 1) + j)
      · rw [if_pos c1, show pq_grow a b c h (i + 1) j = false by unfold pq_grow; rw [e0, e1]; exact decide_eq_false (by omega)]; rfl
      · rw [if_neg c1]
        exact tail true (by rw [e0, e1]; simp; omega) rfl (by omega)
theorem pm_canTake {z : km_S} {k o a b c : Nat} {h : Nat → Nat} (H : pq_hv a b c h) (hb : pq_mb (z.2.1 k) o a b c h) (hl : o + 20 ≤ km_len k) {i j : Nat} (hi : i < a) (hj : j < b) : fm_canTake k (nI o) (nI i) (nI j) z = some (pq_b (pq_shr a b h i j), z) := by
  have hk := kq_km (k := k)
  have ha := H.1; have hb4 := H.2.1; have hc4 := H.2.2.1
  have e0 : pq_g a b h i j = h (4 * i + j) := pq_g_in hi hj
  have q1 := pq_hv_h H (4 * i + j) (by omega)
  have t43 : ∀ U : Bool, (U = true ↔ pq_g a b h (i + 1) j < h (4 * i + j) ∨ (i + 1 = a)) → fm_canTake_43 k (nI o) (nI i) (nI j) (nI (h (4 * i + j))) (pq_b U) z = some (pq_b (pq_shr a b h i j), z) := by
    intro U hU
    unfold fm_canTake_43
    simp only [show (nI (h (4 * i + j)) ≤ 0) = (h (4 * i + j) ≤ 0) from propext (nI_leI (b := 0) (by omega) (by omega))]
    by_cases c0 : h (4 * i + j) ≤ 0
    · rw [if_pos c0, show pq_shr a b h i j = false by unfold pq_shr; rw [e0]; exact decide_eq_false (by omega)]; rfl
    · rw [if_neg c0]
      cases U
      · have hU' : ¬ (pq_g a b h (i + 1) j < h (4 * i + j) ∨ (i + 1 = a)) := fun x => by simp at hU; omega
        rw [if_pos (show pq_b false = 0 from rfl), show pq_shr a b h i j = false by unfold pq_shr; rw [e0]; exact decide_eq_false (by omega)]; rfl
      · have hU' : pq_g a b h (i + 1) j < h (4 * i + j) := by
          rcases hU.mp rfl with x | x
          · exact x
          · unfold pq_g; rw [if_neg (by omega)]; omega
        rw [if_neg (show ¬ pq_b true = 0 by decide), show nI o + 2 = nI (o + 2) from nI_add o 2, pq_rdb hb hl, Option.bind_some, show nI b - 1 = nI (b - 1) from pk_sub (b := 1) (by omega)]
        simp only [show (nI j = nI (b - 1)) = (j = b - 1) from propext (nI_eq (by omega) (by omega))]
        by_cases c1 : j = b - 1
        · rw [if_pos c1, show pq_shr a b h i j = true by
            unfold pq_shr; rw [e0]; exact decide_eq_true ⟨hU', by unfold pq_g; rw [if_neg (by omega)]; omega⟩]; rfl
        · have e2 : pq_g a b h i (j + 1) = h (4 * i + (j + 1)) := pq_g_in hi (by omega)
          have q2 := pq_hv_h H (4 * i + (j + 1)) (by omega)
          rw [if_neg c1, nI_1, pq_at, Option.bind_some, nI_add, pq_rdh hb hl (4 * i + (j + 1)) (by omega) (by omega), Option.bind_some]
          simp only [show (nI (h (4 * i + j)) ≤ nI (h (4 * i + (j + 1)))) = (h (4 * i + j) ≤ h (4 * i + (j + 1))) from propext (nI_leI (by omega) (by omega))]
          by_cases c2 : h (4 * i + j) ≤ h (4 * i + (j + 1))
          · rw [if_pos c2, show pq_shr a b h i j = false by unfold pq_shr; rw [e0, e2]; exact decide_eq_false (by omega)]; rfl
          · rw [if_neg c2, show pq_shr a b h i j = true by unfold pq_shr; rw [e0, e2]; exact decide_eq_true ⟨hU', by omega⟩]; rfl
  unfold fm_canTake fm_canTake_38
  rw [pq_at, Option.bind_some, nI_add, pq_rdh hb hl (4 * i + j) (by omega) (by omega), Option.bind_some, show nI o + 1 = nI (o + 1) from nI_add o 1, pq_rda hb hl, Option.bind_some, show nI a - 1 = nI (a - 1) from pk_sub (b := 1) (by omega)]
  simp only [show (nI i = nI (a - 1)) = (i = a - 1) from propext (nI_eq (by omega) (by omega))]
  by_cases c1 : i = a - 1
  · rw [if_pos c1]
    exact t43 true (by simp; omega)
  · rw [if_neg c1, nI_1, pq_at, Option.bind_some, nI_add, pq_rdh hb hl (4 * (i + 1) + j) (by omega) (by omega), Option.bind_some]
    have q2 := pq_hv_h H (4 * (i + 1) + j) (by omega)
    have e2 : pq_g a b h (i + 1) j = h (4 * (i + 1) + j) := pq_g_in (by omega) hj
    simp only [show (nI (h (4 * i + j)) ≤ nI (h (4 * (i + 1) + j))) = (h (4 * i + j) ≤ h (4 * (i + 1) + j)) from propext (nI_leI (by omega) (by omega))]
    by_cases c2 : h (4 * i + j) ≤ h (4 * (i + 1) + j)
    · rw [if_pos c2]
      exact t43 false (by rw [e2]; simp; omega)
    · rw [if_neg c2]
      exact t43 true (by rw [e2]; simp; omega)
theorem pm_trace {z : km_S} {o : Nat} {h : Nat → Nat} (hb : ∀ t, t < 16 → z.2.1 0 (o + 4 + t) = nI (h t)) (hl : o + 20 ≤ km_len 0) : fm_trace (nI o) z = some (nI (pq_sum 4 fun i => h (4 * i + i)), z) := by
  have hk := kq_km (k := 0)
  unfold fm_trace lm_trace_4
  refine kq_runb (fun t => (nI o, nI (pq_sum t fun i => h (4 * i + i)), nI t, z)) 4 (nI (pq_sum 4 fun i => h (4 * i + i)), z) rfl (by omega) (fun t ht => ?_) rfl rfl
  dsimp only
  unfold fm_trace_4
  rw [if_neg (show ¬ (4 : Int32) ≤ nI t from nI_ge (b := 4) ht (by omega)), pq_at, Option.bind_some, nI_add, pq_rdn (n := o + (4 + 4 * t + t)) (v := nI (h (4 * t + t))) (by rw [show o + (4 + 4 * t + t) = o + 4 + (4 * t + t) by omega]; exact hb _ (by omega)) (by omega), Option.bind_some, nI_add, nI_1]
  rfl
theorem pm_corners (w : Bool) {z : km_S} {o a b c : Nat} {h : Nat → Nat} (H : pq_hv a b c h) (hb : pq_mb (z.2.1 0) o a b c h) (hl : o + 20 ≤ km_len 0) : fm_corners (nI o) (pq_b w) z = some (nI (pq_sum a fun i => pq_sum b fun j => pq_n (pq_chg w a b c h i j)), z) := by
  have ha := H.1; have hb4 := H.2.1
  have inner : ∀ (x i : Nat), i < a → lm_corners_21 5000 (nI o) (pq_b w) (nI x) (nI i) 0 z = some (nI o, pq_b w, nI (x + pq_sum b fun j => pq_n (pq_chg w a b c h i j)), nI i, z) := by
    intro x i hi
    unfold lm_corners_21
    refine kq_run0 (fun k => (nI o, pq_b w, nI (x + pq_sum k fun j => pq_n (pq_chg w a b c h i j)), nI i, nI k, z)) b rfl (by omega) (fun k hk => ?_) ?_
    · dsimp only
      unfold fm_corners_21
      rw [show nI o + 2 = nI (o + 2) from nI_add o 2, pq_rdb hb hl, Option.bind_some, if_neg (nI_ge hk (by omega))]
      have e : ∀ v : Bool, fm_corners_65 (nI o) (pq_b w) (nI (x + pq_sum k fun j => pq_n (pq_chg w a b c h i j))) (nI i) (nI k) (pq_b v) z = some (.inl (nI o, pq_b w, nI (x + pq_sum k (fun j => pq_n (pq_chg w a b c h i j)) + pq_n v), nI i, nI (k + 1), z)) := by
        intro v
        unfold fm_corners_65 fm_corners_78
        cases v
        · rw [if_pos (show pq_b false = 0 from rfl), nI_1, show nI (x + pq_sum k fun j => pq_n (pq_chg w a b c h i j)) + 0 = nI (x + pq_sum k (fun j => pq_n (pq_chg w a b c h i j)) + 0) from nI_add _ 0]; rfl
        · rw [if_neg (show ¬ pq_b true = 0 by decide), nI_1, nI_1]; rfl
      cases w
      · rw [if_pos (show pq_b false = 0 from rfl), pm_canTake H hb hl hi hk, Option.bind_some, e, pq_sum, Nat.add_assoc]; rfl
      · rw [if_neg (show ¬ pq_b true = 0 by decide), pm_canLay H hb hl hi hk, Option.bind_some, e, pq_sum, Nat.add_assoc]; rfl
    · dsimp only
      unfold fm_corners_21
      rw [show nI o + 2 = nI (o + 2) from nI_add o 2, pq_rdb hb hl, Option.bind_some, if_pos (nI_le (Nat.le_refl b) (by omega))]
  unfold fm_corners lm_corners_5
  refine kq_runb (fun k => (nI o, pq_b w, nI (pq_sum k fun i => pq_sum b fun j => pq_n (pq_chg w a b c h i j)), nI k, z)) a (nI (pq_sum a fun i => pq_sum b fun j => pq_n (pq_chg w a b c h i j)), z) rfl (by omega) (fun k hk => ?_) ?_ rfl
  · dsimp only
    unfold fm_corners_5
    rw [show nI o + 1 = nI (o + 1) from nI_add o 1, pq_rda hb hl, Option.bind_some, if_neg (nI_ge hk (by omega)), inner _ _ hk, Option.bind_some]
    simp only [nI_1, pq_sum]
  · dsimp only
    unfold fm_corners_5
    rw [show nI o + 1 = nI (o + 1) from nI_add o 1, pq_rda hb hl, Option.bind_some, if_pos (nI_le (Nat.le_refl a) (by omega))]
