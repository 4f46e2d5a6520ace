/-! SERIES: the reference counts, row by row, by volumes -/
def pr_m (b c s : Nat) : Nat := pq_sum 4 (pr_v b c s)
theorem nI_add_zero (x : Int32) : x + nI 0 = x := Int32.add_zero x
theorem pr_m_le {b c s : Nat} (o : pr_ok b c) (hs : s < pr_N b c) : pr_m b c s ≤ 16 := by
  have := o.2.2.2
  exact pq_sum_le (n := 4) (m := 4) fun j hj => Nat.le_trans (pr_row o hs j hj).1 this
def pr_B (b c : Nat) : Nat → Nat → Nat → Nat
  | 0, r, u => if r = pr_N b c - 1 ∧ u = 0 then 1 else 0
  | i + 1, s, u => pq_sum (pr_N b c) fun r => if pr_LE b c s r ∧ pr_m b c s ≤ u then pr_B b c i r (u - pr_m b c s) else 0
def pr_D (b c i r s u : Nat) : Nat := if pr_LE b c s r ∧ pr_m b c s ≤ u then pr_B b c i r (u - pr_m b c s) else 0
/-- the rows with their zeros -/
def pr_mz (b c : Nat) (z : km_S) : Prop := z.1 5 = nI (pr_N b c) ∧ ∀ k, k < pr_N b c → ∀ j, j < 4 → z.2.1 6 (4 * k + j) = nI (pr_v b c k j)
theorem pr_mz_ml {b c : Nat} {z : km_S} (o : pr_ok b c) (h : pr_mz b c z) : pr_ml b c z := ⟨h.1, fun k hk j hj => h.2 k hk j (by have := o.2.1; omega)⟩
theorem pm_seriesRows {z : km_S} {b c : Nat} {A V : Int32} (o : pr_ok b c) (hz : pr_ml b c z) : ∃ z', lm_series_35 5000 A (nI b) V 0 z = some (A, nI b, V, z') ∧ pr_mz b c z' ∧ pr_fq [] [6] z z' := by
  have hN := pr_N_le o
  have hb := o.2.1
  have inner : ∀ (g : Nat → Int32) (r : Nat), r < pr_N b c → ∃ g', lm_series_47 5000 A (nI b) V (nI r) (nI b) (z.1, va_up z.2.1 6 g, z.2.2) = some (A, nI b, V, nI r, (z.1, va_up z.2.1 6 g', z.2.2)) ∧ ∀ t, g' t = if 4 * r + b ≤ t ∧ t < 4 * r + 4 then 0 else g t := by
    intro g r hr
    unfold lm_series_47
    obtain ⟨x, x1, g', rfl, x2⟩ := kq_it (step := fun (s : (Int32 × Int32 × Int32 × Int32 × Int32 × km_S)) => fm_series_47 (s.1) (s.2.1) (s.2.2.1) (s.2.2.2.1) (s.2.2.2.2.1) (s.2.2.2.2.2))
      (fun j x => b ≤ j ∧ ∃ g', x = (A, nI b, V, nI r, nI j, (z.1, va_up z.2.1 6 g', z.2.2)) ∧ ∀ t, g' t = if 4 * r + b ≤ t ∧ t < 4 * r + j then 0 else g t)
      (fun x => ∃ g', x = (A, nI b, V, nI r, ((z.1, va_up z.2.1 6 g', z.2.2) : km_S)) ∧ ∀ t, g' t = if 4 * r + b ≤ t ∧ t < 4 * r + 4 then 0 else g t) 4 (by
        rintro j x hj ⟨cj, g', rfl, h1⟩
        dsimp only
        unfold fm_series_47
        rw [if_neg (show ¬ (4 : Int32) ≤ nI j from nI_ge (b := 4) hj (by omega)), show (4 : Int32) * nI r = nI (4 * r) from pk_mul 4 r, nI_add, pq_wrg (show 4 * r + j < 280 by omega), Option.bind_some, nI_1]
        refine ⟨_, rfl, by omega, _, rfl, fun t => ?_⟩
        by_cases e : t = 4 * r + j
        · subst e; rw [pk_us, if_pos (by omega)]
        · rw [pk_un e, h1 t]
          by_cases e2 : 4 * r + b ≤ t ∧ t < 4 * r + j
          · rw [if_pos e2, if_pos (by omega)]
          · rw [if_neg e2, if_neg (by omega)]) (by
        rintro x ⟨_, g', rfl, h1⟩
        exact ⟨_, rfl, g', rfl, h1⟩) (4 - b) b (A, nI b, V, nI r, nI b, (z.1, va_up z.2.1 6 g, z.2.2)) 5000 (by omega) (by omega) ⟨Nat.le_refl b, g, rfl, fun t => by rw [if_neg (by omega)]⟩
    exact ⟨g', x1, x2⟩
  unfold lm_series_35
  obtain ⟨x, x1, g, rfl, x2, x3⟩ := kq_it0 (step := fun (s : (Int32 × Int32 × Int32 × Int32 × km_S)) => fm_series_35 (s.1) (s.2.1) (s.2.2.1) (s.2.2.2.1) (s.2.2.2.2))
    (fun r x => ∃ g, x = (A, nI b, V, nI r, (z.1, va_up z.2.1 6 g, z.2.2)) ∧ (∀ k, k < pr_N b c → ∀ j, j < b → g (4 * k + j) = nI (pr_v b c k j)) ∧ ∀ k, k < r → ∀ j, b ≤ j → j < 4 → g (4 * k + j) = 0)
    (fun x => ∃ g, x = (A, nI b, V, ((z.1, va_up z.2.1 6 g, z.2.2) : km_S)) ∧ (∀ k, k < pr_N b c → ∀ j, j < b → g (4 * k + j) = nI (pr_v b c k j)) ∧ ∀ k, k < pr_N b c → ∀ j, b ≤ j → j < 4 → g (4 * k + j) = 0) (pr_N b c) (by omega) (by
      rintro r x hr ⟨g, rfl, h1, h2⟩
      obtain ⟨g', e1, e2⟩ := inner g r hr
      dsimp only
      unfold fm_series_35
      dsimp only
      rw [hz.1, if_neg (nI_ge hr (by omega)), e1, Option.bind_some, nI_1]
      refine ⟨_, rfl, g', rfl, fun k hk j hj => ?_, fun k hk j h3 h4 => ?_⟩
      · rw [e2, if_neg (by omega)]; exact h1 k hk j hj
      · rw [e2]
        by_cases e : k = r
        · subst e; rw [if_pos (by omega)]
        · rw [if_neg (by omega)]; exact h2 k (by omega) j h3 h4) (by
      rintro x ⟨g, rfl, h1, h2⟩
      refine ⟨_, ?_, g, rfl, h1, h2⟩
      dsimp only
      unfold fm_series_35
      dsimp only
      rw [hz.1, if_pos (nI_le (Nat.le_refl _) (by omega))])
    (s := (A, nI b, V, 0, z)) ⟨z.2.1 6, by rw [kj_upf]; rfl, hz.2, fun k hk => absurd hk (by omega)⟩
  refine ⟨_, x1, ⟨hz.1, fun k hk j hj => ?_⟩, pr_fq_u (by decide)⟩
  dsimp only
  rw [va_up_self]
  by_cases e : j < b
  · exact x2 k hk j e
  · rw [x3 k hk j (by omega) hj, (pr_row o hk j hj).2.1 (by omega)]; rfl
theorem pm_sumOf {z : km_S} {b c s : Nat} (o : pr_ok b c) (hz : pr_mz b c z) (hs : s < pr_N b c) : fm_sumOf (nI s) z = some (nI (pr_m b c s), z) := by
  have hN := pr_N_le o
  have r := hz.2 s hs
  have r0 := r 0 (by omega)
  rw [Nat.add_zero] at r0
  unfold fm_sumOf
  rw [show (4 : Int32) * nI s = nI (4 * s) from pk_mul 4 s, pq_rdn r0 (show 4 * s < 280 by omega), Option.bind_some, show nI (4 * s) + 1 = nI (4 * s + 1) from nI_add _ 1, pq_rdn (r 1 (by omega)) (show 4 * s + 1 < 280 by omega), Option.bind_some, show nI (4 * s) + 2 = nI (4 * s + 2) from nI_add _ 2, pq_rdn (r 2 (by omega)) (show 4 * s + 2 < 280 by omega), Option.bind_some, show nI (4 * s) + 3 = nI (4 * s + 3) from nI_add _ 3, pq_rdn (r 3 (by omega)) (show 4 * s + 3 < 280 by omega), Option.bind_some, nI_add, nI_add, nI_add]
  unfold pr_m
  simp only [pq_sum, Nat.zero_add]
/-- arrays 13 and 14 as said -/
theorem pq_wrg2 {z : km_S} {f g : Nat → Int32} {n : Nat} {v : Int32} (h : n < 3430) : km_wr (z.1, va_up (va_up z.2.1 13 f) 14 g, z.2.2) 14 (nI n) v = some (z.1, va_up (va_up z.2.1 13 f) 14 (upd g n v), z.2.2) := by
  rw [kq_wr (show n < km_len 14 from h) kq_km]
  simp only [bx_uu, va_up_self]
theorem pr_up1413 {α : Type} {q : Nat → α} {f g h : α} : va_up (va_up (va_up q 13 f) 14 g) 13 h = va_up (va_up q 13 h) 14 g := by
  funext k
  by_cases e1 : k = 13
  · subst e1; rw [va_up_self, va_up_ne _ _ (by decide), va_up_self]
  · rw [va_up_ne _ _ e1]
    by_cases e2 : k = 14
    · subst e2; rw [va_up_self, va_up_self]
    · rw [va_up_ne _ _ e2, va_up_ne _ _ e1, va_up_ne _ _ e2, va_up_ne _ _ e1]
theorem pr_up14 {α : Type} {q : Nat → α} {f : α} : va_up (va_up q 13 f) 14 (q 14) = va_up q 13 f := by
  funext k
  by_cases e2 : k = 14
  · subst e2; rw [va_up_self, va_up_ne _ _ (by decide)]
  · rw [va_up_ne _ _ e2]
theorem pr_up13 {α : Type} {q : Nat → α} {f g : α} : va_up (va_up q 13 f) 14 g 13 = f := by rw [va_up_ne _ _ (by decide), va_up_self]
theorem pm_countVolume {z : km_S} {a b c v : Nat} (ha : a ≤ 4) (o : pr_ok b c) (hz : pr_mz b c z) (hv : v < 49) : ∃ z', fm_countVolume (nI a) (nI b) (nI v) z = some (nI (pq_sum (pr_N b c) fun r => pr_B b c a r v), z') ∧ pr_fq [] [13, 14] z z' := by
  have hN := pr_N_le o
  have hb := o.2.1
  have hzg : ∀ f g, pr_mz b c (z.1, va_up (va_up z.2.1 13 f) 14 g, z.2.2) := fun f g => ⟨hz.1, fun k hk j hj => by
    dsimp only
    rw [va_up_ne _ _ (by decide), va_up_ne _ _ (by decide)]; exact hz.2 k hk j hj⟩
  -- one pair of rows
  have pair : ∀ (f g : Nat → Int32) (i r s : Nat), r < pr_N b c → s < pr_N b c → (∀ r', r' < pr_N b c → ∀ u, u < 49 → f (49 * r' + u) = nI (pr_B b c i r' u)) → ∃ g', lm_countVolume_107 5000 (nI a) (nI b) (nI v) (nI i) (nI r) (nI s) (nI (pr_m b c s)) 0 (z.1, va_up (va_up z.2.1 13 f) 14 g, z.2.2) = some (nI a, nI b, nI v, nI i, nI r, nI s, (z.1, va_up (va_up z.2.1 13 f) 14 g', z.2.2)) ∧ (∀ t, ¬ (49 * s ≤ t ∧ t < 49 * s + 49) → g' t = g t) ∧ ∀ u, u < 49 → g' (49 * s + u) = g (49 * s + u) + nI (pr_D b c i r s u) := by
    intro f g i r s hr hs hf
    have hm := pr_m_le o hs
    unfold lm_countVolume_107
    have stp : ∀ (g : Nat → Int32) (h : Nat), h + pr_m b c s ≤ 48 → fm_countVolume_107 (nI a) (nI b) (nI v) (nI i) (nI r) (nI s) (nI (pr_m b c s)) (nI h) (z.1, va_up (va_up z.2.1 13 f) 14 g, z.2.2) = if pr_LE b c s r then some (.inl (nI a, nI b, nI v, nI i, nI r, nI s, nI (pr_m b c s), nI (h + 1), (z.1, va_up (va_up z.2.1 13 f) 14 (upd g (49 * s + h + pr_m b c s) (g (49 * s + h + pr_m b c s) + nI (pr_B b c i r h))), z.2.2))) else some (.inr (nI a, nI b, nI v, nI i, nI r, nI s, (z.1, va_up (va_up z.2.1 13 f) 14 g, z.2.2))) := by
      intro g h hh
      unfold fm_countVolume_107
      rw [nI_add, if_neg (show ¬ (48 : Int32) < nI (h + pr_m b c s) from nI_nlt (a := 48) (by omega) (by omega)), pm_isUnder o (pr_mz_ml o (hzg f g)) hs hr, Option.bind_some]
      dsimp only
      cases pr_LE b c s r
      · rw [if_pos (show pq_b false = 0 from rfl)]; rfl
      · rw [if_neg (show ¬ pq_b true = 0 by decide), if_pos rfl, show (49 : Int32) * nI s = nI (49 * s) from pk_mul 49 s, show (49 : Int32) * nI r = nI (49 * r) from pk_mul 49 r, nI_add, nI_add, nI_add, kq_rd (show 49 * s + h + pr_m b c s < 3430 by omega) kq_km, Option.bind_some, pq_rdn (v := nI (pr_B b c i r h)) (by dsimp only; rw [va_up_ne _ _ (by decide), va_up_self]; exact hf r hr h (by omega)) (show 49 * r + h < 3430 by omega), Option.bind_some]
        dsimp only
        rw [va_up_self, pq_wrg2 (by omega), Option.bind_some, nI_1]
    cases e : pr_LE b c s r
    · refine ⟨g, ?_, fun _ _ => rfl, fun u hu => ?_⟩
      · refine kq_run0 (fun t => (nI a, nI b, nI v, nI i, nI r, nI s, nI (pr_m b c s), nI t, (z.1, va_up (va_up z.2.1 13 f) 14 g, z.2.2))) 0 rfl (by omega) (fun t ht => absurd ht (by omega)) ?_
        dsimp only
        rw [stp g 0 (by omega), e]; rfl
      · unfold pr_D
        rw [if_neg (by rw [e]; simp)]
        exact (nI_add_zero _).symm
    · obtain ⟨x, x1, g', rfl, x2, x3⟩ := kq_it0 (step := fun (s : (Int32 × Int32 × Int32 × Int32 × Int32 × Int32 × Int32 × Int32 × km_S)) => fm_countVolume_107 (s.1) (s.2.1) (s.2.2.1) (s.2.2.2.1) (s.2.2.2.2.1) (s.2.2.2.2.2.1) (s.2.2.2.2.2.2.1) (s.2.2.2.2.2.2.2.1) (s.2.2.2.2.2.2.2.2))
        (fun t x => ∃ g', x = (nI a, nI b, nI v, nI i, nI r, nI s, nI (pr_m b c s), nI t, (z.1, va_up (va_up z.2.1 13 f) 14 g', z.2.2)) ∧ (∀ t, ¬ (49 * s ≤ t ∧ t < 49 * s + 49) → g' t = g t) ∧ ∀ u, u < 49 → g' (49 * s + u) = if pr_m b c s ≤ u ∧ u < pr_m b c s + t then g (49 * s + u) + nI (pr_B b c i r (u - pr_m b c s)) else g (49 * s + u))
        (fun x => ∃ g', x = (nI a, nI b, nI v, nI i, nI r, nI s, ((z.1, va_up (va_up z.2.1 13 f) 14 g', z.2.2) : km_S)) ∧ (∀ t, ¬ (49 * s ≤ t ∧ t < 49 * s + 49) → g' t = g t) ∧ ∀ u, u < 49 → g' (49 * s + u) = if pr_m b c s ≤ u then g (49 * s + u) + nI (pr_B b c i r (u - pr_m b c s)) else g (49 * s + u)) (49 - pr_m b c s) (by omega) (by
          rintro t x ht ⟨g', rfl, h1, h2⟩
          dsimp only
          rw [stp g' t (by omega), e, if_pos rfl]
          refine ⟨_, rfl, _, rfl, fun t' ht' => by rw [pk_un (by omega)]; exact h1 t' ht', fun u hu => ?_⟩
          by_cases eu : u = t + pr_m b c s
          · subst eu
            rw [show 49 * s + t + pr_m b c s = 49 * s + (t + pr_m b c s) by omega, pk_us, h2 _ hu, if_neg (by omega), if_pos (by omega), show t + pr_m b c s - pr_m b c s = t by omega]
          · rw [pk_un (by omega), h2 u hu]
            by_cases e2 : pr_m b c s ≤ u ∧ u < pr_m b c s + t
            · rw [if_pos e2, if_pos (by omega)]
            · rw [if_neg e2, if_neg (by omega)]) (by
          rintro x ⟨g', rfl, h1, h2⟩
          refine ⟨_, ?_, g', rfl, h1, fun u hu => ?_⟩
          · dsimp only
            unfold fm_countVolume_107
            rw [nI_add, if_pos (show (48 : Int32) < nI (49 - pr_m b c s + pr_m b c s) from nI_lt (a := 48) (by omega) (by omega))]
          · rw [h2 u hu]
            by_cases e2 : pr_m b c s ≤ u
            · rw [if_pos (by omega), if_pos e2]
            · rw [if_neg (by omega), if_neg e2])
        (s := (nI a, nI b, nI v, nI i, nI r, nI s, nI (pr_m b c s), 0, (z.1, va_up (va_up z.2.1 13 f) 14 g, z.2.2))) ⟨g, rfl, fun _ _ => rfl, fun u hu => by rw [if_neg (by omega)]⟩
      refine ⟨g', x1, x2, fun u hu => ?_⟩
      rw [x3 u hu]
      unfold pr_D
      by_cases e2 : pr_m b c s ≤ u
      · rw [if_pos e2, if_pos ⟨e, e2⟩]
      · rw [if_neg e2, if_neg (fun q => e2 q.2)]
        exact (nI_add_zero _).symm
  -- one row ahead
  have rowr : ∀ (f g : Nat → Int32) (i r : Nat), r < pr_N b c → (∀ r', r' < pr_N b c → ∀ u, u < 49 → f (49 * r' + u) = nI (pr_B b c i r' u)) → (∀ s, s < pr_N b c → ∀ u, u < 49 → g (49 * s + u) = nI (pq_sum r fun r' => pr_D b c i r' s u)) → ∃ g', lm_countVolume_89 5000 (nI a) (nI b) (nI v) (nI i) (nI r) 0 (z.1, va_up (va_up z.2.1 13 f) 14 g, z.2.2) = some (nI a, nI b, nI v, nI i, nI r, (z.1, va_up (va_up z.2.1 13 f) 14 g', z.2.2)) ∧ ∀ s, s < pr_N b c → ∀ u, u < 49 → g' (49 * s + u) = nI (pq_sum (r + 1) fun r' => pr_D b c i r' s u) := by
    intro f g i r hr hf hg
    unfold lm_countVolume_89
    obtain ⟨x, x1, g', rfl, x2⟩ := kq_it0 (step := fun (s : (Int32 × Int32 × Int32 × Int32 × Int32 × Int32 × km_S)) => fm_countVolume_89 (s.1) (s.2.1) (s.2.2.1) (s.2.2.2.1) (s.2.2.2.2.1) (s.2.2.2.2.2.1) (s.2.2.2.2.2.2))
      (fun t x => ∃ g', x = (nI a, nI b, nI v, nI i, nI r, nI t, (z.1, va_up (va_up z.2.1 13 f) 14 g', z.2.2)) ∧ ∀ s, s < pr_N b c → ∀ u, u < 49 → g' (49 * s + u) = nI ((pq_sum r fun r' => pr_D b c i r' s u) + if s < t then pr_D b c i r s u else 0))
      (fun x => ∃ g', x = (nI a, nI b, nI v, nI i, nI r, ((z.1, va_up (va_up z.2.1 13 f) 14 g', z.2.2) : km_S)) ∧ ∀ s, s < pr_N b c → ∀ u, u < 49 → g' (49 * s + u) = nI (pq_sum (r + 1) fun r' => pr_D b c i r' s u)) (r + 1) (by omega) (by
        rintro t x ht ⟨g', rfl, h1⟩
        obtain ⟨g2, p1, p2, p3⟩ := pair f g' i r t hr (by omega) hf
        dsimp only
        unfold fm_countVolume_89 fm_countVolume_167
        rw [if_neg (nI_nlt (by omega) (by omega)), pm_sumOf o (hzg f g') (by omega), Option.bind_some]
        dsimp only
        rw [p1, Option.bind_some, nI_1]
        refine ⟨_, rfl, g2, rfl, fun s hs u hu => ?_⟩
        by_cases e : s = t
        · subst e
          rw [p3 u hu, h1 s hs u hu, if_neg (by omega), if_pos (by omega), nI_add, Nat.add_zero]
        · rw [p2 _ (by omega), h1 s hs u hu]
          by_cases e2 : s < t
          · rw [if_pos e2, if_pos (by omega)]
          · rw [if_neg e2, if_neg (by omega)]) (by
        rintro x ⟨g', rfl, h1⟩
        refine ⟨_, ?_, g', rfl, fun s hs u hu => ?_⟩
        · dsimp only
          unfold fm_countVolume_89
          rw [if_pos (nI_lt (by omega) (by omega))]
        · rw [h1 s hs u hu, pq_sum]
          by_cases e2 : s < r + 1
          · rw [if_pos e2]
          · rw [if_neg e2]
            congr 2
            unfold pr_D
            rw [if_neg]
            intro q
            have := pr_LE_le o hs hr q.1
            omega)
      (s := (nI a, nI b, nI v, nI i, nI r, 0, (z.1, va_up (va_up z.2.1 13 f) 14 g, z.2.2))) ⟨g, rfl, fun s hs u hu => by rw [hg s hs u hu, if_neg (by omega), Nat.add_zero]⟩
    exact ⟨g', x1, x2⟩
  have rows : ∀ (f g : Nat → Int32) (i : Nat), (∀ r', r' < pr_N b c → ∀ u, u < 49 → f (49 * r' + u) = nI (pr_B b c i r' u)) → (∀ t, t < 3430 → g t = 0) → ∃ g', lm_countVolume_77 5000 (nI a) (nI b) (nI v) (nI i) 0 (z.1, va_up (va_up z.2.1 13 f) 14 g, z.2.2) = some (nI a, nI b, nI v, nI i, (z.1, va_up (va_up z.2.1 13 f) 14 g', z.2.2)) ∧ ∀ s, s < pr_N b c → ∀ u, u < 49 → g' (49 * s + u) = nI (pr_B b c (i + 1) s u) := by
    intro f g i hf hg
    unfold lm_countVolume_77
    obtain ⟨x, x1, g', rfl, x2⟩ := kq_it0 (step := fun (s : (Int32 × Int32 × Int32 × Int32 × Int32 × km_S)) => fm_countVolume_77 (s.1) (s.2.1) (s.2.2.1) (s.2.2.2.1) (s.2.2.2.2.1) (s.2.2.2.2.2))
      (fun r x => ∃ g', x = (nI a, nI b, nI v, nI i, nI r, (z.1, va_up (va_up z.2.1 13 f) 14 g', z.2.2)) ∧ ∀ s, s < pr_N b c → ∀ u, u < 49 → g' (49 * s + u) = nI (pq_sum r fun r' => pr_D b c i r' s u))
      (fun x => ∃ g', x = (nI a, nI b, nI v, nI i, ((z.1, va_up (va_up z.2.1 13 f) 14 g', z.2.2) : km_S)) ∧ ∀ s, s < pr_N b c → ∀ u, u < 49 → g' (49 * s + u) = nI (pr_B b c (i + 1) s u)) (pr_N b c) (by omega) (by
        rintro r x hr ⟨g', rfl, h1⟩
        obtain ⟨g2, p1, p2⟩ := rowr f g' i r hr hf h1
        dsimp only
        unfold fm_countVolume_77
        dsimp only
        rw [hz.1, if_neg (nI_ge hr (by omega)), p1, Option.bind_some, nI_1]
        exact ⟨_, rfl, g2, rfl, p2⟩) (by
        rintro x ⟨g', rfl, h1⟩
        refine ⟨_, ?_, g', rfl, fun s hs u hu => by rw [h1 s hs u hu]; rfl⟩
        dsimp only
        unfold fm_countVolume_77
        dsimp only
        rw [hz.1, if_pos (nI_le (Nat.le_refl _) (by omega))])
      (s := (nI a, nI b, nI v, nI i, 0, (z.1, va_up (va_up z.2.1 13 f) 14 g, z.2.2))) ⟨g, rfl, fun s hs u hu => by rw [hg _ (by omega)]; rfl⟩
    exact ⟨g', x1, x2⟩
  -- zeros
  have zero14 : ∀ (f g : Nat → Int32) (i : Nat), ∃ g', lm_countVolume_52 5000 (nI a) (nI b) (nI v) (nI i) 0 (z.1, va_up (va_up z.2.1 13 f) 14 g, z.2.2) = some (nI a, nI b, nI v, nI i, (z.1, va_up (va_up z.2.1 13 f) 14 g', z.2.2)) ∧ ∀ t, t < 3430 → g' t = 0 := by
    intro f g i
    unfold lm_countVolume_52
    obtain ⟨x, x1, g', rfl, x2⟩ := kq_it0 (step := fun (s : (Int32 × Int32 × Int32 × Int32 × Int32 × km_S)) => fm_countVolume_52 (s.1) (s.2.1) (s.2.2.1) (s.2.2.2.1) (s.2.2.2.2.1) (s.2.2.2.2.2))
      (fun k x => ∃ g', x = (nI a, nI b, nI v, nI i, nI k, (z.1, va_up (va_up z.2.1 13 f) 14 g', z.2.2)) ∧ ∀ t, t < k → g' t = 0)
      (fun x => ∃ g', x = (nI a, nI b, nI v, nI i, ((z.1, va_up (va_up z.2.1 13 f) 14 g', z.2.2) : km_S)) ∧ ∀ t, t < 3430 → g' t = 0) 3430 (by omega) (by
        rintro k x hk ⟨g', rfl, h1⟩
        dsimp only
        unfold fm_countVolume_52
        rw [if_neg (show ¬ (3430 : Int32) ≤ nI k from nI_ge (b := 3430) hk (by omega)), pq_wrg2 hk, Option.bind_some, nI_1]
        refine ⟨_, rfl, _, rfl, fun t ht => ?_⟩
        by_cases e : t = k
        · subst e; exact pk_us
        · rw [pk_un e]; exact h1 t (by omega)) (by
        rintro x ⟨g', rfl, h1⟩
        exact ⟨_, rfl, g', rfl, h1⟩)
      (s := (nI a, nI b, nI v, nI i, 0, (z.1, va_up (va_up z.2.1 13 f) 14 g, z.2.2))) ⟨g, rfl, fun t ht => absurd ht (by omega)⟩
    exact ⟨g', x1, x2⟩
  have zero13 : ∃ f, lm_countVolume_3 5000 (nI a) (nI b) (nI v) 0 z = some (nI a, nI b, nI v, (z.1, va_up z.2.1 13 f, z.2.2)) ∧ ∀ t, t < 3430 → f t = 0 := by
    unfold lm_countVolume_3
    obtain ⟨x, x1, g', rfl, x2⟩ := kq_it0 (step := fun (s : (Int32 × Int32 × Int32 × Int32 × km_S)) => fm_countVolume_3 (s.1) (s.2.1) (s.2.2.1) (s.2.2.2.1) (s.2.2.2.2))
      (fun k x => ∃ g', x = (nI a, nI b, nI v, nI k, (z.1, va_up z.2.1 13 g', z.2.2)) ∧ ∀ t, t < k → g' t = 0)
      (fun x => ∃ g', x = (nI a, nI b, nI v, ((z.1, va_up z.2.1 13 g', z.2.2) : km_S)) ∧ ∀ t, t < 3430 → g' t = 0) 3430 (by omega) (by
        rintro k x hk ⟨g', rfl, h1⟩
        dsimp only
        unfold fm_countVolume_3
        rw [if_neg (show ¬ (3430 : Int32) ≤ nI k from nI_ge (b := 3430) hk (by omega)), pq_wrg (show k < km_len 13 from hk), Option.bind_some, nI_1]
        refine ⟨_, rfl, _, rfl, fun t ht => ?_⟩
        by_cases e : t = k
        · subst e; exact pk_us
        · rw [pk_un e]; exact h1 t (by omega)) (by
        rintro x ⟨g', rfl, h1⟩
        exact ⟨_, rfl, g', rfl, h1⟩)
      (s := (nI a, nI b, nI v, 0, z)) ⟨z.2.1 13, by rw [kj_upf]; rfl, fun t ht => absurd ht (by omega)⟩
    exact ⟨g', x1, x2⟩
  obtain ⟨f0, p1, p2⟩ := zero13
  unfold fm_countVolume
  rw [p1, Option.bind_some]
  dsimp only
  rw [hz.1, show nI (pr_N b c) - 1 = nI (pr_N b c - 1) from pk_sub (b := 1) (by omega), show (49 : Int32) * nI (pr_N b c - 1) = nI (49 * (pr_N b c - 1)) from pk_mul 49 _, pq_wrg (show 49 * (pr_N b c - 1) < 3430 by omega), Option.bind_some]
  unfold lm_countVolume_43
  obtain ⟨x, x1, f, g, rfl, x2⟩ := kq_it0 (step := fun (s : (Int32 × Int32 × Int32 × Int32 × km_S)) => fm_countVolume_43 (s.1) (s.2.1) (s.2.2.1) (s.2.2.2.1) (s.2.2.2.2))
    (fun i x => ∃ f g, x = (nI a, nI b, nI v, nI i, (z.1, va_up (va_up z.2.1 13 f) 14 g, z.2.2)) ∧ ∀ r, r < pr_N b c → ∀ u, u < 49 → f (49 * r + u) = nI (pr_B b c i r u))
    (fun x => ∃ f g, x = (nI v, ((z.1, va_up (va_up z.2.1 13 f) 14 g, z.2.2) : km_S)) ∧ ∀ r, r < pr_N b c → ∀ u, u < 49 → f (49 * r + u) = nI (pr_B b c a r u)) a (by omega) (by
      rintro i x hi ⟨f, g, rfl, h1⟩
      obtain ⟨g1, q1, q2⟩ := zero14 f g i
      obtain ⟨g2, r1, r2⟩ := rows f g1 i h1 q2
      dsimp only
      unfold fm_countVolume_43
      rw [if_neg (nI_ge hi (by omega)), q1, Option.bind_some]
      dsimp only
      rw [r1, Option.bind_some]
      dsimp only
      rw [show (0 : Int32) = nI 0 from rfl, show (3430 : Int32) = nI 3430 from rfl, kq_bring (k0 := 14) (k1 := 13) (by decide) (by decide) (by omega) (fun h => absurd h (by decide)), Option.bind_some, nI_1]
      dsimp only
      rw [va_up_self, pr_up13, pr_up1413]
      refine ⟨_, rfl, va_cpy g2 f 0 0 3430, g2, rfl, fun r hr u hu => ?_⟩
      have := pq_cpy_in (f := g2) (g := f) (i := 0) (j := 0) (n := 3430) (t := 49 * r + u) (by omega)
      rw [Nat.zero_add] at this
      rw [this]; exact r2 r hr u hu) (by
      rintro x ⟨f, g, rfl, h1⟩
      refine ⟨_, ?_, f, g, rfl, h1⟩
      dsimp only
      unfold fm_countVolume_43
      rw [if_pos (nI_le (Nat.le_refl a) (by omega))])
    (s := (nI a, nI b, nI v, 0, (z.1, va_up z.2.1 13 (upd f0 (49 * (pr_N b c - 1)) 1), z.2.2))) ⟨upd f0 (49 * (pr_N b c - 1)) 1, z.2.1 14, by rw [pr_up14]; rfl, fun r hr u hu => by
      unfold pr_B
      by_cases e : r = pr_N b c - 1 ∧ u = 0
      · rw [if_pos e, show 49 * r + u = 49 * (pr_N b c - 1) by omega, pk_us]; rfl
      · rw [if_neg e, pk_un (by omega), p2 _ (by omega)]; rfl⟩
  rw [x1, Option.bind_some]
  dsimp only
  have fin : lm_countVolume_207 5000 (nI v) 0 0 (z.1, va_up (va_up z.2.1 13 f) 14 g, z.2.2) = some (nI (pq_sum (pr_N b c) fun r => pr_B b c a r v), (z.1, va_up (va_up z.2.1 13 f) 14 g, z.2.2)) := by
    unfold lm_countVolume_207
    refine kq_run0 (fun r => (nI v, nI (pq_sum r fun r => pr_B b c a r v), nI r, (z.1, va_up (va_up z.2.1 13 f) 14 g, z.2.2))) (pr_N b c) rfl (by omega) (fun r hr => ?_) ?_
    · dsimp only
      unfold fm_countVolume_207
      dsimp only
      rw [hz.1, if_neg (nI_ge hr (by omega)), show (49 : Int32) * nI r = nI (49 * r) from pk_mul 49 r, nI_add, pq_rdn (v := nI (pr_B b c a r v)) (by dsimp only; rw [va_up_ne _ _ (by decide), va_up_self]; exact x2 r hr v hv) (show 49 * r + v < 3430 by omega), Option.bind_some, nI_add, nI_1]
      rfl
    · dsimp only
      unfold fm_countVolume_207
      dsimp only
      rw [hz.1, if_pos (nI_le (Nat.le_refl _) (by omega))]
  rw [fin]
  refine ⟨_, rfl, fun _ _ => rfl, fun k hk => ?_⟩
  dsimp only
  rw [va_up_ne _ _ (by intro q; exact hk (by simp [q])), va_up_ne _ _ (by intro q; exact hk (by simp [q]))]
