/-! places: what stands on one, for both -/
theorem kq_10 : ¬ (1 : Int32) = 0 := by decide
theorem pq_in0 {x : Int32} {n : Nat} (hn : n < 2 ^ 31) : fm_in x 0 (nI n) = if x < 0 ∨ nI n < x then some 0 else some 1 := by
  unfold fm_in
  by_cases c1 : x < 0
  · rw [if_pos c1, if_pos (Or.inl c1)]
  · rw [if_neg c1]
    by_cases c2 : nI n < x
    · rw [if_pos c2, if_pos (Or.inr c2)]
    · rw [if_neg c2, if_neg (not_or.mpr ⟨c1, c2⟩)]
/-- a number among the first n, or not -/
theorem pq_ix (x : Int32) {n : Nat} (h0 : 0 < n) (hn : n < 2 ^ 31) : ((x < 0 ∨ nI n ≤ x) ∧ (x < 0 ∨ nI (n - 1) < x)) ∨ ∃ j, j < n ∧ x = nI j := by
  rcases pk_ix x hn with q | q | q
  · exact Or.inl ⟨Or.inl q, Or.inl q⟩
  · refine Or.inl ⟨Or.inr q, Or.inr ?_⟩
    exact Int32.lt_of_lt_of_le (nI_lt (by omega) hn) q
  · exact Or.inr q
theorem pq_isPlace (x : Int32) : (fc_isPlace x = some 0 ∧ fm_isPlace x = some 0) ∨ ∃ p, p < 4 ∧ x = nI p ∧ fc_isPlace x = some 1 ∧ fm_isPlace x = some 1 := by
  unfold fc_isPlace fm_isPlace
  rw [show (3 : Int32) = nI 3 from rfl, pq_in0 (by omega)]
  rcases pq_ix x (n := 4) (by omega) (by omega) with q | ⟨p, hp, rfl⟩
  · refine Or.inl ⟨?_, ?_⟩
    · by_cases c1 : x < 0
      · rw [if_pos c1]
      · rw [if_neg c1, if_pos (show (4 : Int32) ≤ x from q.1.resolve_left c1)]
    · rw [if_pos q.2, Option.bind_some, if_pos (Or.inl rfl)]
  · refine Or.inr ⟨p, hp, rfl, ?_, ?_⟩
    · rw [if_neg (nI_pos (by omega)), if_neg (show ¬ (4 : Int32) ≤ nI p from nI_ge (b := 4) hp (by omega))]
    · rw [if_neg (not_or.mpr ⟨nI_pos (by omega), nI_nlt (by omega) (by omega)⟩), Option.bind_some, if_pos (Or.inr rfl)]
theorem pq_blk_some {P : va_W} {ad : Nat} {f : Nat → Int32} {o : Nat} (h : pq_blk P (some ad) f o) : ∃ (a b c : Nat) (h : Nat → Nat) (bx : Nat), pq_hv a b c h ∧ kx_hp P ad = some (bx, lN (pq_enc h 16)) ∧ kx_bx P bx = some (nI a, nI b, nI c) ∧ pq_mb f o a b c h := by
  rcases h with ⟨h1, _⟩ | ⟨a, b, c, h, ad', bx, h1, h2, h3, h4, h5, h6, h7, h8, h9⟩
  · exact absurd h1 (by simp)
  · cases h1
    exact ⟨a, b, c, h, bx, h2, h3, h4, h5, h6, h7, h8, h9⟩
theorem pq_blk_mk {P : va_W} {ad a b c bx o : Nat} {h : Nat → Nat} {f : Nat → Int32} (h1 : pq_hv a b c h) (h2 : kx_hp P ad = some (bx, lN (pq_enc h 16))) (h3 : kx_bx P bx = some (nI a, nI b, nI c)) (h4 : pq_mb f o a b c h) : pq_blk P (some ad) f o :=
  Or.inr ⟨a, b, c, h, ad, bx, rfl, h1, h2, h3, h4.1, h4.2.1, h4.2.2.1, h4.2.2.2.1, h4.2.2.2.2⟩
theorem pq_place {P : va_W} {zx : kx_S} {zm : km_S} (hp : ∀ k, k < 4 → pq_blk P (zx.2.2.2 0 k) (zm.2.1 0) (20 * k)) (x : Int32) :
    (fc_heapAt P x zx = some (none, zx) ∧ fm_isHeap x zm = some (0, zm)) ∨ ∃ (p ad a b c : Nat) (h : Nat → Nat) (bx : Nat), p < 4 ∧ x = nI p ∧ fc_heapAt P x zx = some (some ad, zx) ∧ fm_isHeap x zm = some (1, zm) ∧ zx.2.2.2 0 p = some ad ∧ pq_hv a b c h ∧ kx_hp P ad = some (bx, lN (pq_enc h 16)) ∧ kx_bx P bx = some (nI a, nI b, nI c) ∧ pq_mb (zm.2.1 0) (20 * p) a b c h := by
  unfold fc_heapAt fm_isHeap fc_heapAt_17
  rcases pq_isPlace x with ⟨q1, q2⟩ | ⟨p, hp4, rfl, q1, q2⟩
  · rw [q1, q2, Option.bind_some, Option.bind_some, if_pos rfl, if_pos rfl]
    exact Or.inl ⟨rfl, rfl⟩
  · rw [q1, q2, Option.bind_some, Option.bind_some, if_neg kq_10, if_neg (by decide), kq_xrr (show p < kx_lenR 0 from hp4) kq_kxR, Option.bind_some, show (20 : Int32) * nI p = nI (20 * p) from pk_mul 20 p, kq_rd (show 20 * p < 80 by omega) kq_km, Option.bind_some]
    have hb := hp p hp4
    cases e : zx.2.2.2 0 p with
    | none =>
      rw [e] at hb
      rcases hb with ⟨_, h2⟩ | ⟨a, b, c, h, ad', bx, h1, _⟩
      · refine Or.inl ⟨rfl, ?_⟩
        have := h2 0 (by omega)
        rw [Nat.add_zero] at this
        rw [this, if_neg (by decide)]
      · exact absurd h1 (by simp)
    | some ad =>
      rw [e] at hb
      obtain ⟨a, b, c, h, bx, h1, h2, h3, h4⟩ := pq_blk_some hb
      refine Or.inr ⟨p, ad, a, b, c, h, bx, hp4, rfl, rfl, ?_, e, h1, h2, h3, h4⟩
      rw [if_pos h4.1]
theorem pq_spot {zm : km_S} {p a b c : Nat} {h : Nat → Nat} (hp : p < 4) (H : pq_hv a b c h) (hb : pq_mb (zm.2.1 0) (20 * p) a b c h) (hi : fm_isHeap (nI p) zm = some (1, zm)) (x y : Int32) :
    (fx_hasCell (nI a) (nI b) (nI c) x y = some 0 ∧ fm_isSpot (nI p) x y zm = some (0, zm)) ∨ ∃ i j, i < a ∧ j < b ∧ x = nI i ∧ y = nI j ∧ fx_hasCell (nI a) (nI b) (nI c) x y = some 1 ∧ fm_isSpot (nI p) x y zm = some (1, zm) := by
  have ha := H.1; have hb4 := H.2.1
  have hl : 20 * p + 20 ≤ km_len 0 := by show 20 * p + 20 ≤ 80; omega
  unfold fx_hasCell fm_isSpot
  rw [hi, Option.bind_some, if_neg kq_10, show (20 : Int32) * nI p = nI (20 * p) from pk_mul 20 p, show nI (20 * p) + 1 = nI (20 * p + 1) from nI_add _ 1, pq_rda hb hl, Option.bind_some, show nI (20 * p) + 2 = nI (20 * p + 2) from nI_add _ 2, pq_rdb hb hl, show nI a - 1 = nI (a - 1) from pk_sub (b := 1) (by omega), pq_in0 (by omega), Option.bind_some, show nI b - 1 = nI (b - 1) from pk_sub (b := 1) (by omega), pq_in0 (by omega)]
  rcases pq_ix x (n := a) (by omega) (by omega) with q | ⟨i, hia, rfl⟩
  · refine Or.inl ⟨?_, ?_⟩
    · by_cases c1 : x < 0
      · rw [if_pos c1]
      · rw [if_neg c1, if_pos (q.1.resolve_left c1)]
    · rw [if_pos q.2, Option.bind_some, if_pos rfl]
  · rw [if_neg (nI_pos (by omega)), if_neg (nI_ge hia (by omega)), if_neg (not_or.mpr ⟨nI_pos (by omega), nI_nlt (by omega) (by omega)⟩), Option.bind_some, if_neg kq_10]
    rcases pq_ix y (n := b) (by omega) (by omega) with q | ⟨j, hjb, rfl⟩
    · refine Or.inl ⟨?_, ?_⟩
      · by_cases c1 : y < 0
        · rw [if_pos c1]
        · rw [if_neg c1, if_pos (q.1.resolve_left c1)]
      · rw [if_pos q.2, Option.bind_some, if_pos rfl]
    · refine Or.inr ⟨i, j, hia, hjb, rfl, rfl, ?_, ?_⟩
      · rw [if_neg (nI_pos (by omega)), if_neg (nI_ge hjb (by omega))]
      · rw [if_neg (not_or.mpr ⟨nI_pos (by omega), nI_nlt (by omega) (by omega)⟩), Option.bind_some, if_neg kq_10]
/-- height(heap, i, j) -/
theorem pq_s11 (cA : Nat → ClassId) : kl_s11 cA (pq_Inv cA) := by
  intro zx P zm hI a1 a2 a3
  have hp := hI.2.2.2.1
  unfold fc_height fm_height
  rcases pq_place hp a1 with ⟨q1, q2⟩ | ⟨p, ad, a, b, c, h, bx, hp4, rfl, q1, q2, _, H, e1, e2, hb⟩
  · rw [q1, Option.bind_some]
    have : fm_isSpot a1 a2 a3 zm = some (0, zm) := by unfold fm_isSpot; rw [q2]; rfl
    rw [this]
    exact ⟨_, rfl, _, rfl, rfl, hI⟩
  · rw [q1, Option.bind_some]
    dsimp only [kx_on]
    rw [e1, Option.bind_some, e2, Option.bind_some]
    dsimp only
    rcases pq_spot hp4 H hb q2 a2 a3 with ⟨r1, r2⟩ | ⟨i, j, hi, hj, rfl, rfl, r1, r2⟩
    · rw [r1, r2]
      exact ⟨_, rfl, _, rfl, rfl, hI⟩
    · have ha := H.1; have hb4 := H.2.1
      rw [r1, r2]
      simp only [Option.bind_some, if_neg kq_10, e1, e2]
      rw [pq_at, Option.bind_some, show (20 : Int32) * nI p = nI (20 * p) from pk_mul 20 p, nI_add, pq_rdh hb (by show 20 * p + 20 ≤ 80; omega) (4 * i + j) (by omega) (by omega), pq_level H (by omega) (by omega), pq_g_in hi hj]
      exact ⟨_, rfl, _, rfl, rfl, hI⟩
/-! path -/
theorem pq_letter {a b c : Nat} {h : Nat → Nat} (H : pq_hv a b c h) {i k : Nat} (hi : i < a) (hk : k < b + c) : ∃ j, j ≤ b ∧ (∀ j', j' < j → j' + c - h (4 * i + j') < k) ∧ (∀ j', j ≤ j' → j' < b → k ≤ j' + c - h (4 * i + j')) ∧ fx_letter (nI a) (nI b) (nI c) (lN (pq_enc h 16)) (nI i) (nI k) = some (if j < b ∧ j + c - h (4 * i + j) = k then 101 else 110) := by
  have ha := H.1; have hb := H.2.1; have hc := H.2.2.1
  have hcc : ∀ j, j < 4 → h (4 * i + j) ≤ c := fun j hj => (H.2.2.2.2 i j (by omega) hj).1
  have hm : ∀ j, j + 1 < 4 → h (4 * i + (j + 1)) ≤ h (4 * i + j) := fun j hj => (H.2.2.2.2 i j (by omega) (by omega)).2.2.2 hj
  have flat : ∀ j y, j ≤ b → y ≤ c → fx_isFlat (nI a) (nI b) (nI c) (lN (pq_enc h 16)) (nI i) (nI j) (nI y) = some (pq_b (decide (j < b ∧ h (4 * i + j) = y))) := by
    intro j y hj hy
    unfold fx_isFlat
    by_cases c1 : b ≤ j
    · rw [if_pos (nI_le c1 (by omega)), decide_eq_false (by omega)]; rfl
    · have := hcc j (by omega)
      rw [if_neg (nI_ge (by omega) (by omega)), pq_level H (by omega) (by omega), Option.bind_some, pq_g_in hi (by omega)]
      by_cases c2 : h (4 * i + j) = y
      · rw [if_pos (by rw [c2]), decide_eq_true (by omega)]; rfl
      · rw [if_neg (mt (nI_eq (by omega) (by omega)).mp c2), decide_eq_false (by omega)]; rfl
  unfold fx_letter lx_letter_29
  rw [nI_add, if_pos (nI_lt hk (by omega))]
  obtain ⟨r, r1, j, y, rfl, s1, s2, s3, s4⟩ := kq_it0 (step := fun (s : (Int64 × Int32 × Int32 × Int32 × Int32 × Int32)) => fx_letter_29 (nI a) (nI b) (nI c) (s.1) (s.2.1) (s.2.2.1) (s.2.2.2.1) (s.2.2.2.2.1) (s.2.2.2.2.2))
    (fun n s => ∃ j y, s = (lN (pq_enc h 16), nI i, nI k, nI y, nI j, nI n) ∧ j ≤ b ∧ y + n = j + c ∧ (∀ j', j' < j → j' + c - h (4 * i + j') < n) ∧ (∀ j', j ≤ j' → j' < b → n ≤ j' + c - h (4 * i + j')))
    (fun r => ∃ j y, r = (lN (pq_enc h 16), nI i, nI y, nI j) ∧ j ≤ b ∧ y + k = j + c ∧ (∀ j', j' < j → j' + c - h (4 * i + j') < k) ∧ (∀ j', j ≤ j' → j' < b → k ≤ j' + c - h (4 * i + j'))) k (by omega) (by
      rintro n s hn ⟨j, y, rfl, s1, s2, s3, s4⟩
      dsimp only
      unfold fx_letter_29 fx_letter_58
      have hjn : j ≤ n := by
        rcases Nat.eq_zero_or_pos j with e | e
        · omega
        · have := s3 (j - 1) (by omega); have := hcc (j - 1) (by omega); omega
      rw [if_neg (nI_ge hn (by omega)), flat j y s1 (by omega), Option.bind_some, nI_1, nI_1]
      by_cases c1 : j < b ∧ h (4 * i + j) = y
      · rw [decide_eq_true c1, if_neg (by decide)]
        refine ⟨_, rfl, j + 1, y, rfl, by omega, by omega, fun j' hj' => ?_, fun j' h1 h2 => ?_⟩
        · by_cases e : j' = j
          · subst e; omega
          · have := s3 j' (by omega); omega
        · have h3 := s4 j' (by omega) h2
          have h4 := pq_hv_m2 H (i := i) (j := j) (k := j') (by omega) (by omega) (by omega)
          have := hcc j' (by omega)
          omega
      · rw [decide_eq_false c1, if_pos (show pq_b false = 0 from rfl)]
        have hy : 0 < y := by
          by_cases e : j < b
          · have := s4 j (Nat.le_refl j) e; have := hcc j (by omega); omega
          · omega
        obtain ⟨y, rfl⟩ : ∃ w, y = w + 1 := ⟨y - 1, by omega⟩
        rw [pk_m1]
        refine ⟨_, rfl, j, y, rfl, s1, by omega, fun j' hj' => by have := s3 j' hj'; omega, fun j' h1 h2 => ?_⟩
        have h3 := s4 j (Nat.le_refl j) (by omega)
        have h4 := pq_hv_m2 H (i := i) (j := j) (k := j') (by omega) (by omega) (by omega)
        have := hcc j' (by omega); have := hcc j (by omega)
        by_cases e : j' = j
        · subst e; omega
        · omega) (by
      rintro s ⟨j, y, rfl, s1, s2, s3, s4⟩
      refine ⟨_, ?_, j, y, rfl, s1, s2, s3, s4⟩
      dsimp only
      unfold fx_letter_29
      rw [if_pos (nI_le (Nat.le_refl k) (by omega))])
    (s := (lN (pq_enc h 16), nI i, nI k, nI c, 0, 0)) ⟨0, c, rfl, by omega, by omega, fun j' h1 => absurd h1 (by omega), fun j' _ _ => by omega⟩
  refine ⟨j, s1, s3, s4, ?_⟩
  rw [r1, Option.bind_some]
  dsimp only
  have hjn : j ≤ k := by
    rcases Nat.eq_zero_or_pos j with e | e
    · omega
    · have := s3 (j - 1) (by omega); have := hcc (j - 1) (by omega); omega
  rw [flat j y s1 (by omega), Option.bind_some]
  by_cases c1 : j < b ∧ h (4 * i + j) = y
  · rw [decide_eq_true c1, if_neg (by decide), if_pos (by omega)]
  · rw [decide_eq_false c1, if_pos (show pq_b false = 0 from rfl), if_neg]
    intro q
    have := hcc j (by omega)
    omega
/-- path(heap, i, k) -/
theorem pq_s13 (cA : Nat → ClassId) : kl_s13 cA (pq_Inv cA) := by
  intro zx P zm hI a1 a2 a3
  have hp := hI.2.2.2.1
  unfold fc_path fm_path
  rcases pq_place hp a1 with ⟨q1, q2⟩ | ⟨p, ad, a, b, c, h, bx, hp4, rfl, q1, q2, _, H, e1, e2, hb⟩
  · rw [q1, q2, Option.bind_some, Option.bind_some, if_pos rfl]
    exact ⟨_, rfl, _, rfl, rfl, hI⟩
  · have ha := H.1; have hb4 := H.2.1; have hc4 := H.2.2.1
    have hl : 20 * p + 20 ≤ km_len 0 := by show 20 * p + 20 ≤ 80; omega
    rw [q1, q2, Option.bind_some, Option.bind_some, if_neg kq_10, show (20 : Int32) * nI p = nI (20 * p) from pk_mul 20 p, show nI (20 * p) + 1 = nI (20 * p + 1) from nI_add _ 1, pq_rda hb hl, Option.bind_some, show nI a - 1 = nI (a - 1) from pk_sub (b := 1) (by omega), pq_in0 (by omega)]
    dsimp only [kx_on]
    rw [e1, Option.bind_some, e2, Option.bind_some]
    dsimp only
    rcases pq_ix a2 (n := a) (by omega) (by omega) with q | ⟨i, hia, rfl⟩
    · rw [if_pos q.2]
      simp only [Option.bind_some, if_true]
      by_cases c1 : a2 < 0
      · rw [if_pos c1]; exact ⟨_, rfl, _, rfl, rfl, hI⟩
      · rw [if_neg c1, if_pos (q.1.resolve_left c1)]; exact ⟨_, rfl, _, rfl, rfl, hI⟩
    · rw [if_neg (nI_pos (by omega)), if_neg (nI_ge hia (by omega)), if_neg (not_or.mpr ⟨nI_pos (by omega), nI_nlt (by omega) (by omega)⟩)]
      simp only [Option.bind_some, if_neg kq_10]
      by_cases c1 : 0 ≤ a3
      · obtain ⟨k, hk31, rfl⟩ := nI_of (Int32.not_lt.mpr c1)
        simp only [if_pos c1, Option.bind_some, e2]
        rw [show nI (20 * p) + 2 = nI (20 * p + 2) from nI_add _ 2, pq_rdb hb hl, Option.bind_some, show nI (20 * p) + 3 = nI (20 * p + 3) from nI_add _ 3, pq_rdc hb hl, Option.bind_some]
        unfold lm_path_67
        have hcc : ∀ j, j < 4 → h (4 * i + j) ≤ c := fun j hj => (H.2.2.2.2 i j (by omega) hj).1
        have stp : ∀ j, j < b → fm_path_67 (nI i) (nI k) (nI (20 * p)) (nI b) (nI c) (nI j) zm = if j + c - h (4 * i + j) = k then some (.inr (.inl zm)) else some (.inl (nI i, nI k, nI (20 * p), nI b, nI c, nI (j + 1), zm)) := by
          intro j hj
          have := hcc j (by omega)
          unfold fm_path_67
          rw [if_neg (nI_ge hj (by omega)), pq_at, Option.bind_some, nI_add, pq_rdh hb hl (4 * i + j) (by omega) (by omega), Option.bind_some, nI_add, pk_sub (by omega), nI_1]
          by_cases c2 : j + c - h (4 * i + j) = k
          · rw [if_pos (by rw [c2]), if_pos c2]
          · rw [if_neg (fun q => c2 ((nI_eq (by omega) (by omega)).mp q).symm), if_neg c2]
        have fin : fm_path_67 (nI i) (nI k) (nI (20 * p)) (nI b) (nI c) (nI b) zm = some (.inr (.inr (nI k, nI b, nI c, zm))) := by
          unfold fm_path_67
          rw [if_pos (nI_le (Nat.le_refl b) (by omega))]
        by_cases c2 : k < b + c
        · obtain ⟨j, s1, s2, s3, s4⟩ := pq_letter H hia c2
          rw [s4, Option.bind_some]
          have mono : ∀ j', j < j' → j' < b → j + c - h (4 * i + j) < j' + c - h (4 * i + j') := by
            intro j' h1 h2
            have := pq_hv_m2 H (i := i) (j := j) (k := j') (by omega) (by omega) (by omega)
            have := hcc j (by omega)
            omega
          by_cases c3 : j < b ∧ j + c - h (4 * i + j) = k
          · rw [if_pos c3, kq_run0 (s0 := (nI i, nI k, nI (20 * p), nI b, nI c, 0, zm)) (fun n => (nI i, nI k, nI (20 * p), nI b, nI c, nI n, zm)) j (r := .inl zm) rfl (by omega) (fun n hn => by
              dsimp only; rw [stp n (by omega), if_neg (by have := s2 n hn; omega)]) (by dsimp only; rw [stp j c3.1, if_pos c3.2]), Option.bind_some]
            exact ⟨_, rfl, _, rfl, rfl, hI⟩
          · rw [if_neg c3, kq_run0 (s0 := (nI i, nI k, nI (20 * p), nI b, nI c, 0, zm)) (fun n => (nI i, nI k, nI (20 * p), nI b, nI c, nI n, zm)) b (r := .inr (nI k, nI b, nI c, zm)) rfl (by omega) (fun n hn => by
              dsimp only; rw [stp n hn, if_neg]
              intro q
              by_cases e : n < j
              · have := s2 n e; omega
              · by_cases e' : n = j
                · subst e'; exact c3 ⟨hn, q⟩
                · have := mono n (by omega) hn; have := s3 j (Nat.le_refl j) (by omega); omega) fin, Option.bind_some]
            dsimp only [kj_se]
            rw [nI_add, if_neg (nI_ge c2 (by omega))]
            exact ⟨_, rfl, _, rfl, rfl, hI⟩
        · rw [kq_run0 (s0 := (nI i, nI k, nI (20 * p), nI b, nI c, 0, zm)) (fun n => (nI i, nI k, nI (20 * p), nI b, nI c, nI n, zm)) b (r := .inr (nI k, nI b, nI c, zm)) rfl (by omega) (fun n hn => by
              dsimp only; rw [stp n hn, if_neg (by omega)]) fin, Option.bind_some]
          unfold fx_letter
          dsimp only [kj_se]
          rw [nI_add, if_neg (nI_nlt (by omega) (by omega)), if_pos (nI_le (by omega) (by omega))]
          exact ⟨_, rfl, _, rfl, rfl, hI⟩
      · rw [if_neg c1, if_neg c1]
        exact ⟨_, rfl, _, rfl, rfl, hI⟩
