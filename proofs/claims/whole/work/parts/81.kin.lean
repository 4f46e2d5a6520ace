/-! kin, whole -/
theorem pr_fil {p : Nat → Bool} : ∀ (M : List Nat), (M.filter p).length = pq_sum M.length (fun i => if p (M.getD i 0) then 1 else 0)
  | [] => rfl
  | x :: M => by
    rw [List.length_cons, pr_sum_cons, List.filter_cons]
    have ih := pr_fil (p := p) M
    show (if p x = true then x :: M.filter p else M.filter p).length = (if p x then 1 else 0) + pq_sum M.length (fun i => if p (M.getD i 0) then 1 else 0)
    cases p x
    · simp [ih]
    · simp [ih]; omega
/-- how many are ahead of the one at q -/
theorem pm_ahead {z : km_S} {M : List Nat} {K : Int32} {q : Nat} (hm : pr_mk z M) (hq : q < M.length) : lm_kin_39 5000 K (nI q) 0 0 z = some (K, nI q, nI (M.filter (fun y => decide (y < M.getD q 0))).length, z) := by
  have hl := hm.2.1
  obtain ⟨y, y1, y2, y3⟩ := hm.2.2 q hq
  rw [pr_fil]
  unfold lm_kin_39
  refine kq_run0 (fun t => (K, nI q, nI (pq_sum t (fun i => if decide (M.getD i 0 < M.getD q 0) then 1 else 0)), nI t, z)) M.length rfl (by omega) (fun t ht => ?_) ?_
  · obtain ⟨x, x1, x2, x3⟩ := hm.2.2 t ht
    dsimp only
    unfold fm_kin_39 fm_kin_65
    rw [hm.1, if_neg (nI_ge ht (by omega)), pm_isAhead (by omega) (by omega) x1 y1 x2 y2, Option.bind_some, x3, y3, pq_sum, nI_1]
    dsimp only
    cases decide (M.getD t 0 < M.getD q 0)
    · rw [if_pos (show pq_b false = 0 from rfl), Int32.add_zero]; rfl
    · rw [if_neg (show ¬ pq_b true = 0 by decide), nI_1]; rfl
  · dsimp only
    unfold fm_kin_39
    rw [hm.1, if_pos (nI_le (Nat.le_refl _) (by omega))]
/-- the loop over all kin -/
theorem pm_kinFind {z : km_S} {L M : List Nat} {k : Nat} (hk31 : k < 2 ^ 31) (hm : pr_mk z M) (hL : L.Pairwise (· < ·)) (hM : M.Nodup) (hs : ∀ y, y ∈ M ↔ y ∈ L) :
    (k < L.length → ∃ q, q < M.length ∧ M.getD q 0 = L.getD k 0 ∧ lm_kin_25 5000 (nI k) 0 z = some (.inl (nI q, z))) ∧ (L.length ≤ k → lm_kin_25 5000 (nI k) 0 z = some (.inr z)) := by
  have hl := hm.2.1
  have len := pr_len_eq (pr_sorted_nodup hL) hM hs
  -- where one stands in the order
  have pos : ∀ q, q < M.length → ∃ i, i < L.length ∧ M.getD q 0 = L.getD i 0 ∧ (M.filter (fun y => decide (y < M.getD q 0))).length = i := by
    intro q hq
    have hin : M.getD q 0 ∈ L := (hs _).mp (by rw [pr_gD hq]; exact List.getElem_mem hq)
    obtain ⟨i, hi, ei⟩ := List.mem_iff_getElem.mp hin
    have e : M.getD q 0 = L.getD i 0 := by rw [pr_gD hi, ei]
    exact ⟨i, hi, e, by rw [e]; exact pr_count hL hM hs hi⟩
  have stp : ∀ q, q < M.length → fm_kin_25 (nI k) (nI q) z = if (M.filter (fun y => decide (y < M.getD q 0))).length = k then some (.inr (.inl (nI q, z))) else some (.inl (nI k, nI (q + 1), z)) := by
    intro q hq
    obtain ⟨i, hi, _, ei⟩ := pos q hq
    unfold fm_kin_25
    rw [hm.1, if_neg (nI_ge hq (by omega)), pm_ahead hm hq, Option.bind_some]
    dsimp only
    rw [nI_1]
    by_cases c : (M.filter (fun y => decide (y < M.getD q 0))).length = k
    · rw [if_pos (by rw [c]), if_pos c]
    · rw [if_neg (mt (nI_eq (by omega) hk31).mp c), if_neg c]
  refine ⟨fun hk => ?_, fun hk => ?_⟩
  · have hin : L.getD k 0 ∈ M := (hs _).mpr (by rw [pr_gD hk]; exact List.getElem_mem hk)
    obtain ⟨q, hq, eq⟩ := List.mem_iff_getElem.mp hin
    have eq' : M.getD q 0 = L.getD k 0 := by rw [pr_gD hq, eq]
    refine ⟨q, hq, eq', ?_⟩
    unfold lm_kin_25
    refine kq_run0 (fun t => (nI k, nI t, z)) q rfl (by omega) (fun t ht => ?_) ?_
    · dsimp only
      rw [stp t (by omega), if_neg]
      intro c
      obtain ⟨i, hi, e1, e2⟩ := pos t (by omega)
      have : i = k := e2.symm.trans c
      subst this
      have e3 : M.getD t 0 = M.getD q 0 := e1.trans eq'.symm
      rw [pr_gD (show t < M.length by omega), pr_gD hq] at e3
      have := (List.pairwise_iff_getElem.mp hM) t q (by omega) hq ht
      exact this e3
    · dsimp only
      rw [stp q hq, if_pos]
      rw [eq']; exact pr_count hL hM hs hk
  · unfold lm_kin_25
    refine kq_run0 (fun t => (nI k, nI t, z)) M.length rfl (by omega) (fun t ht => ?_) ?_
    · dsimp only
      rw [stp t ht, if_neg]
      intro c
      obtain ⟨i, hi, e1, e2⟩ := pos t ht
      omega
    · dsimp only
      unfold fm_kin_25
      rw [hm.1, if_pos (nI_le (Nat.le_refl _) (by omega))]
/-- kin(heap, k) -/
theorem pq_s16 (cA : Nat → ClassId) : kl_s16 cA (pq_Inv cA) := by
  intro zx P zm hI a1 a2
  have hp := hI.2.2.2.1
  unfold vc_kin fm_kin
  rcases pq_place hp a1 with ⟨q1, q2⟩ | ⟨p, ad, a, b, c, h, bx, hp4, rfl, q1, q2, q3, H, e1, e2, hb⟩
  · rw [q2]
    exact ⟨_, q1, fun _ => ⟨_, rfl, rfl, hI⟩, fun a3 e => by cases e⟩
  refine ⟨_, q1, fun e => (by cases e), fun a3 e => ?_⟩
  cases e
  rw [q2, Option.bind_some, if_neg kq_10]
  dsimp only
  refine ⟨fun c1 => ?_, fun c1 => ?_⟩
  · obtain ⟨k, hk31, rfl⟩ := nI_of (Int32.not_lt.mpr c1)
    rw [if_pos c1, show (20 : Int32) * nI p = nI (20 * p) from pk_mul 20 p]
    have hx : pr_va (a, b, c, h) := H
    obtain ⟨z', M, l1, l2, l3, l4, l5⟩ := pm_laysKin (x := (a, b, c, h)) hx hb (show 20 * p + 20 ≤ 80 by omega)
    rw [l1, Option.bind_some]
    refine pr_gather hx ⟨bx, e1, e2⟩ fun zx' Q L g1 g2 g3 g4 g5 => ?_
    have hI1 : pq_Inv cA zx' (P ++ Q) z' := pr_Inv_m (pr_xf_Inv g1 (pq_Inv_app Q hI)) l5 (by decide) (by intro k hk; simp; omega)
    have same : ∀ y, y ∈ M ↔ y ∈ L := fun y => (l4 y).trans (g5 y).symm
    obtain ⟨f1, f2⟩ := pm_kinFind hk31 l2 g3 l3 same
    refine ⟨fun c2 => ?_, fun c2 => ?_⟩
    · have : L.length ≤ k := (nI_leI (by omega) hk31).mp c2
      rw [f2 this]
      exact ⟨_, rfl, rfl, hI1⟩
    · have hk : k < L.length := by
        have := mt (nI_leI (a := L.length) (b := k) (by omega) hk31).mpr c2
        omega
      obtain ⟨q, hq, eq, ef⟩ := f1 hk
      obtain ⟨ad', y, m1, m2, ⟨bx', m3, m4⟩, m5⟩ := g2.2 k hk
      refine ⟨(some ad', zx'), ?_, fun e => (by cases e), fun a9 e => ?_⟩
      · unfold fk_member fk_member_22
        rw [if_neg (nI_pos hk31), g2.1, if_neg (nI_ge hk (by omega)), kq_xrr (show k < 12 by omega) kq_kxR, Option.bind_some, m1]
      · cases e
        obtain ⟨w, w1, w2, w3⟩ := l2.2.2 q hq
        have ek : pr_ky w = pr_ky y := by rw [w3, m5, eq]
        obtain ⟨d1, d2, d3, d4⟩ := (pr_ky_eq w1 m2).mp ek
        obtain ⟨K, hK⟩ := pr_kx_ex m2
        have ha := m2.1
        have hK' : pr_kx w.2.1 w.2.2.1 w.1 w.2.2.2 K := by
          rw [d1, d2, d3]
          intro i hi
          refine ⟨(hK i hi).1, fun j hj => ?_⟩
          rw [(hK i hi).2 j hj, d4 _ (by omega)]
        have hl := l2.2.1
        obtain ⟨z2, n1, n2, n3, n4⟩ := pm_numberOf (k0 := 9) w1 w2 (show 20 * q + 20 ≤ 260 by omega) (by decide) (by decide) hK'
        refine pr_numberOfC hI1 m2 m3 m4 hK fun zx2 P2 c1 c2 c3 => ?_
        rw [ef]
        dsimp only [kj_se, Option.bind_some]
        rw [show (20 : Int32) * nI q = nI (20 * q) from pk_mul 20 q, n1, d1, d2, d3]
        exact ⟨_, rfl, rfl, pr_Inv_m c3 n3 (by decide) (by intro k hk; simp; omega)⟩
  · rw [if_neg c1]; exact ⟨_, rfl, rfl, hI⟩
/-- whole(heap, what) -/
theorem pq_s12 (cA : Nat → ClassId) : kl_s12 cA (pq_Inv cA) := by
  intro zx P zm hI a1 a2
  have hp := hI.2.2.2.1
  unfold vc_whole fm_whole
  rcases pq_place hp a1 with ⟨q1, q2⟩ | ⟨p, ad, a, b, c, h, bx, hp4, rfl, q1, q2, q3, H, e1, e2, hb⟩
  · rw [q2]
    exact ⟨_, q1, fun _ => ⟨_, rfl, rfl, hI⟩, fun a3 e => by cases e⟩
  refine ⟨_, q1, fun e => (by cases e), fun a3 e => ?_⟩
  cases e
  have hl : 20 * p + 20 ≤ km_len 0 := by show 20 * p + 20 ≤ 80; omega
  rw [q2, Option.bind_some, if_neg kq_10]
  dsimp only
  rw [show (20 : Int32) * nI p = nI (20 * p) from pk_mul 20 p]
  have e20 : nI (20 * p) + 1 = nI (20 * p + 1) := nI_add _ 1
  rw [e20]
  refine ⟨fun c0 => ?_, fun c0 => ?_⟩
  · refine ⟨_, e1, _, e2, ?_⟩
    rw [if_pos c0, c0, show nI (20 * p + 1) + 0 = nI (20 * p + 1) from nI_add _ 0, pq_rda hb hl]
    exact ⟨_, rfl, rfl, hI⟩
  rw [if_neg c0]
  refine ⟨fun c1 => ?_, fun c1 => ?_⟩
  · refine ⟨_, e1, _, e2, ?_⟩
    rw [if_pos c1, c1, show nI (20 * p + 1) + 1 = nI (20 * p + 2) from nI_add _ 1, pq_rdb hb hl]
    exact ⟨_, rfl, rfl, hI⟩
  rw [if_neg c1]
  refine ⟨fun c2 => ?_, fun c2 => ?_⟩
  · refine ⟨_, e1, _, e2, ?_⟩
    rw [if_pos c2, c2, show nI (20 * p + 1) + 2 = nI (20 * p + 3) from nI_add _ 2, pq_rdc hb hl]
    exact ⟨_, rfl, rfl, hI⟩
  rw [if_neg c2]
  refine ⟨fun c3 => ?_, fun c3 => ?_⟩
  · refine ⟨_, e1, nI (pq_sum 16 h), by unfold fh_volume; rw [pq_volume (pq_hv_h H)]; rfl, ?_⟩
    rw [if_pos c3, pm_volume hb.2.2.2.2 hl]
    exact ⟨_, rfl, rfl, hI⟩
  rw [if_neg c3]
  refine ⟨fun c4 => ?_, fun c4 => ?_⟩
  · obtain ⟨K, hK⟩ := pr_kx_ex H
    obtain ⟨z', n1, n2, n3, n4⟩ := pm_numberOf (k0 := 0) H hb hl (by decide) (by decide) hK
    rw [if_pos c4, n1]
    exact pr_numberOfC hI H e1 e2 hK fun zx2 P2 d1 d2 d3 => ⟨_, rfl, rfl, pr_Inv_m d3 n3 (by decide) (by intro k hk; simp; omega)⟩
  rw [if_neg c4]
  refine ⟨fun c5 => ?_, fun c5 => ?_⟩
  · refine ⟨_, e1, _, e1, _, e2, _, pq_trace H, ?_⟩
    rw [if_pos c5, pm_trace hb.2.2.2.2 hl]
    exact ⟨_, rfl, rfl, hI⟩
  rw [if_neg c5]
  refine ⟨fun c6 => ?_, fun c6 => ?_⟩
  · refine ⟨_, e1, _, e1, _, e2, _, pq_changing true H, ?_⟩
    rw [if_pos c6, if_pos (show a2 = 6 from c6)]
    unfold fm_whole_121
    rw [show fm_corners (nI (20 * p)) 1 zm = _ from pm_corners true H hb hl]
    exact ⟨_, rfl, rfl, hI⟩
  rw [if_neg c6]
  refine ⟨fun c7 => ?_, fun c7 => ?_⟩
  · refine ⟨_, e1, _, e1, _, e2, _, pq_changing false H, ?_⟩
    rw [if_pos c7, if_neg (show ¬ a2 = 6 from c6)]
    unfold fm_whole_121
    rw [show fm_corners (nI (20 * p)) 0 zm = _ from pm_corners false H hb hl]
    exact ⟨_, rfl, rfl, hI⟩
  rw [if_neg c7]
  refine ⟨fun c8 => ?_, fun c8 => ?_⟩
  · obtain ⟨z', s1, s2⟩ := pm_symmetries (k0 := 0) H hb hl (by decide) (by decide)
    refine ⟨_, e1, _, e1, _, e2, _, pq_symmetries H, ?_⟩
    rw [if_pos c8, s1]
    exact ⟨_, rfl, rfl, pr_Inv_m hI (pr_fq_fr s2) (by decide) (by intro k hk; simp; omega)⟩
  rw [if_neg c8]
  refine ⟨fun c9 => ?_, fun c9 => ?_⟩
  · have hx : pr_va (a, b, c, h) := H
    obtain ⟨z', M, l1, l2, l3, l4, l5⟩ := pm_laysKin (x := (a, b, c, h)) hx hb (show 20 * p + 20 ≤ 80 by omega)
    unfold fm_kinOf
    rw [if_pos c9, l1]
    refine pr_gather hx ⟨bx, e1, e2⟩ fun zx' Q L g1 g2 g3 g4 g5 => ?_
    have len := pr_len_eq (pr_sorted_nodup g3) l3 fun y => (l4 y).trans (g5 y).symm
    refine ⟨_, rfl, ?_, pr_Inv_m (pr_xf_Inv g1 (pq_Inv_app Q hI)) l5 (by decide) (by intro k hk; simp; omega)⟩
    dsimp only
    rw [l2.1, len]
  rw [if_neg c9]
  exact ⟨_, rfl, rfl, hI⟩
