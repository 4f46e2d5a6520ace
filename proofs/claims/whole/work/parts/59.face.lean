/-! slice -/
theorem pq_d {a b : Nat} {x : Int32} (ha : 1 ≤ a ∧ a ≤ 4) (hb : 1 ≤ b ∧ b ≤ 4) (h1 : ¬ x < 1 - nI a) (h2 : ¬ nI b - 1 < x) : (∃ e, e < b ∧ x = nI e) ∨ ∃ e, 0 < e ∧ e < a ∧ x = - nI e := by
  by_cases c1 : x < 0
  · right
    have q1 : -3 ≤ x.toInt := by
      have : (1 - nI a).toInt ≤ x.toInt := Int.not_lt.mp fun q => h1 (Int32.lt_iff_toInt_lt.mpr q)
      have h : -3 ≤ (1 - nI a).toInt := by
        have : a = 1 ∨ a = 2 ∨ a = 3 ∨ a = 4 := by omega
        rcases this with rfl | rfl | rfl | rfl <;> decide
      omega
    have q2 : x.toInt < 0 := Int32.lt_iff_toInt_lt.mp c1
    have q3 : (1 - nI a).toInt ≤ x.toInt := Int.not_lt.mp fun q => h1 (Int32.lt_iff_toInt_lt.mpr q)
    have q4 : (1 - nI a).toInt = 1 - (a : Int) := by
      have : a = 1 ∨ a = 2 ∨ a = 3 ∨ a = 4 := by omega
      rcases this with rfl | rfl | rfl | rfl <;> decide
    have : x.toInt = -1 ∨ x.toInt = -2 ∨ x.toInt = -3 := by omega
    rcases this with e | e | e
    · exact ⟨1, by omega, by omega, Int32.toInt_inj.mp (by rw [e]; decide)⟩
    · exact ⟨2, by omega, by omega, Int32.toInt_inj.mp (by rw [e]; decide)⟩
    · exact ⟨3, by omega, by omega, Int32.toInt_inj.mp (by rw [e]; decide)⟩
  · left
    obtain ⟨j, hj, rfl⟩ := nI_of c1
    refine ⟨j, ?_, rfl⟩
    rw [show nI b - 1 = nI (b - 1) from pk_sub (b := 1) (by omega), nI_ltI (by omega) hj] at h2
    omega
/-- slice(heap, d, k) -/
theorem pq_s14 (cA : Nat → ClassId) : kl_s14 cA (pq_Inv cA) := by
  intro zx P zm hI a1 a2 a3
  have hp := hI.2.2.2.1
  unfold fc_slice fm_slice
  rcases pq_place hp a1 with ⟨q1, q2⟩ | ⟨p, ad, a, b, c, h, bx, hp4, rfl, q1, q2, _, H, e1, e2, hb⟩
  · rw [q1, q2, Option.bind_some, Option.bind_some, if_pos rfl]
    exact ⟨_, rfl, _, rfl, rfl, hI⟩
  · have ha := H.1; have hb4 := H.2.1; have hc4 := H.2.2.1
    have hl : 20 * p + 20 ≤ km_len 0 := by show 20 * p + 20 ≤ 80; omega
    rw [q1, q2, Option.bind_some, Option.bind_some]
    simp only [kx_on, e1, e2, Option.bind_some, if_neg kq_10]
    rw [show (20 : Int32) * nI p = nI (20 * p) from pk_mul 20 p, show nI (20 * p) + 1 = nI (20 * p + 1) from nI_add _ 1, pq_rda hb hl, Option.bind_some, show nI (20 * p) + 2 = nI (20 * p + 2) from nI_add _ 2, pq_rdb hb hl, Option.bind_some]
    unfold fm_in
    by_cases c0 : 0 ≤ a3
    · rw [if_pos c0, if_pos c0]
      by_cases c1 : a2 < 1 - nI a
      · rw [if_pos c1, if_pos c1]
        exact ⟨_, rfl, _, rfl, rfl, hI⟩
      rw [if_neg c1, if_neg c1]
      by_cases c2 : nI b - 1 < a2
      · rw [if_pos c2, if_pos c2]
        exact ⟨_, rfl, _, rfl, rfl, hI⟩
      rw [if_neg c2, if_neg c2, Option.bind_some, if_neg kq_10]
      obtain ⟨k, hk31, rfl⟩ := nI_of (Int32.not_lt.mpr c0)
      -- both, once row i and column j are said
      have fin : ∀ (i j : Nat) (X : Int32), i < 100 → j < 100 → X = nI i → X + a2 = nI j → k < 4 → ∀ (X' : Int32), X' = nI i →
          ∃ ox, (if nI k < 4 then (fx_hasCell (nI a) (nI b) (nI c) X (X + a2)).bind fun o12 => if o12 = 0 then some (-1000000, zx) else (fx_level (nI a) (nI b) (nI c) (lN (pq_enc h 16)) X (X + a2)).bind fun o18 => some (o18, zx) else some (-1000000, zx)) = some ox ∧
          ∃ om, (if (4 : Int32) ≤ nI k then fm_slice_106 a2 (nI (20 * p)) X' zm else (km_rd zm 0 (nI (20 * p + 1))).bind fun v1 => if v1 ≤ X' then fm_slice_106 a2 (nI (20 * p)) X' zm else (km_rd zm 0 (nI (20 * p + 2))).bind fun v2 => if v2 ≤ (X' + a2) then fm_slice_106 a2 (nI (20 * p)) X' zm else fm_slice_107 a2 (nI (20 * p)) X' (1 : Int32) zm) = some om ∧ ox.1 = om.1 ∧ pq_Inv cA ox.2 P om.2 := by
        intro i j X hi hj hX hXj hk4 X' hX'
        subst hX'
        subst hX
        rw [hXj, if_pos (show nI k < (4 : Int32) from nI_lt (b := 4) hk4 (by omega)), if_neg (show ¬ (4 : Int32) ≤ nI k from nI_ge (b := 4) hk4 (by omega)), pq_rda hb hl, Option.bind_some]
        unfold fx_hasCell fm_slice_106 fm_slice_107
        rw [if_neg (nI_pos (by omega)), if_pos rfl]
        by_cases d1 : a ≤ i
        · have d1' : nI a ≤ nI i := nI_le d1 (by omega)
          rw [if_pos d1', if_pos d1']
          exact ⟨_, rfl, _, rfl, rfl, hI⟩
        have d1' : ¬ nI a ≤ nI i := nI_ge (by omega) (by omega)
        have j0 : ¬ nI j < 0 := nI_pos (by omega)
        rw [if_neg d1', if_neg d1', if_neg j0, pq_rdb hb hl, Option.bind_some]
        by_cases d2 : b ≤ j
        · have d2' : nI b ≤ nI j := nI_le d2 (by omega)
          rw [if_pos d2', if_pos d2']
          exact ⟨_, rfl, _, rfl, rfl, hI⟩
        have d2' : ¬ nI b ≤ nI j := nI_ge (by omega) (by omega)
        rw [if_neg d2', if_neg d2', if_neg kq_10, Option.bind_some, if_neg kq_10, pq_level H (by omega) (by omega), pq_g_in (by omega) (by omega), hXj, pq_at, Option.bind_some, Option.bind_some, nI_add, pq_rdh hb hl (4 * i + j) (by omega) (by omega), Option.bind_some]
        exact ⟨_, rfl, _, rfl, rfl, hI⟩
      by_cases k4 : k < 4
      · rcases pq_d ha hb4 c1 c2 with ⟨e, he, rfl⟩ | ⟨e, he0, he, rfl⟩
        · have z1 : (if (0 : Int32) < -nI e then -nI e else (0 : Int32)) + nI k = nI k := by
            have : e = 0 ∨ e = 1 ∨ e = 2 ∨ e = 3 := by omega
            rw [if_neg (by rcases this with rfl | rfl | rfl | rfl <;> decide)]
            exact nI_add 0 k |>.trans (by rw [Nat.zero_add])
          rw [if_pos (nI_pos' (by omega))]
          unfold fm_slice_64
          rw [z1, show nI (20 * p) + 1 = nI (20 * p + 1) from nI_add _ 1, show nI (20 * p) + 2 = nI (20 * p + 2) from nI_add _ 2]
          exact fin k (k + e) _ (by omega) (by omega) rfl (nI_add k e) k4 _ ((nI_add k 0).trans (by rw [Nat.add_zero]))
        · have z1 : (if (0 : Int32) < - -nI e then - -nI e else (0 : Int32)) + nI k = nI (e + k) := by
            have : e = 1 ∨ e = 2 ∨ e = 3 := by omega
            rw [if_pos (by rcases this with rfl | rfl | rfl <;> decide), show - -nI e = nI e by rcases this with rfl | rfl | rfl <;> decide, nI_add]
          have z2 : nI (e + k) + -nI e = nI k := (show ∀ e, e < 4 → ∀ k, k < 4 → nI (e + k) + -nI e = nI k by decide) e (by omega) k k4
          have z3 : - -nI e = nI e := by
            have : e = 1 ∨ e = 2 ∨ e = 3 := by omega
            rcases this with rfl | rfl | rfl <;> decide
          rw [if_neg (show ¬ (0 : Int32) ≤ -nI e by
            have : e = 1 ∨ e = 2 ∨ e = 3 := by omega
            rcases this with rfl | rfl | rfl <;> decide)]
          unfold fm_slice_64
          rw [z1, show nI (20 * p) + 1 = nI (20 * p + 1) from nI_add _ 1, show nI (20 * p) + 2 = nI (20 * p + 2) from nI_add _ 2]
          exact fin (e + k) k _ (by omega) (by omega) rfl z2 k4 _ (by rw [z3, nI_add, Nat.add_comm])
      · rw [if_neg (show ¬ nI k < (4 : Int32) from nI_nlt (b := 4) (by omega) (by omega))]
        unfold fm_slice_64 fm_slice_106 fm_slice_107
        rw [if_pos (show (4 : Int32) ≤ nI k from nI_le (a := 4) (by omega) (by omega)), if_pos (show (4 : Int32) ≤ nI k from nI_le (a := 4) (by omega) (by omega)), if_pos rfl, if_pos rfl]
        by_cases d3 : 0 ≤ a2
        · rw [if_pos d3]; exact ⟨_, rfl, _, rfl, rfl, hI⟩
        · rw [if_neg d3]; exact ⟨_, rfl, _, rfl, rfl, hI⟩
    · rw [if_neg c0, if_neg c0]
      by_cases c1 : a2 < 1 - nI a
      · rw [if_pos c1]
        exact ⟨_, rfl, _, rfl, rfl, hI⟩
      rw [if_neg c1]
      by_cases c2 : nI b - 1 < a2
      · rw [if_pos c2]
        exact ⟨_, rfl, _, rfl, rfl, hI⟩
      rw [if_neg c2]
      exact ⟨_, rfl, _, rfl, rfl, hI⟩
/-! face -/
theorem pq_find (p : Nat → Prop) [DecidablePred p] : ∀ n : Nat, (∃ k, k < n ∧ p k ∧ ∀ k', k' < k → ¬ p k') ∨ ∀ k, k < n → ¬ p k
  | 0 => Or.inr fun k h => absurd h (by omega)
  | n + 1 => by
    rcases pq_find p n with ⟨k, h1, h2, h3⟩ | h
    · exact Or.inl ⟨k, by omega, h2, h3⟩
    · by_cases q : p n
      · exact Or.inl ⟨n, by omega, q, h⟩
      · exact Or.inr fun k hk => if e : k = n then e ▸ q else h k (by omega)
/-- one height asked of both, walls before the box -/
theorem pq_lh {zm : km_S} {o a b c : Nat} {h : Nat → Nat} (H : pq_hv a b c h) (hb : pq_mb (zm.2.1 0) o a b c h) (hl : o + 20 ≤ km_len 0) {i j : Nat} (hi : i < 50) (hj : j < 50) : ∃ n, n ≤ 4 ∧ fx_level (nI a) (nI b) (nI c) (lN (pq_enc h 16)) (nI i - 1) (nI j - 1) = some (nI n) ∧ fm_heightBy (nI o) (nI i - 1) (nI j - 1) zm = some (nI n, zm) := by
  have ha := H.1; have hb4 := H.2.1; have hc4 := H.2.2.1
  have e3 : fm_heightBy_8 (nI o) zm = some (nI c, zm) := by
    unfold fm_heightBy_8
    rw [show nI o + 3 = nI (o + 3) from nI_add _ 3, pq_rdc hb hl]; rfl
  unfold fm_heightBy
  by_cases i0 : i = 0
  · subst i0
    refine ⟨c, by omega, ?_, ?_⟩
    · unfold fx_level; rw [if_pos (by decide)]; rfl
    · rw [if_pos (by decide), e3]
  obtain ⟨i, rfl⟩ : ∃ k, i = k + 1 := ⟨i - 1, by omega⟩
  by_cases j0 : j = 0
  · subst j0
    refine ⟨c, by omega, ?_, ?_⟩
    · unfold fx_level; rw [nI_pred, if_neg (nI_pos (by omega)), if_neg (by decide)]; rfl
    · rw [nI_pred, if_neg (nI_pos (by omega)), if_neg (by decide), e3]
  obtain ⟨j, rfl⟩ : ∃ k, j = k + 1 := ⟨j - 1, by omega⟩
  rw [nI_pred, nI_pred]
  refine ⟨pq_g a b h i j, pq_g_le H, pq_level H (by omega) (by omega), ?_⟩
  rw [if_neg (nI_pos (by omega)), if_pos (nI_pos' (by omega)), show nI o + 1 = nI (o + 1) from nI_add _ 1, pq_rda hb hl, Option.bind_some]
  by_cases d1 : a ≤ i
  · rw [if_pos (nI_le d1 (by omega))]
    unfold pq_g; rw [if_neg (by omega)]; rfl
  rw [if_neg (nI_ge (by omega) (by omega)), show nI o + 2 = nI (o + 2) from nI_add _ 2, pq_rdb hb hl, Option.bind_some]
  by_cases d2 : b ≤ j
  · rw [if_pos (nI_le d2 (by omega))]
    unfold pq_g; rw [if_neg (by omega)]; rfl
  rw [if_neg (nI_ge (by omega) (by omega)), pq_at, Option.bind_some, nI_add, pq_rdh hb hl (4 * i + j) (by omega) (by omega), pq_g_in (by omega) (by omega)]; rfl
theorem pq_sideC {v d : Int32} {lo up : Nat} (h1 : lo ≤ 4) (h2 : up ≤ 4) : ∃ r : Bool, fx_isSideFace v d (nI lo) (nI up) = some (pq_b r) ∧ (r = true ↔ ∃ k, k < up - lo ∧ v = 4 * nI (lo + 1 + k) - d - 5) := by
  unfold fx_isSideFace lx_isSideFace_5
  rw [nI_1]
  have stp : ∀ k, k < up - lo → fx_isSideFace_5 v d (nI up) (nI (lo + 1 + k)) = if v = 4 * nI (lo + 1 + k) - d - 5 then some (.inr (.inl ())) else some (.inl (v, d, nI up, nI (lo + 1 + (k + 1)))) := by
    intro k hk
    unfold fx_isSideFace_5
    rw [if_neg (nI_nlt (by omega) (by omega)), nI_1]; rfl
  have fin : fx_isSideFace_5 v d (nI up) (nI (lo + 1 + (up - lo))) = some (.inr (.inr ())) := by
    unfold fx_isSideFace_5
    rw [if_pos (nI_lt (by omega) (by omega))]
  rcases pq_find (fun k => v = 4 * nI (lo + 1 + k) - d - 5) (up - lo) with ⟨k, q1, q2, q3⟩ | q
  · refine ⟨true, ?_, fun _ => ⟨k, q1, q2⟩, fun _ => rfl⟩
    rw [kq_run0 (s0 := (v, d, nI up, nI (lo + 1))) (fun n => (v, d, nI up, nI (lo + 1 + n))) k (r := .inl ()) rfl (by omega) (fun n hn => by dsimp only; rw [stp n (by omega), if_neg (q3 n hn)]) (by dsimp only; rw [stp k q1, if_pos q2])]
    rfl
  · refine ⟨false, ?_, fun x => absurd x (by decide), fun ⟨k, x1, x2⟩ => absurd x2 (q k x1)⟩
    rw [kq_run0 (s0 := (v, d, nI up, nI (lo + 1))) (fun n => (v, d, nI up, nI (lo + 1 + n))) (up - lo) (r := .inr ()) rfl (by omega) (fun n hn => by dsimp only; rw [stp n hn, if_neg (q n hn)]) fin]
    rfl
theorem pq_sideM {v x y : Int32} {lo up : Nat} {zm : km_S} (h1 : lo ≤ 4) (h2 : up ≤ 4) : ∃ r : Bool, fm_isSide_54 x y v (nI up) (nI lo) zm = some (pq_b r, zm) ∧ (r = true ↔ ∃ k, k < up - lo ∧ v = 4 * nI (lo + 1 + k) - 2 * x - 2 * y - 5) := by
  unfold fm_isSide_54 lm_isSide_65
  rw [nI_1]
  obtain ⟨r, r1, w, rfl, r2⟩ := kq_it0 (step := fun (s : (Int32 × Int32 × Int32 × Int32 × Int32 × Int32 × km_S)) => fm_isSide_65 (s.1) (s.2.1) (s.2.2.1) (s.2.2.2.1) (s.2.2.2.2.1) (s.2.2.2.2.2.1) (s.2.2.2.2.2.2))
    (fun n s => ∃ w : Bool, s = (x, y, v, nI up, pq_b w, nI (lo + 1 + n), zm) ∧ (w = true ↔ ∃ k, k < n ∧ v = 4 * nI (lo + 1 + k) - 2 * x - 2 * y - 5))
    (fun r => ∃ w : Bool, r = (pq_b w, zm) ∧ (w = true ↔ ∃ k, k < up - lo ∧ v = 4 * nI (lo + 1 + k) - 2 * x - 2 * y - 5)) (up - lo) (by omega) (by
      rintro n s hn ⟨w, rfl, hw⟩
      dsimp only
      unfold fm_isSide_65 fm_isSide_96 fm_isSide_101
      rw [if_neg (nI_nlt (by omega) (by omega)), nI_1]
      cases w
      · rw [if_pos (show pq_b false = 0 from rfl)]
        have hw' : ¬ ∃ k, k < n ∧ v = 4 * nI (lo + 1 + k) - 2 * x - 2 * y - 5 := fun q => absurd (hw.mpr q) (by decide)
        by_cases q : v = 4 * nI (lo + 1 + n) - 2 * x - 2 * y - 5
        · rw [if_pos q]
          exact ⟨_, rfl, true, rfl, fun _ => ⟨n, by omega, q⟩, fun _ => rfl⟩
        · rw [if_neg q]
          refine ⟨_, rfl, false, rfl, fun x => absurd x (by decide), fun ⟨k, x1, x2⟩ => ?_⟩
          by_cases e : k = n
          · subst e; exact absurd x2 q
          · exact absurd ⟨k, by omega, x2⟩ hw'
      · rw [if_neg (show ¬ pq_b true = 0 by decide)]
        obtain ⟨k, x1, x2⟩ := hw.mp rfl
        exact ⟨_, rfl, true, rfl, fun _ => ⟨k, by omega, x2⟩, fun _ => rfl⟩) (by
      rintro s ⟨w, rfl, hw⟩
      refine ⟨_, ?_, w, rfl, hw⟩
      dsimp only
      unfold fm_isSide_65
      rw [if_pos (nI_lt (by omega) (by omega))])
    (s := (x, y, v, nI up, 0, nI (lo + 1), zm)) ⟨false, rfl, fun x => absurd x (by decide), fun ⟨k, x1, x2⟩ => absurd x1 (by omega)⟩
  rw [r1, Option.bind_some, if_pos (pq_b01 w)]
  exact ⟨w, rfl, r2⟩
theorem pq_ar1 (x y z w : Int32) : x - (y + z) - w = x - y - z - w := by
  apply Int32.toBitVec_inj.mp
  simp only [Int32.toBitVec_sub, Int32.toBitVec_add]
  generalize x.toBitVec = X; generalize y.toBitVec = Y; generalize z.toBitVec = Z; generalize w.toBitVec = W
  simp only [BitVec.sub_eq_add_neg, BitVec.neg_add, BitVec.add_assoc]
/-- what one cell answers -/
theorem pq_cell {zm : km_S} {o a b c : Nat} {h : Nat → Nat} (H : pq_hv a b c h) (hb : pq_mb (zm.2.1 0) o a b c h) (hl : o + 20 ≤ km_len 0) {i j : Nat} (hi : i ≤ a) (hj : j ≤ b) (u v : Int32) :
    ∃ k : Nat, k < 4 ∧ fm_faceAt (nI o) (nI i - 1) (nI j - 1) u v zm = some (nI k, zm) ∧
      fx_faceAt_15 (nI a) (nI b) (nI c) (lN (pq_enc h 16)) u v (nI i - 1) (nI j - 1) = some (if k = 0 then .inl (lN (pq_enc h 16), u, v, nI i - 1, nI j - 1 + 1) else if k = 1 then .inr (.inl ()) else if k = 2 then .inr (.inr (.inl ())) else .inr (.inr (.inr (.inl ())))) := by
  have ha := H.1; have hb4 := H.2.1; have hc4 := H.2.2.1
  obtain ⟨n, n4, l1, m1⟩ := pq_lh H hb hl (i := i) (j := j) (by omega) (by omega)
  obtain ⟨nd, nd4, l2, m2⟩ := pq_lh H hb hl (i := i + 1) (j := j) (by omega) (by omega)
  obtain ⟨nr, nr4, l3, m3⟩ := pq_lh H hb hl (i := i) (j := j + 1) (by omega) (by omega)
  have s1 : ∀ k : Nat, nI (k + 1) - 1 = (nI k - 1) + 1 := fun k => by rw [nI_pred]; exact (Int32.sub_add_cancel _ _).symm
  rw [s1] at l2 m2 l3 m3
  have jlt : ¬ nI b ≤ nI j - 1 := by
    by_cases j0 : j = 0
    · subst j0
      have : b = 1 ∨ b = 2 ∨ b = 3 ∨ b = 4 := by omega
      rcases this with rfl | rfl | rfl | rfl <;> decide
    · obtain ⟨j, rfl⟩ : ∃ k, j = k + 1 := ⟨j - 1, by omega⟩
      rw [nI_pred]; exact nI_ge (by omega) (by omega)
  generalize hX : nI i - 1 = X at *
  generalize hY : nI j - 1 = Y at *
  -- the side faces
  have part3 : ∃ k : Nat, k < 4 ∧ fm_faceAt_82 (nI o) X Y u v (2 * (Y - X)) zm = some (nI k, zm) ∧ fx_faceAt_125 (nI a) (nI b) (nI c) (lN (pq_enc h 16)) u v X Y (2 * (Y - X)) (2 * X + 2 * Y) (nI n) = some (if k = 0 then .inl (lN (pq_enc h 16), u, v, X, Y + 1) else if k = 1 then .inr (.inl ()) else if k = 2 then .inr (.inr (.inl ())) else .inr (.inr (.inr (.inl ())))) := by
    unfold fm_faceAt_82 fx_faceAt_125 fx_faceAt_163
    by_cases c1 : X < 0
    · rw [if_pos c1, if_pos c1]; exact ⟨0, by omega, rfl, rfl⟩
    rw [if_neg c1, if_neg c1]
    by_cases c2 : u = 2 * (Y - X) + 1
    · rw [if_pos c2, if_pos c2, l3, Option.bind_some]
      unfold fm_isSide fm_isSide_17
      rw [if_neg (by
        rw [c2]
        intro q
        have : (1 : Int32) = -1 := by
          have := congrArg (fun t => t - 2 * (Y - X)) q
          simp only [Int32.sub_eq_add_neg, Int32.add_comm _ (1 : Int32), Int32.add_comm _ (-1 : Int32), Int32.add_assoc] at this
          simp [← Int32.sub_eq_add_neg] at this
        exact absurd this (by decide)), m1, Option.bind_some, if_pos rfl, m3, Option.bind_some]
      obtain ⟨r, r1, r2⟩ := pq_sideC (v := v) (d := 2 * X + 2 * Y) nr4 n4
      obtain ⟨r', r3, r4⟩ := pq_sideM (v := v) (x := X) (y := Y) (zm := zm) nr4 n4
      have e : r = r' := by
        apply Bool.eq_iff_iff.mpr
        rw [r2, r4]
        simp only [pq_ar1]
      subst e
      rw [r1, r3, Option.bind_some, Option.bind_some]
      cases r
      · rw [if_pos (show pq_b false = 0 from rfl), if_pos (show pq_b false = 0 from rfl)]; exact ⟨0, by omega, rfl, rfl⟩
      · rw [if_neg (show ¬ pq_b true = 0 by decide), if_neg (show ¬ pq_b true = 0 by decide)]; exact ⟨3, by omega, rfl, rfl⟩
    · rw [if_neg c2, if_neg c2]; exact ⟨0, by omega, rfl, rfl⟩
  have part2 : ∃ k : Nat, k < 4 ∧ fm_faceAt_53 (nI o) X Y u v (2 * (Y - X)) zm = some (nI k, zm) ∧ fx_faceAt_87 (nI a) (nI b) (nI c) (lN (pq_enc h 16)) u v X Y (2 * (Y - X)) (2 * X + 2 * Y) (nI n) = some (if k = 0 then .inl (lN (pq_enc h 16), u, v, X, Y + 1) else if k = 1 then .inr (.inl ()) else if k = 2 then .inr (.inr (.inl ())) else .inr (.inr (.inr (.inl ())))) := by
    unfold fm_faceAt_53 fx_faceAt_87
    by_cases c1 : Y < 0
    · rw [if_pos c1, if_pos c1]; exact part3
    rw [if_neg c1, if_neg c1]
    by_cases c2 : u = 2 * (Y - X) - 1
    · rw [if_pos c2, if_pos c2, l2, Option.bind_some]
      unfold fm_isSide fm_isSide_17
      rw [if_pos c2, m1, Option.bind_some, if_neg kq_10, m2, Option.bind_some]
      obtain ⟨r, r1, r2⟩ := pq_sideC (v := v) (d := 2 * X + 2 * Y) nd4 n4
      obtain ⟨r', r3, r4⟩ := pq_sideM (v := v) (x := X) (y := Y) (zm := zm) nd4 n4
      have e : r = r' := by
        apply Bool.eq_iff_iff.mpr
        rw [r2, r4]
        simp only [pq_ar1]
      subst e
      rw [r1, r3, Option.bind_some, Option.bind_some]
      cases r
      · rw [if_pos (show pq_b false = 0 from rfl), if_pos (show pq_b false = 0 from rfl)]; exact part3
      · rw [if_neg (show ¬ pq_b true = 0 by decide), if_neg (show ¬ pq_b true = 0 by decide)]; exact ⟨2, by omega, rfl, rfl⟩
    · rw [if_neg c2, if_neg c2]; exact part3
  unfold fm_faceAt fx_faceAt_15
  rw [if_neg jlt, l1, Option.bind_some]
  by_cases c1 : X < 0
  · rw [if_pos c1, if_pos c1]; exact part2
  rw [if_neg c1, if_neg c1]
  by_cases c2 : Y < 0
  · rw [if_pos c2, if_pos c2]; exact part2
  rw [if_neg c2, if_neg c2]
  by_cases c3 : u = 2 * (Y - X)
  · rw [if_pos c3, if_pos c3]
    have hi0 : i ≠ 0 := by rintro rfl; subst hX; exact c1 (by decide)
    have hj0 : j ≠ 0 := by rintro rfl; subst hY; exact c2 (by decide)
    obtain ⟨i, rfl⟩ : ∃ k, i = k + 1 := ⟨i - 1, by omega⟩
    obtain ⟨j, rfl⟩ : ∃ k, j = k + 1 := ⟨j - 1, by omega⟩
    rw [nI_pred] at hX hY
    subst hX; subst hY
    have en : n = h (4 * i + j) := by
      rw [pq_level H (by omega) (by omega), pq_g_in (by omega) (by omega)] at l1
      have := pq_hv_h H (4 * i + j) (by omega)
      exact ((nI_eq (by omega) (by omega)).mp (Option.some.inj l1)).symm
    rw [pq_at, Option.bind_some, nI_add, pq_rdh hb hl (4 * i + j) (by omega) (by omega), Option.bind_some, ← en, ← pq_ar1]
    by_cases c4 : v = 4 * nI n - (2 * nI i + 2 * nI j) - 2
    · rw [if_pos c4, if_pos c4]; exact ⟨1, by omega, rfl, rfl⟩
    · rw [if_neg c4, if_neg c4]; exact part2
  · rw [if_neg c3, if_neg c3]; exact part2
/-- the first that is not 0 -/
def pq_rowf (V : Nat → Nat) (s : Nat) : Nat → Nat
  | 0 => s
  | j + 1 => if pq_rowf V s j = 0 then V j else pq_rowf V s j
theorem pq_rowf_z {V : Nat → Nat} {n : Nat} (h : ∀ j, j < n → V j = 0) : pq_rowf V 0 n = 0 := by
  induction n with
  | zero => rfl
  | succ n ih => rw [pq_rowf, ih fun j hj => h j (by omega), if_pos rfl, h n (by omega)]
theorem pq_rowf_n {V : Nat → Nat} {s n : Nat} (h : s ≠ 0) : pq_rowf V s n = s := by
  induction n with
  | zero => rfl
  | succ n ih => rw [pq_rowf, ih, if_neg h]
theorem pq_rowf_f {V : Nat → Nat} {k n : Nat} (h : ∀ j, j < k → V j = 0) (hk : k < n) (hV : V k ≠ 0) : pq_rowf V 0 n = V k := by
  induction n with
  | zero => omega
  | succ n ih =>
    by_cases e : k = n
    · subst e; rw [pq_rowf, pq_rowf_z h, if_pos rfl]
    · rw [pq_rowf, ih (by omega), if_neg hV]
theorem pq_rowf_4 {V : Nat → Nat} {s n : Nat} (hs : s < 4) (h : ∀ j, j < n → V j < 4) : pq_rowf V s n < 4 := by
  induction n with
  | zero => exact hs
  | succ n ih => 
                 rw [pq_rowf]
                 split
                 · exact h n (by omega)
                 · exact ih fun j hj => h j (by omega)
theorem pq_choose2 {p : Nat → Nat → Nat → Prop} {Q : Nat → Nat → Prop} (h : ∀ i j, Q i j → ∃ k, p i j k) : ∃ V : Nat → Nat → Nat, ∀ i j, Q i j → p i j (V i j) := by
  have h' : ∀ i j, ∃ k, Q i j → p i j k := fun i j => by
    by_cases q : Q i j
    · obtain ⟨k, hk⟩ := h i j q
      exact ⟨k, fun _ => hk⟩
    · exact ⟨0, fun x => absurd x q⟩
  exact ⟨fun i j => Classical.choose (h' i j), fun i j => Classical.choose_spec (h' i j)⟩
/-- face(heap, u, v) -/
theorem pq_s15 (cA : Nat → ClassId) : kl_s15 cA (pq_Inv cA) := by
  intro zx P zm hI a1 u v
  have hp := hI.2.2.2.1
  unfold fc_face fm_face
  rcases pq_place hp a1 with ⟨q1, q2⟩ | ⟨p, ad, a, b, c, h, bx, hp4, rfl, q1, q2, _, H, e1, e2, hb⟩
  · rw [q1, q2, Option.bind_some, Option.bind_some, if_pos rfl]
    exact ⟨_, rfl, _, rfl, rfl, hI⟩
  have ha := H.1; have hb4 := H.2.1; have hc4 := H.2.2.1
  have hl : 20 * p + 20 ≤ km_len 0 := by show 20 * p + 20 ≤ 80; omega
  rw [q1, q2, Option.bind_some, Option.bind_some]
  simp only [kx_on, e1, e2, Option.bind_some, if_neg kq_10]
  rw [show (20 : Int32) * nI p = nI (20 * p) from pk_mul 20 p]
  have cell := fun (i j : Nat) (hi : i ≤ a) (hj : j ≤ b) => pq_cell H hb hl hi hj u v
  obtain ⟨V, hV0⟩ := pq_choose2 (Q := fun i j => i ≤ a ∧ j ≤ b) fun i j w => cell i j w.1 w.2
  have hV := fun i j hi hj => hV0 i j ⟨hi, hj⟩
  have s1 : ∀ k : Nat, (nI k - 1) + 1 = nI (k + 1) - 1 := fun k => by rw [nI_pred]; exact Int32.sub_add_cancel _ _
  have R4 : ∀ i, i ≤ a → ∀ s n, s < 4 → n ≤ b + 1 → pq_rowf (V i) s n < 4 := fun i hi s n hs hn => pq_rowf_4 hs fun j hj => (hV i j hi (by omega)).1
  -- the reference
  have mIn : ∀ s i, s < 4 → i ≤ a → lm_face_40 5000 u v (nI (20 * p)) (nI s) (nI i - 1) (-1) zm = some (u, v, nI (20 * p), nI (pq_rowf (V i) s (b + 1)), nI i - 1, zm) := by
    intro s i hs hi
    unfold lm_face_40
    refine kq_run0 (fun j => (u, v, nI (20 * p), nI (pq_rowf (V i) s j), nI i - 1, nI j - 1, zm)) (b + 1) ?_ (by omega) (fun j hj => ?_) ?_
    · show _ = (u, v, nI (20 * p), nI s, nI i - 1, nI 0 - 1, zm); rfl
    · dsimp only
      unfold fm_face_40 fm_face_76
      have jlt : ¬ nI b ≤ nI j - 1 := by
        by_cases j0 : j = 0
        · subst j0
          have : b = 1 ∨ b = 2 ∨ b = 3 ∨ b = 4 := by omega
          rcases this with rfl | rfl | rfl | rfl <;> decide
        · obtain ⟨j, rfl⟩ : ∃ k, j = k + 1 := ⟨j - 1, by omega⟩
          rw [nI_pred]; exact nI_ge (by omega) (by omega)
      have r4 := R4 i hi s j hs (by omega)
      rw [show nI (20 * p) + 2 = nI (20 * p + 2) from nI_add _ 2, pq_rdb hb hl, Option.bind_some, if_neg jlt, s1, pq_rowf]
      by_cases z0 : pq_rowf (V i) s j = 0
      · rw [if_pos (show nI (pq_rowf (V i) s j) ≤ 0 by rw [z0]; decide), (hV i j hi (by omega)).2.1, Option.bind_some, if_pos z0]
      · rw [if_neg (nI_nle (by omega) (by omega)), if_neg z0]
    · dsimp only
      unfold fm_face_40
      rw [show nI (20 * p) + 2 = nI (20 * p + 2) from nI_add _ 2, pq_rdb hb hl, Option.bind_some, nI_pred, if_pos (nI_le (Nat.le_refl b) (by omega))]
  have O4 : ∀ i, i ≤ a + 1 → pq_rowf (fun i => pq_rowf (V i) 0 (b + 1)) 0 i < 4 := fun i hi => pq_rowf_4 (by omega) fun k hk => R4 k (by omega) 0 (b + 1) (by omega) (by omega)
  have mOut : lm_face_23 5000 u v (nI (20 * p)) 0 (-1) zm = some (nI (pq_rowf (fun i => pq_rowf (V i) 0 (b + 1)) 0 (a + 1)), zm) := by
    unfold lm_face_23
    refine kq_run0 (fun i => (u, v, nI (20 * p), nI (pq_rowf (fun i => pq_rowf (V i) 0 (b + 1)) 0 i), nI i - 1, zm)) (a + 1) ?_ (by omega) (fun i hi => ?_) ?_
    · show _ = (u, v, nI (20 * p), nI 0, nI 0 - 1, zm); rfl
    · dsimp only
      unfold fm_face_23
      have ilt : ¬ nI a ≤ nI i - 1 := by
        by_cases j0 : i = 0
        · subst j0
          have : a = 1 ∨ a = 2 ∨ a = 3 ∨ a = 4 := by omega
          rcases this with rfl | rfl | rfl | rfl <;> decide
        · obtain ⟨j, rfl⟩ : ∃ k, i = k + 1 := ⟨i - 1, by omega⟩
          rw [nI_pred]; exact nI_ge (by omega) (by omega)
      rw [show nI (20 * p) + 1 = nI (20 * p + 1) from nI_add _ 1, pq_rda hb hl, Option.bind_some, if_neg ilt, mIn _ _ (O4 i (by omega)) (by omega), Option.bind_some]
      dsimp only
      rw [s1]
      have : pq_rowf (V i) (pq_rowf (fun i => pq_rowf (V i) 0 (b + 1)) 0 i) (b + 1) = pq_rowf (fun i => pq_rowf (V i) 0 (b + 1)) 0 (i + 1) := by
        rw [show pq_rowf (fun i => pq_rowf (V i) 0 (b + 1)) 0 (i + 1) = if pq_rowf (fun i => pq_rowf (V i) 0 (b + 1)) 0 i = 0 then pq_rowf (V i) 0 (b + 1) else pq_rowf (fun i => pq_rowf (V i) 0 (b + 1)) 0 i from rfl]
        by_cases z0 : pq_rowf (fun i => pq_rowf (V i) 0 (b + 1)) 0 i = 0
        · rw [if_pos z0, z0]
        · rw [if_neg z0, pq_rowf_n z0]
      rw [this]
    · dsimp only
      unfold fm_face_23
      rw [show nI (20 * p) + 1 = nI (20 * p + 1) from nI_add _ 1, pq_rda hb hl, Option.bind_some, nI_pred, if_pos (nI_le (Nat.le_refl a) (by omega))]
  -- the class
  have cIn : ∀ i, i ≤ a → lx_faceAt_15 (nI a) (nI b) (nI c) 5000 (lN (pq_enc h 16)) u v (nI i - 1) (-1) = some (if pq_rowf (V i) 0 (b + 1) = 0 then .inr (.inr (.inr (lN (pq_enc h 16), u, v, nI i - 1))) else if pq_rowf (V i) 0 (b + 1) = 1 then .inl () else if pq_rowf (V i) 0 (b + 1) = 2 then .inr (.inl ()) else .inr (.inr (.inl ()))) := by
    intro i hi
    unfold lx_faceAt_15
    rcases pq_find (fun j => V i j ≠ 0) (b + 1) with ⟨j, j1, j2, j3⟩ | j1
    · rw [pq_rowf_f (fun j' hj' => by simpa using j3 j' hj') j1 j2]
      refine kq_run0 (fun j => (lN (pq_enc h 16), u, v, nI i - 1, nI j - 1)) j ?_ (by omega) (fun k hk => ?_) ?_
      · show _ = (lN (pq_enc h 16), u, v, nI i - 1, nI 0 - 1); rfl
      · dsimp only
        rw [(hV i k hi (by omega)).2.2, if_pos (by simpa using j3 k hk), s1]
      · dsimp only
        rw [(hV i j hi (by omega)).2.2, if_neg j2, if_neg j2]
        split
        · rfl
        · split <;> rfl
    · have j1' : ∀ j, j < b + 1 → V i j = 0 := fun j hj => by simpa using j1 j hj
      rw [pq_rowf_z j1', if_pos rfl]
      refine kq_run0 (fun j => (lN (pq_enc h 16), u, v, nI i - 1, nI j - 1)) (b + 1) ?_ (by omega) (fun k hk => ?_) ?_
      · show _ = (lN (pq_enc h 16), u, v, nI i - 1, nI 0 - 1); rfl
      · dsimp only
        rw [(hV i k hi (by omega)).2.2, if_pos (j1' k hk), s1]
      · dsimp only
        unfold fx_faceAt_15
        rw [nI_pred, if_pos (nI_le (Nat.le_refl b) (by omega))]
  have cOut : fx_faceAt (nI a) (nI b) (nI c) (lN (pq_enc h 16)) u v = some (nI (pq_rowf (fun i => pq_rowf (V i) 0 (b + 1)) 0 (a + 1))) := by
    unfold fx_faceAt lx_faceAt_3
    have ilt : ∀ i, i < a + 1 → ¬ nI a ≤ nI i - 1 := by
      intro i hi
      by_cases j0 : i = 0
      · subst j0
        have : a = 1 ∨ a = 2 ∨ a = 3 ∨ a = 4 := by omega
        rcases this with rfl | rfl | rfl | rfl <;> decide
      · obtain ⟨j, rfl⟩ : ∃ k, i = k + 1 := ⟨i - 1, by omega⟩
        rw [nI_pred]; exact nI_ge (by omega) (by omega)
    rcases pq_find (fun i => pq_rowf (V i) 0 (b + 1) ≠ 0) (a + 1) with ⟨i, j1, j2, j3⟩ | j1
    · have r4 := R4 i (by omega) 0 (b + 1) (by omega) (by omega)
      rw [pq_rowf_f (V := fun i => pq_rowf (V i) 0 (b + 1)) (fun j' hj' => by simpa using j3 j' hj') j1 j2]
      refine kq_runb (fun i => (lN (pq_enc h 16), u, v, nI i - 1)) i (if pq_rowf (V i) 0 (b + 1) = 1 then .inl () else if pq_rowf (V i) 0 (b + 1) = 2 then .inr (.inl ()) else .inr (.inr (.inl ()))) ?_ (by omega) (fun k hk => ?_) ?_ ?_
      · show _ = (lN (pq_enc h 16), u, v, nI 0 - 1); rfl
      · dsimp only
        unfold fx_faceAt_3
        rw [if_neg (ilt k (by omega)), cIn k (by omega), if_pos (by simpa using j3 k hk), Option.bind_some]
        dsimp only [kj_se]
        rw [s1]
      · dsimp only
        unfold fx_faceAt_3
        rw [if_neg (ilt i (by omega)), cIn i (by omega), if_neg j2, Option.bind_some]
        split
        · rfl
        · split <;> rfl
      · have : pq_rowf (V i) 0 (b + 1) = 1 ∨ pq_rowf (V i) 0 (b + 1) = 2 ∨ pq_rowf (V i) 0 (b + 1) = 3 := by have := j2; omega
        rcases this with e | e | e <;> simp only [e] <;> rfl
    · have j1' : ∀ j, j < a + 1 → pq_rowf (V j) 0 (b + 1) = 0 := fun j hj => by simpa using j1 j hj
      rw [pq_rowf_z j1']
      refine kq_runb (fun i => (lN (pq_enc h 16), u, v, nI i - 1)) (a + 1) (.inr (.inr (.inr ()))) ?_ (by omega) (fun k hk => ?_) ?_ rfl
      · show _ = (lN (pq_enc h 16), u, v, nI 0 - 1); rfl
      · dsimp only
        unfold fx_faceAt_3
        rw [if_neg (ilt k (by omega)), cIn k (by omega), if_pos (j1' k hk), Option.bind_some]
        dsimp only [kj_se]
        rw [s1]
      · dsimp only
        unfold fx_faceAt_3
        rw [nI_pred, if_pos (nI_le (Nat.le_refl a) (by omega))]
  rw [cOut, mOut]
  exact ⟨_, rfl, _, rfl, rfl, hI⟩
