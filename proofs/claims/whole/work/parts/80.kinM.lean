/-! KIN: gather, and the reference's list -/
def pr_gs (zx0 : kx_S) (P0 : va_W) (zx : kx_S) (P : va_W) (S : List Nat) : Prop := ∃ L, pr_mem P zx L ∧ L.Pairwise (· < ·) ∧ (∀ k, k ∈ L ↔ k ∈ S) ∧ L.length ≤ S.length ∧ pr_xf zx0 zx ∧ ∃ Q, P = P0 ++ Q
theorem pr_gs_ins {zx0 zx : kx_S} {P0 P : va_W} {S : List Nat} {ad : Nat} {x : pr_V} (h : pr_gs zx0 P0 zx P S) (hS : S.length < 12) (hx : pr_va x) (hb : pr_hb P ad x) : ∃ zx', fk_insert P ad zx = some zx' ∧ pr_gs zx0 P0 zx' P (pr_ky x :: S) := by
  obtain ⟨L, h1, h2, h3, h4, h5, h6⟩ := h
  obtain ⟨zx', L', i1, i2, i3, i4, i5, i6⟩ := pr_insert h1 h2 (by omega) hx hb
  refine ⟨zx', i1, L', i2, i3, fun k => ?_, by rw [List.length_cons]; omega, pr_xf_t h5 i6, h6⟩
  rw [i4, h3, List.mem_cons]
theorem pr_gs_ext {zx0 zx : kx_S} {P0 P : va_W} {S : List Nat} (Q : va_W) (h : pr_gs zx0 P0 zx P S) : pr_gs zx0 P0 zx (P ++ Q) S := by
  obtain ⟨L, h1, h2, h3, h4, h5, Q0, h6⟩ := h
  exact ⟨L, pr_mem_ext h1 pq_ext_app, h2, h3, h4, h5, Q0 ++ Q, by rw [h6, List.append_assoc]⟩
/-- gather(heap) -/
theorem pr_gather {cA : Nat → ClassId} {zx : kx_S} {P : va_W} {ad : Nat} {x : pr_V} (hx : pr_va x) (hb : pr_hb P ad x) {K : Int32 → kx_S → va_W → Prop}
    (hK : ∀ zx' Q L, pr_xf zx zx' → pr_mem (P ++ Q) zx' L → L.Pairwise (· < ·) → L.length ≤ 12 → (∀ k, k ∈ L ↔ k ∈ pr_KS x) → K (nI L.length) zx' (P ++ Q)) : vk_gather cA ad zx P K := by
  have ex : ∀ {A : va_W} (Q : va_W), pq_ext A (A ++ Q) := fun Q => pq_ext_app
  unfold vk_gather
  refine ⟨(va_up zx.1 9 0, zx.2), rfl, ?_⟩
  have g0 : pr_gs zx P (va_up zx.1 9 0, zx.2) P [] := ⟨[], ⟨by dsimp only; rw [va_up_self]; rfl, fun i hi => absurd hi (by simp)⟩, List.Pairwise.nil, fun _ => Iff.rfl, by simp, ⟨fun k hk => va_up_ne _ _ hk, rfl, fun _ _ => rfl⟩, [], by simp⟩
  obtain ⟨z1, i1, g1⟩ := pr_gs_ins g0 (by simp) hx hb
  refine ⟨z1, i1, _, hb.choose_spec.1, ?_⟩
  refine pr_turned (w := 0) (by decide) hx hb fun q1 Q1 b1 => ?_
  have v1 := pr_v0 hx
  have g1' := pr_gs_ext Q1 g1
  have hb1 := pr_hb_ext hb (ex Q1)
  obtain ⟨z2, i2, g2⟩ := pr_gs_ins g1' (by simp) v1 b1
  refine ⟨q1, rfl, z2, i2, _, hb1.choose_spec.1, ?_⟩
  refine pr_turned (w := 1) (by decide) hx hb1 fun q2 Q2 b2 => ?_
  have x1 := pr_v1 hx
  have g2' := pr_gs_ext Q2 g2
  obtain ⟨z3, i3, g3⟩ := pr_gs_ins g2' (by simp) x1 b2
  refine ⟨q2, rfl, z3, i3, _, b2.choose_spec.1, ?_⟩
  refine pr_turned (w := 0) (by decide) x1 b2 fun q3 Q3 b3 => ?_
  have g3' := pr_gs_ext Q3 g3
  have b2' := pr_hb_ext b2 (ex Q3)
  obtain ⟨z4, i4, g4⟩ := pr_gs_ins g3' (by simp) (pr_v0 x1) b3
  refine ⟨q3, rfl, z4, i4, _, b2'.choose_spec.1, ?_⟩
  refine pr_turned (w := 1) (by decide) x1 b2' fun q4 Q4 b4 => ?_
  have x2 := pr_v1 x1
  have g4' := pr_gs_ext Q4 g4
  obtain ⟨z5, i5, g5⟩ := pr_gs_ins g4' (by simp) x2 b4
  refine ⟨q4, rfl, z5, i5, _, b4.choose_spec.1, ?_⟩
  refine pr_turned (w := 0) (by decide) x2 b4 fun q5 Q5 b5 => ?_
  have g5' := pr_gs_ext Q5 g5
  have b4' := pr_hb_ext b4 (ex Q5)
  obtain ⟨z6, i6, g6⟩ := pr_gs_ins g5' (by simp) (pr_v0 x2) b5
  refine ⟨q5, rfl, z6, i6, _, b4'.choose_spec.1, ?_⟩
  refine pr_turned (w := 1) (by decide) x2 b4' fun q6 Q6 b6 => ?_
  have x3 := pr_v1 x2
  have g6' := pr_gs_ext Q6 g6
  refine ⟨q6, rfl, _, b6.choose_spec.1, ?_⟩
  refine pr_turned (w := 2) (by decide) x3 b6 fun q7 Q7 b7 => ?_
  have y0 := pr_v2 x3
  have g6'' := pr_gs_ext Q7 g6'
  obtain ⟨z7, i7, g7⟩ := pr_gs_ins g6'' (by simp) y0 b7
  refine ⟨q7, rfl, z7, i7, _, b7.choose_spec.1, ?_⟩
  refine pr_turned (w := 0) (by decide) y0 b7 fun q8 Q8 b8 => ?_
  have g7' := pr_gs_ext Q8 g7
  have b7' := pr_hb_ext b7 (ex Q8)
  obtain ⟨z8, i8, g8⟩ := pr_gs_ins g7' (by simp) (pr_v0 y0) b8
  refine ⟨q8, rfl, z8, i8, _, b7'.choose_spec.1, ?_⟩
  refine pr_turned (w := 1) (by decide) y0 b7' fun q9 Q9 b9 => ?_
  have y1 := pr_v1 y0
  have g8' := pr_gs_ext Q9 g8
  obtain ⟨z9, i9, g9⟩ := pr_gs_ins g8' (by simp) y1 b9
  refine ⟨q9, rfl, z9, i9, _, b9.choose_spec.1, ?_⟩
  refine pr_turned (w := 0) (by decide) y1 b9 fun q10 Q10 b10 => ?_
  have g9' := pr_gs_ext Q10 g9
  have b9' := pr_hb_ext b9 (ex Q10)
  obtain ⟨z10, i10, g10⟩ := pr_gs_ins g9' (by simp) (pr_v0 y1) b10
  refine ⟨q10, rfl, z10, i10, _, b9'.choose_spec.1, ?_⟩
  refine pr_turned (w := 1) (by decide) y1 b9' fun q11 Q11 b11 => ?_
  have y2 := pr_v1 y1
  have g10' := pr_gs_ext Q11 g10
  obtain ⟨z11, i11, g11⟩ := pr_gs_ins g10' (by simp) y2 b11
  refine ⟨q11, rfl, z11, i11, _, b11.choose_spec.1, ?_⟩
  refine pr_turned (w := 0) (by decide) y2 b11 fun q12 Q12 b12 => ?_
  have g11' := pr_gs_ext Q12 g11
  have b11' := pr_hb_ext b11 (ex Q12)
  obtain ⟨z12, i12, g12⟩ := pr_gs_ins g11' (by simp) (pr_v0 y2) b12
  refine ⟨q12, rfl, z12, i12, _, b11'.choose_spec.1, ?_⟩
  refine pr_turned (w := 1) (by decide) y2 b11' fun q13 Q13 b13 => ?_
  have g12' := pr_gs_ext Q13 g12
  refine ⟨q13, rfl, _, b13.choose_spec.1, ?_⟩
  refine pr_turned (w := 2) (by decide) (pr_v1 y2) b13 fun q14 Q14 b14 => ?_
  have g12'' := pr_gs_ext Q14 g12'
  obtain ⟨L, h1, h2, h3, h4, h5, Q, h6⟩ := g12''
  have hlen : L.length ≤ 12 := h4
  rw [h1.1]
  rw [h6] at h1 ⊢
  refine hK z12 Q L h5 h1 h2 hlen fun k => ?_
  rw [h3]
  show k ∈ (pr_KS x).reverse ↔ _
  exact List.mem_reverse
/-! the reference -/
theorem pr_mbD {f : Nat → Int32} {q : Nat} {x : pr_V} (h : pq_mb f q x.1 x.2.1 x.2.2.1 x.2.2.2) : ∀ t, t < 20 → f (q + t) = nI (pr_Dg x t) := by
  intro t ht
  by_cases c : t < 4
  · have : t = 0 ∨ t = 1 ∨ t = 2 ∨ t = 3 := by omega
    rcases this with rfl | rfl | rfl | rfl
    · exact h.1
    · exact h.2.1
    · exact h.2.2.1
    · exact h.2.2.2.1
  · obtain ⟨u, rfl⟩ : ∃ u, t = 4 + u := ⟨t - 4, by omega⟩
    rw [pr_Dg_h, ← Nat.add_assoc]
    exact h.2.2.2.2 u (by omega)
theorem pm_isAhead {z : km_S} {p q : Nat} {x y : pr_V} (hp : p < 13) (hq : q < 13) (hx : pr_va x) (hy : pr_va y) (fx : pq_mb (z.2.1 9) (20 * p) x.1 x.2.1 x.2.2.1 x.2.2.2) (fy : pq_mb (z.2.1 9) (20 * q) y.1 y.2.1 y.2.2.1 y.2.2.2) : fm_isAhead (nI p) (nI q) z = some (pq_b (decide (pr_ky x < pr_ky y)), z) := by
  have dx := pr_mbD fx; have dy := pr_mbD fy
  have lx := pr_Dg_lt hx; have ly := pr_Dg_lt hy
  have rx : ∀ t, t < 20 → km_rd z 9 (20 * nI p + nI t) = some (nI (pr_Dg x t)) := fun t ht => by
    rw [show (20 : Int32) * nI p = nI (20 * p) from pk_mul 20 p, nI_add]
    exact pq_rdn (dx t ht) (show 20 * p + t < 260 by omega)
  have ry : ∀ t, t < 20 → km_rd z 9 (20 * nI q + nI t) = some (nI (pr_Dg y t)) := fun t ht => by
    rw [show (20 : Int32) * nI q = nI (20 * q) from pk_mul 20 q, nI_add]
    exact pq_rdn (dy t ht) (show 20 * q + t < 260 by omega)
  unfold fm_isAhead lm_isAhead_2
  obtain ⟨r, r1, k, hk, rfl, r2, r3⟩ := kq_ite0 (step := fun (s : (Int32 × Int32 × Int32 × km_S)) => fm_isAhead_2 (s.1) (s.2.1) (s.2.2.1) (s.2.2.2))
    (fun k s => s = (nI p, nI q, nI k, z) ∧ ∀ t, t < k → pr_Dg x t = pr_Dg y t)
    (fun r => ∃ k, k < 20 ∧ r = (nI p, nI q, nI k, z) ∧ (∀ t, t < k → pr_Dg x t = pr_Dg y t) ∧ (k = 19 ∨ pr_Dg x k ≠ pr_Dg y k)) 19 (by omega) (by
      rintro k s hk ⟨rfl, g⟩
      dsimp only
      unfold fm_isAhead_2
      rw [if_neg (show ¬ (19 : Int32) ≤ nI k from nI_ge (b := 19) hk (by omega)), rx k (by omega), Option.bind_some, ry k (by omega), Option.bind_some]
      have l1 := lx k (by omega); have l2 := ly k (by omega)
      by_cases c : pr_Dg x k = pr_Dg y k
      · rw [if_pos (by rw [c]), nI_1]
        refine Or.inl ⟨_, rfl, rfl, fun t ht => ?_⟩
        by_cases e : t = k
        · subst e; exact c
        · exact g t (by omega)
      · rw [if_neg (mt (nI_eq (by omega) (by omega)).mp c)]
        exact Or.inr ⟨_, rfl, k, by omega, rfl, g, Or.inr c⟩) (by
      rintro s ⟨rfl, g⟩
      exact ⟨_, rfl, 19, by omega, rfl, g, Or.inl rfl⟩)
    (s := (nI p, nI q, 0, z)) ⟨rfl, fun t ht => absurd ht (by omega)⟩
  rw [r1, Option.bind_some]
  unfold fm_isAhead_39
  dsimp only
  have l1 := lx k hk; have l2 := ly k hk
  rw [rx k hk, Option.bind_some, ry k hk, Option.bind_some]
  rcases Nat.lt_trichotomy (pr_Dg x k) (pr_Dg y k) with c | c | c
  · rw [if_neg (nI_ge c (by omega)), decide_eq_true (show pr_ky x < pr_ky y from pr_enc_less lx hk (fun s hs => (r2 s hs).symm) c)]; rfl
  · have k19 : k = 19 := by
      rcases r3 with e | e
      · exact e
      · exact absurd c e
    have e : pr_ky x = pr_ky y := pq_enc_eq fun t ht => by
      by_cases q : t = k
      · subst q; exact c
      · exact r2 t (by omega)
    rw [if_pos (nI_le (by omega) (by omega)), decide_eq_false (by omega)]; rfl
  · have : pr_ky y < pr_ky x := pr_enc_less (h := pr_Dg y) (f := pr_Dg x) ly hk r2 c
    rw [if_pos (nI_le (by omega) (by omega)), decide_eq_false (show ¬ pr_ky x < pr_ky y by omega)]; rfl
def pr_mk (z : km_S) (M : List Nat) : Prop := z.1 6 = nI M.length ∧ M.length ≤ 12 ∧ ∀ i, i < M.length → ∃ x, pr_va x ∧ pq_mb (z.2.1 9) (20 * i) x.1 x.2.1 x.2.2.1 x.2.2.2 ∧ pr_ky x = M.getD i 0
theorem pr_sm_k {x y : pr_V} (hx : pr_va x) (hy : pr_va y) : pq_sm x.1 x.2.1 x.2.2.1 x.2.2.2 y.1 y.2.1 y.2.2.1 y.2.2.2 = decide (pr_ky x = pr_ky y) := by
  apply Bool.eq_iff_iff.mpr
  rw [pq_sm_iff, decide_eq_true_eq, pr_ky_eq hx hy]; exact Iff.rfl
/-- is it among those found so far -/
theorem pm_scan {z : km_S} {M : List Nat} {k w : Int32} {y : pr_V} (hm : pr_mk z M) (hy : pr_va y) (h5 : pq_mb (z.2.1 5) 0 y.1 y.2.1 y.2.2.1 y.2.2.2) (f0 : Bool) : lm_laysKin_72 5000 k w (pq_b f0) 0 z = some (k, w, pq_b (f0 && decide (pr_ky y ∉ M)), z) := by
  have hl := hm.2.1
  have e : (f0 && decide (pr_ky y ∉ M)) = (f0 && pq_all M.length fun i => !(decide (M.getD i 0 = pr_ky y))) := by
    congr 1
    apply Bool.eq_iff_iff.mpr
    rw [decide_eq_true_eq, pq_all_iff]
    constructor
    · intro h i hi
      rw [decide_eq_false fun q => h (by rw [← q, pr_gD hi]; exact List.getElem_mem hi)]; rfl
    · intro h hin
      obtain ⟨i, hi, ei⟩ := List.mem_iff_getElem.mp hin
      have := h i hi
      rw [pr_gD hi, decide_eq_true ei] at this
      exact absurd this (by decide)
  rw [e]
  unfold lm_laysKin_72
  refine kq_run0 (fun t => (k, w, pq_b (f0 && pq_all t fun i => !(decide (M.getD i 0 = pr_ky y))), nI t, z)) M.length (by rw [pq_all, Bool.and_true]; rfl) (by omega) (fun t ht => ?_) ?_
  · obtain ⟨x, x1, x2, x3⟩ := hm.2.2 t ht
    dsimp only
    unfold fm_laysKin_72 fm_laysKin_112 fm_laysKin_113
    rw [hm.1, if_neg (nI_ge ht (by omega)), pq_all, nI_1]
    cases e2 : (f0 && pq_all t fun i => !(decide (M.getD i 0 = pr_ky y)))
    · rw [if_pos (show pq_b false = 0 from rfl), ← Bool.and_assoc, e2]; rfl
    · rw [if_neg (show ¬ pq_b true = 0 by decide), show (20 : Int32) * nI t = nI (20 * t) from pk_mul 20 t, show (0 : Int32) = nI 0 from rfl, show (20 : Int32) = nI 20 from rfl, pm_isSame (show 20 * t + 20 ≤ 260 by omega) (by decide) (by omega), Option.bind_some, pq_sm_mb x2 h5 x1 hy, pr_sm_k x1 hy, x3, ← Bool.and_assoc, e2, Bool.true_and]
      by_cases c : M.getD t 0 = pr_ky y
      · rw [decide_eq_true c, if_neg (show ¬ pq_b true = nI 0 by decide)]; rfl
      · rw [decide_eq_false c, if_pos (show pq_b false = nI 0 from rfl)]; rfl
  · dsimp only
    unfold fm_laysKin_72
    rw [hm.1, if_pos (nI_le (Nat.le_refl _) (by omega))]
theorem pm_kinStep {z : km_S} {M : List Nat} {x0 : pr_V} (v0 : pr_va x0) {k w : Nat} (hm : pr_mk z M) (hn : M.Nodup) (hs : ∀ x, x ∈ M → x ∈ pr_KS x0) (hk : k < M.length) (hw : w < 3) :
    ∃ z' M', fm_laysKin_32 (nI k) (nI w) z = some (.inl (nI k, nI (w + 1), z')) ∧ pr_mk z' M' ∧ M'.Nodup ∧ (∀ x, x ∈ M' → x ∈ pr_KS x0) ∧ (∃ e, M' = M ++ e) ∧ (∀ y, pr_va y → pr_ky y = M.getD k 0 → pr_ky (pr_tn w y) ∈ M') ∧ pr_fq [6] [5, 9] z z' := by
  obtain ⟨x, x1, x2, x3⟩ := hm.2.2 k hk
  have hl := hm.2.1
  obtain ⟨g, t1, t2, t3⟩ := pm_turns (k0 := 9) (k1 := 5) hw x1 x2 (show 20 * k + 20 ≤ 260 by omega) (by decide) (by decide)
  have vt := pr_va_tn hw x1
  have hm' : pr_mk (z.1, va_up z.2.1 5 g, z.2.2) M := ⟨hm.1, hl, fun i hi => by
    obtain ⟨y, y1, y2, y3⟩ := hm.2.2 i hi
    refine ⟨y, y1, ?_, y3⟩
    dsimp only
    rw [va_up_ne _ _ (by decide)]; exact y2⟩
  have h5 : pq_mb (((z.1, va_up z.2.1 5 g, z.2.2) : km_S).2.1 5) 0 (pr_tn w x).1 (pr_tn w x).2.1 (pr_tn w x).2.2.1 (pr_tn w x).2.2.2 := by
    dsimp only
    rw [va_up_self]; exact t2
  have xin : pr_ky x ∈ M := by rw [x3, pr_gD hk]; exact List.getElem_mem hk
  have tin : pr_ky (pr_tn w x) ∈ pr_KS x0 := pr_KS_tn v0 hw x1 (hs _ xin)
  have same : ∀ y, pr_va y → pr_ky y = M.getD k 0 → pr_ky (pr_tn w y) = pr_ky (pr_tn w x) := fun y hy e => pr_k_tn hw hy x1 (e.trans x3.symm)
  have rest : ∀ f0 : Bool, (f0 = true ↔ M.length < 12) → ∃ z' M', fm_laysKin_67 (nI k) (nI w) (pq_b f0) (z.1, va_up z.2.1 5 g, z.2.2) = some (.inl (nI k, nI (w + 1), z')) ∧ pr_mk z' M' ∧ M'.Nodup ∧ (∀ x, x ∈ M' → x ∈ pr_KS x0) ∧ (∃ e, M' = M ++ e) ∧ (∀ y, pr_va y → pr_ky y = M.getD k 0 → pr_ky (pr_tn w y) ∈ M') ∧ pr_fq [6] [5, 9] z z' := by
    intro f0 hf
    unfold fm_laysKin_67 fm_laysKin_157
    rw [pm_scan hm' vt h5 f0, Option.bind_some]
    dsimp only
    by_cases c : pr_ky (pr_tn w x) ∈ M
    · rw [decide_eq_false (fun q => q c), Bool.and_false, if_pos (show pq_b false = 0 from rfl), nI_1]
      exact ⟨_, M, rfl, hm', hn, hs, ⟨[], by simp⟩, fun y hy e => by rw [same y hy e]; exact c, pr_fq_u (by decide)⟩
    · have nd : (pr_ky (pr_tn w x) :: M).Nodup := List.nodup_cons.mpr ⟨c, hn⟩
      have lt : M.length < 12 := by
        have := pr_php (pr_ky (pr_tn w x) :: M) (pr_KS x0) nd fun y hy => by
          rcases List.mem_cons.mp hy with rfl | hy
          · exact tin
          · exact hs y hy
        rw [List.length_cons] at this
        have : (pr_KS x0).length = 12 := rfl
        omega
      rw [hf.mpr lt, decide_eq_true c, if_neg (show ¬ pq_b (true && true) = 0 by decide), hm.1, show (20 : Int32) * nI M.length = nI (20 * M.length) from pk_mul 20 _, show (0 : Int32) = nI 0 from rfl, show (20 : Int32) = nI 20 from rfl, kq_bring (k0 := 5) (k1 := 9) (by decide) (show 20 * M.length + 20 ≤ 260 by omega) (by omega) (fun h => absurd h (by decide)), Option.bind_some]
      unfold km_pI
      rw [Option.bind_some, nI_1]
      dsimp only
      refine ⟨_, M ++ [pr_ky (pr_tn w x)], rfl, ⟨?_, ?_, fun i hi => ?_⟩, ?_, fun y hy => ?_, ⟨_, rfl⟩, fun y hy e => by rw [same y hy e]; simp, ?_⟩
      · dsimp only
        rw [va_up_self, hm.1, nI_1, List.length_append]; rfl
      · rw [List.length_append]; simp; omega
      · dsimp only
        rw [va_up_self]
        rw [List.length_append] at hi
        simp only [List.length_cons, List.length_nil] at hi
        by_cases e : i < M.length
        · obtain ⟨y, y1, y2, y3⟩ := hm'.2.2 i e
          refine ⟨y, y1, ?_, ?_⟩
          · dsimp only at y2
            refine ⟨?_, ?_, ?_, ?_, fun t ht => ?_⟩
            · rw [pq_cpy_out (by omega)]; exact y2.1
            · rw [pq_cpy_out (by omega)]; exact y2.2.1
            · rw [pq_cpy_out (by omega)]; exact y2.2.2.1
            · rw [pq_cpy_out (by omega)]; exact y2.2.2.2.1
            · rw [pq_cpy_out (by omega)]; exact y2.2.2.2.2 t ht
          · rw [y3, List.getD_eq_getElem?_getD, List.getD_eq_getElem?_getD, List.getElem?_append_left e]
        · have : i = M.length := by omega
          subst this
          refine ⟨pr_tn w x, vt, ?_, ?_⟩
          · dsimp only at h5
            refine ⟨?_, ?_, ?_, ?_, fun t ht => ?_⟩
            · exact (pq_cpy_in (t := 0) (by omega)).trans h5.1
            · rw [pq_cpy_in (by omega)]; exact h5.2.1
            · rw [pq_cpy_in (by omega)]; exact h5.2.2.1
            · rw [pq_cpy_in (by omega)]; exact h5.2.2.2.1
            · rw [Nat.add_assoc, pq_cpy_in (by omega), ← Nat.add_assoc]; exact h5.2.2.2.2 t ht
          · rw [List.getD_eq_getElem?_getD, List.getElem?_append_right (Nat.le_refl _), Nat.sub_self]; rfl
      · rw [List.nodup_append]
        refine ⟨hn, by simp, fun a ha b hb => ?_⟩
        rw [List.mem_singleton] at hb
        subst hb
        exact fun e => c (e ▸ ha)
      · rcases List.mem_append.mp hy with h | h
        · exact hs y h
        · rw [List.mem_singleton] at h; rw [h]; exact tin
      · refine ⟨fun j hj => va_up_ne _ _ (by simpa using hj), fun j hj => ?_⟩
        dsimp only
        rw [va_up_ne _ _ (by intro q; exact hj (by simp [q])), va_up_ne _ _ (by intro q; exact hj (by simp [q]))]
  unfold fm_laysKin_32
  rw [if_neg (show ¬ (3 : Int32) ≤ nI w from nI_ge (b := 3) hw (by omega)), show (20 : Int32) * nI k = nI (20 * k) from pk_mul 20 k, t1, Option.bind_some]
  dsimp only
  rw [hm.1]
  by_cases c : 12 ≤ M.length
  · rw [if_pos (show (12 : Int32) ≤ nI M.length from nI_le (a := 12) c (by omega))]
    exact rest false ⟨fun h => (by cases h), fun h => by omega⟩
  · rw [if_neg (show ¬ (12 : Int32) ≤ nI M.length from nI_ge (b := 12) (by omega) (by omega))]
    exact rest true ⟨fun _ => by omega, fun _ => rfl⟩
theorem pm_laysKin {z : km_S} {q : Nat} {x : pr_V} (hx : pr_va x) (hb : pq_mb (z.2.1 0) q x.1 x.2.1 x.2.2.1 x.2.2.2) (hl : q + 20 ≤ 80) : ∃ z' M, fm_laysKin (nI q) z = some z' ∧ pr_mk z' M ∧ M.Nodup ∧ (∀ k, k ∈ M ↔ k ∈ pr_KS x) ∧ pr_fq [6] [5, 9] z z' := by
  unfold fm_laysKin
  rw [show (0 : Int32) = nI 0 from rfl, show (20 : Int32) = nI 20 from rfl, kq_bring (k0 := 0) (k1 := 9) (show q + 20 ≤ km_len 0 from hl) (by decide) (by omega) (fun h => absurd h (by decide)), Option.bind_some]
  unfold km_pI
  rw [Option.bind_some]
  dsimp only
  have m0 : pr_mk (va_up z.1 6 1, va_up z.2.1 9 (va_cpy (z.2.1 0) (z.2.1 9) q 0 20), z.2.2) [pr_ky x] := by
    refine ⟨by dsimp only; rw [va_up_self]; rfl, by simp, fun i hi => ⟨x, hx, ?_, ?_⟩⟩
    · have : i = 0 := by simp at hi; omega
      subst this
      dsimp only
      rw [va_up_self]
      have c : ∀ t, t < 20 → va_cpy (z.2.1 0) (z.2.1 9) q 0 20 (20 * 0 + t) = z.2.1 0 (q + t) := fun t ht => by
        have := pq_cpy_in (f := z.2.1 0) (g := z.2.1 9) (i := q) (j := 0) (n := 20) ht
        rw [show 20 * 0 + t = 0 + t by omega]; exact this
      refine ⟨?_, ?_, ?_, ?_, fun t ht => ?_⟩
      · exact (c 0 (by omega)).trans hb.1
      · exact (c 1 (by omega)).trans hb.2.1
      · exact (c 2 (by omega)).trans hb.2.2.1
      · exact (c 3 (by omega)).trans hb.2.2.2.1
      · rw [Nat.add_assoc, c (4 + t) (by omega), ← Nat.add_assoc]; exact hb.2.2.2.2 t ht
    · have : i = 0 := by simp at hi; omega
      subst this; rfl
  -- the three turns of one
  have three : ∀ (z1 : km_S) (M : List Nat) (k : Nat), pr_mk z1 M → M.Nodup → (∀ y, y ∈ M → y ∈ pr_KS x) → k < M.length → ∃ z' M', lm_laysKin_32 5000 (nI k) 0 z1 = some (nI k, z') ∧ pr_mk z' M' ∧ M'.Nodup ∧ (∀ y, y ∈ M' → y ∈ pr_KS x) ∧ (∃ e, M' = M ++ e) ∧ (∀ y, pr_va y → pr_ky y = M.getD k 0 → ∀ w, w < 3 → pr_ky (pr_tn w y) ∈ M') ∧ pr_fq [6] [5, 9] z1 z' := by
    intro z1 M k hm hn hs hk
    unfold lm_laysKin_32
    obtain ⟨r, r1, z', M', rfl, r2, r3, r4, r5, r6, r7⟩ := kq_it0 (step := fun (s : (Int32 × Int32 × km_S)) => fm_laysKin_32 (s.1) (s.2.1) (s.2.2))
      (fun w s => ∃ z' M', s = (nI k, nI w, z') ∧ pr_mk z' M' ∧ M'.Nodup ∧ (∀ y, y ∈ M' → y ∈ pr_KS x) ∧ (∃ e, M' = M ++ e) ∧ (∀ y, pr_va y → pr_ky y = M.getD k 0 → ∀ v, v < w → pr_ky (pr_tn v y) ∈ M') ∧ pr_fq [6] [5, 9] z1 z')
      (fun r => ∃ z' M', r = (nI k, z') ∧ pr_mk z' M' ∧ M'.Nodup ∧ (∀ y, y ∈ M' → y ∈ pr_KS x) ∧ (∃ e, M' = M ++ e) ∧ (∀ y, pr_va y → pr_ky y = M.getD k 0 → ∀ w, w < 3 → pr_ky (pr_tn w y) ∈ M') ∧ pr_fq [6] [5, 9] z1 z') 3 (by omega) (by
        rintro w s hw ⟨z', M', rfl, h1, h2, h3, ⟨e, h4⟩, h5, h6⟩
        have gk : M'.getD k 0 = M.getD k 0 := by
          rw [h4, List.getD_eq_getElem?_getD, List.getElem?_append_left hk, ← List.getD_eq_getElem?_getD]
        obtain ⟨z2, M2, s1, s2, s3, s4, ⟨e2, s5⟩, s6, s7⟩ := pm_kinStep hx h1 h2 h3 (show k < M'.length by rw [h4, List.length_append]; omega) hw
        refine ⟨_, s1, z2, M2, rfl, s2, s3, s4, ⟨e ++ e2, by rw [s5, h4, List.append_assoc]⟩, fun y hy ey v hv => ?_, pr_fq_t h6 s7⟩
        by_cases c : v = w
        · subst c; exact s6 y hy (by rw [gk]; exact ey)
        · rw [s5]; exact List.mem_append_left _ (h5 y hy ey v (by omega))) (by
        rintro s ⟨z', M', rfl, h1, h2, h3, h4, h5, h6⟩
        exact ⟨_, rfl, z', M', rfl, h1, h2, h3, h4, h5, h6⟩)
      (s := (nI k, 0, z1)) ⟨z1, M, rfl, hm, hn, hs, ⟨[], by simp⟩, fun _ _ _ v hv => absurd hv (by omega), pr_fq_r⟩
    exact ⟨z', M', r1, r2, r3, r4, r5, r6, r7⟩
  unfold lm_laysKin_22
  obtain ⟨r, r1, M, r2, r3, r4, r5, r6, r7⟩ := kq_ite0 (step := fun (s : (Int32 × km_S)) => fm_laysKin_22 (s.1) (s.2))
    (fun k s => ∃ z' M, s = (nI k, z') ∧ pr_mk z' M ∧ M.Nodup ∧ (∀ y, y ∈ M → y ∈ pr_KS x) ∧ pr_ky x ∈ M ∧ k ≤ M.length ∧ (∀ i, i < k → ∀ y, pr_va y → pr_ky y = M.getD i 0 → ∀ w, w < 3 → pr_ky (pr_tn w y) ∈ M) ∧ pr_fq [6] [5, 9] z z')
    (fun z' => ∃ M, pr_mk z' M ∧ M.Nodup ∧ (∀ y, y ∈ M → y ∈ pr_KS x) ∧ pr_ky x ∈ M ∧ (∀ y, pr_va y → pr_ky y ∈ M → ∀ w, w < 3 → pr_ky (pr_tn w y) ∈ M) ∧ pr_fq [6] [5, 9] z z') 12 (by omega) (by
      rintro k s hk ⟨z', M, rfl, h1, h2, h3, h4, h5, h6, h7⟩
      dsimp only
      unfold fm_laysKin_22
      rw [h1.1]
      by_cases c : k < M.length
      · obtain ⟨z2, M2, t1, t2, t3, t4, ⟨e, t5⟩, t6, t7⟩ := three z' M k h1 h2 h3 c
        rw [if_neg (nI_ge c (by have := h1.2.1; omega)), t1, Option.bind_some, nI_1]
        refine Or.inl ⟨_, rfl, z2, M2, rfl, t2, t3, t4, by rw [t5]; exact List.mem_append_left _ h4, by rw [t5, List.length_append]; omega, fun i hi y hy ey w hw => ?_, pr_fq_t h7 t7⟩
        have gi : M2.getD i 0 = M.getD i 0 := by
          rw [t5, List.getD_eq_getElem?_getD, List.getElem?_append_left (by omega), ← List.getD_eq_getElem?_getD]
        rw [gi] at ey
        by_cases ei : i = k
        · subst ei; exact t6 y hy ey w hw
        · rw [t5]; exact List.mem_append_left _ (h6 i (by omega) y hy ey w hw)
      · rw [if_pos (nI_le (by omega) (by omega))]
        refine Or.inr ⟨_, rfl, M, h1, h2, h3, h4, fun y hy hin w hw => ?_, h7⟩
        obtain ⟨i, hi, ei⟩ := List.mem_iff_getElem.mp hin
        exact h6 i (by omega) y hy (by rw [pr_gD hi, ei]) w hw) (by
      rintro s ⟨z', M, rfl, h1, h2, h3, h4, h5, h6, h7⟩
      dsimp only
      unfold fm_laysKin_22
      have := h1.2.1
      rw [h1.1, if_pos (nI_le (by omega) (by omega))]
      refine ⟨_, rfl, M, h1, h2, h3, h4, fun y hy hin w hw => ?_, h7⟩
      obtain ⟨i, hi, ei⟩ := List.mem_iff_getElem.mp hin
      exact h6 i (by omega) y hy (by rw [pr_gD hi, ei]) w hw)
    (s := (nI 0, (va_up z.1 6 1, va_up z.2.1 9 (va_cpy (z.2.1 0) (z.2.1 9) q 0 20), z.2.2))) ⟨_, [pr_ky x], rfl, m0, by simp, fun y hy => by
      rw [List.mem_singleton] at hy; rw [hy]; simp [pr_KS, pr_six], by simp, by simp, fun i hi => absurd hi (by omega), ⟨fun j hj => va_up_ne _ _ (by simpa using hj), fun j hj => va_up_ne _ _ (by intro e; exact hj (by simp [e]))⟩⟩
  rw [r1, Option.bind_some]
  exact ⟨r, M, rfl, r2, r3, fun k => ⟨r4 k, pr_KS_sub hx (S := fun k => k ∈ M) r5 r6 k⟩, r7⟩
