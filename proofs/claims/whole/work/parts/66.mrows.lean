/-! THE REFERENCE LAYS THE ROWS -/
def pr_ml (b c : Nat) (z : km_S) : Prop := z.1 5 = nI (pr_N b c) ∧ ∀ k, k < pr_N b c → ∀ j, j < b → z.2.1 6 (4 * k + j) = nI (pr_v b c k j)
theorem pr_ml_fq {b c : Nat} {I A : List Nat} {z z' : km_S} (h : pr_ml b c z) (f : pr_fq I A z z') (h5 : 5 ∉ I) (h6 : 6 ∉ A) : pr_ml b c z' := ⟨by rw [f.1 5 h5]; exact h.1, by rw [f.2 6 h6]; exact h.2⟩
theorem pm_isUnder {z : km_S} {b c s r : Nat} (o : pr_ok b c) (hz : pr_ml b c z) (hs : s < pr_N b c) (hr : r < pr_N b c) : fm_isUnder (nI s) (nI r) (nI b) z = some (pq_b (pr_LE b c s r), z) := by
  have hN := pr_N_le o
  have hb := o.2.1
  have e : pr_LE b c s r = pq_all b fun j => decide (pr_v b c s j ≤ pr_v b c r j) := by
    apply Bool.eq_iff_iff.mpr
    rw [pq_all_iff, pr_LE4]
    unfold pr_le4
    simp only [decide_eq_true_eq]
    constructor
    · intro q j hj
      have : j = 0 ∨ j = 1 ∨ j = 2 ∨ j = 3 := by omega
      rcases this with rfl | rfl | rfl | rfl
      · exact q.1
      · exact q.2.1
      · exact q.2.2.1
      · exact q.2.2.2
    · intro q
      have key : ∀ j, j < 4 → pr_v b c s j ≤ pr_v b c r j := fun j hj => by
        by_cases e : j < b
        · exact q j e
        · rw [(pr_row o hs j hj).2.1 (by omega)]; omega
      exact ⟨key 0 (by omega), key 1 (by omega), key 2 (by omega), key 3 (by omega)⟩
  rw [e]
  unfold fm_isUnder lm_isUnder_6
  refine kq_runb (fun k => (nI s, nI r, nI b, pq_b (pq_all k fun j => decide (pr_v b c s j ≤ pr_v b c r j)), nI k, z)) b (pq_b (pq_all b fun j => decide (pr_v b c s j ≤ pr_v b c r j)), z) rfl (by omega) (fun k hk => ?_) ?_ (if_pos (pq_b01 _))
  · dsimp only
    unfold fm_isUnder_6 fm_isUnder_46 fm_isUnder_47
    rw [if_neg (nI_ge hk (by omega)), pq_all, nI_1]
    cases e : (pq_all k fun j => decide (pr_v b c s j ≤ pr_v b c r j))
    · rw [if_pos (show pq_b false = 0 from rfl)]; rfl
    · have v1 := (pr_row o hs k (by omega)).1; have v2 := (pr_row o hr k (by omega)).1; have := o.2.2.2
      rw [if_neg (show ¬ pq_b true = 0 by decide), show (4 : Int32) * nI s = nI (4 * s) from pk_mul 4 s, show (4 : Int32) * nI r = nI (4 * r) from pk_mul 4 r, nI_add, nI_add, pq_rdn (hz.2 s hs k hk) (show 4 * s + k < 280 by omega), Option.bind_some, pq_rdn (hz.2 r hr k hk) (show 4 * r + k < 280 by omega), Option.bind_some]
      by_cases c1 : pr_v b c s k ≤ pr_v b c r k
      · rw [if_neg (nI_nlt c1 (by omega)), decide_eq_true c1]; rfl
      · rw [if_pos (nI_lt (by omega) (by omega)), decide_eq_false c1]; rfl
  · dsimp only
    unfold fm_isUnder_6
    rw [if_pos (nI_le (Nat.le_refl b) (by omega))]
/-! candidates: the digits of a number, the last one first -/
def pr_dg (c k u : Nat) : Nat := k / (c + 1) ^ u % (c + 1)
def pr_cv (b c k : Nat) : Bool := pq_all b fun u => decide (u = 0 ∨ pr_dg c k (u - 1) ≤ pr_dg c k u)
def pr_cl (b c k : Nat) : List Nat := (List.range b).map fun j => pr_dg c k (b - 1 - j)
def pr_L (b c k : Nat) : List Nat := (List.range k).filter (pr_cv b c)
theorem pr_L_rows {b c : Nat} (o : pr_ok b c) : (pr_L b c ((c + 1) ^ b)).map (pr_cl b c) = pq_rows b c := pr_ball (p := fun b c => (pr_L b c ((c + 1) ^ b)).map (pr_cl b c) = pq_rows b c) (by decide +kernel) o
theorem pr_L_lastc {b c : Nat} (o : pr_ok b c) : pr_cv b c ((c + 1) ^ b - 1) = true ∧ 1 ≤ (c + 1) ^ b ∧ (c + 1) ^ b ≤ 625 := pr_ball (p := fun b c => pr_cv b c ((c + 1) ^ b - 1) = true ∧ 1 ≤ (c + 1) ^ b ∧ (c + 1) ^ b ≤ 625) (by decide +kernel) o
theorem pr_L_s (b c k : Nat) : pr_L b c (k + 1) = if pr_cv b c k then pr_L b c k ++ [k] else pr_L b c k := by
  unfold pr_L
  rw [List.range_succ, List.filter_append]
  cases e : pr_cv b c k <;> simp [e]
theorem pr_L_mono {b c k : Nat} : ∀ d, (pr_L b c k).length ≤ (pr_L b c (k + d)).length
  | 0 => Nat.le_refl _
  | d + 1 => by
    refine Nat.le_trans (pr_L_mono d) ?_
    rw [← Nat.add_assoc, pr_L_s]
    split
    · rw [List.length_append]; omega
    · exact Nat.le_refl _
theorem pr_L_N {b c : Nat} (o : pr_ok b c) : (pr_L b c ((c + 1) ^ b)).length = pr_N b c := by
  unfold pr_N
  rw [← pr_L_rows o, List.length_map]
theorem pr_L_lt {b c k : Nat} (o : pr_ok b c) (hk : k < (c + 1) ^ b) : (pr_L b c k).length < pr_N b c := by
  obtain ⟨h1, h2, h3⟩ := pr_L_lastc o
  have h4 := pr_L_s b c ((c + 1) ^ b - 1)
  rw [h1, if_pos rfl, show (c + 1) ^ b - 1 + 1 = (c + 1) ^ b by omega] at h4
  have h5 := pr_L_N o
  rw [h4, List.length_append] at h5
  have h6 := pr_L_mono (b := b) (c := c) (k := k) ((c + 1) ^ b - 1 - k)
  rw [show k + ((c + 1) ^ b - 1 - k) = (c + 1) ^ b - 1 by omega] at h6
  simp only [List.length_cons, List.length_nil] at h5
  omega
theorem pr_L_v {b c : Nat} (o : pr_ok b c) {r j : Nat} (hr : r < pr_N b c) (hj : j < b) : pr_v b c r j = pr_dg c ((pr_L b c ((c + 1) ^ b)).getD r 0) (b - 1 - j) := by
  have hr' : r < (pr_L b c ((c + 1) ^ b)).length := by rw [pr_L_N o]; exact hr
  unfold pr_v pq_row
  rw [← pr_L_rows o]
  have e1 : ((pr_L b c ((c + 1) ^ b)).map (pr_cl b c)).getD r [] = pr_cl b c ((pr_L b c ((c + 1) ^ b))[r]) := by
    rw [List.getD_eq_getElem?_getD, List.getElem?_map, List.getElem?_eq_getElem hr']; rfl
  have e2 : (pr_L b c ((c + 1) ^ b)).getD r 0 = (pr_L b c ((c + 1) ^ b))[r] := by
    rw [List.getD_eq_getElem?_getD, List.getElem?_eq_getElem hr']; rfl
  rw [e1, e2]
  unfold pr_cl
  rw [List.getD_eq_getElem?_getD, List.getElem?_map, List.getElem?_range hj]; rfl
theorem pr_m1 (x : Int32) : x + (-1) = x - 1 := by
  rw [Int32.sub_eq_add_neg]
/-- one candidate is written -/
theorem pm_cand {z : km_S} {b c k R : Nat} {A K : Int32} {I : Nat → Int32} (o : pr_ok b c) (hk : k < 1000) (h5 : z.1 5 = nI R) (hR : R < 70) :
    ∃ g, lm_laysRows_49 5000 (nI b) (nI c) A K (nI k) 1 (nI b - 1) z = some (nI b, nI c, A, K, pq_b (pr_cv b c k), (z.1, va_up z.2.1 6 g, z.2.2)) ∧ (∀ t, t < 4 * R → g t = z.2.1 6 t) ∧ ∀ j, j < b → g (4 * R + j) = nI (pr_dg c k (b - 1 - j)) := by
  have hb := o.2.1; have hb1 := o.1; have hc := o.2.2.2
  unfold lm_laysRows_49
  obtain ⟨r, h1, h2⟩ := kq_it0 (step := fun (s : (Int32 × Int32 × Int32 × Int32 × Int32 × Int32 × Int32 × km_S)) => fm_laysRows_49 (s.1) (s.2.1) (s.2.2.1) (s.2.2.2.1) (s.2.2.2.2.1) (s.2.2.2.2.2.1) (s.2.2.2.2.2.2.1) (s.2.2.2.2.2.2.2))
    (fun t s => ∃ g, s = (nI b, nI c, A, K, nI (k / (c + 1) ^ t), pq_b (pq_all t fun u => decide (u = 0 ∨ pr_dg c k (u - 1) ≤ pr_dg c k u)), nI (b - t) - 1, (z.1, va_up z.2.1 6 g, z.2.2)) ∧ (∀ t, t < 4 * R → g t = z.2.1 6 t) ∧ ∀ u, u < t → g (4 * R + (b - 1 - u)) = nI (pr_dg c k u))
    (fun r => ∃ g, r = (nI b, nI c, A, K, pq_b (pr_cv b c k), (z.1, va_up z.2.1 6 g, z.2.2)) ∧ (∀ t, t < 4 * R → g t = z.2.1 6 t) ∧ ∀ u, u < b → g (4 * R + (b - 1 - u)) = nI (pr_dg c k u)) b (by omega) (by
      rintro t s ht ⟨g, rfl, g1, g2⟩
      have hq : k / (c + 1) ^ t < 1000 := Nat.lt_of_le_of_lt (Nat.div_le_self _ _) hk
      have ej : nI (b - t) - 1 = nI (b - 1 - t) := by
        rw [show b - t = (b - 1 - t) + 1 by omega, nI_pred]
      have ej2 : nI (b - 1 - t) + (-1) = nI (b - (t + 1)) - 1 := by
        rw [pr_m1, show b - 1 - t = b - (t + 1) by omega]
      have ew : ∀ v : Int32, (upd g (4 * R + (b - 1 - t)) v) (4 * R + (b - 1 - t)) = v := fun v => pk_us
      have done : ∀ f : Bool, f = (pq_all (t + 1) fun u => decide (u = 0 ∨ pr_dg c k (u - 1) ≤ pr_dg c k u)) → ∃ s', fm_laysRows_133 (nI b) (nI c) A K (nI (k / (c + 1) ^ t / (c + 1))) (nI (b - 1 - t)) (pq_b f) (z.1, va_up z.2.1 6 (upd g (4 * R + (b - 1 - t)) (nI (pr_dg c k t))), z.2.2) = some (.inl s') ∧ ∃ g, s' = (nI b, nI c, A, K, nI (k / (c + 1) ^ (t + 1)), pq_b (pq_all (t + 1) fun u => decide (u = 0 ∨ pr_dg c k (u - 1) ≤ pr_dg c k u)), nI (b - (t + 1)) - 1, (z.1, va_up z.2.1 6 g, z.2.2)) ∧ (∀ t, t < 4 * R → g t = z.2.1 6 t) ∧ ∀ u, u < t + 1 → g (4 * R + (b - 1 - u)) = nI (pr_dg c k u) := by
        intro f hf
        unfold fm_laysRows_133
        rw [ej2, hf, Nat.div_div_eq_div_mul, ← Nat.pow_succ]
        refine ⟨_, rfl, _, rfl, fun t' ht' => by rw [pk_un (by omega)]; exact g1 t' ht', fun u hu => ?_⟩
        by_cases e : u = t
        · subst e; exact pk_us
        · rw [pk_un (by omega)]; exact g2 u (by omega)
      dsimp only
      unfold fm_laysRows_49 fm_laysRows_132 fm_laysRows_128
      dsimp only
      rw [ej, if_neg (nI_pos (by omega)), h5, nI_1, if_neg (nI_ne0 (by omega) (by omega)), show (4 : Int32) * nI R = nI (4 * R) from pk_mul 4 R, nI_add, pk_rem (by omega) (by omega) (by omega), pk_div (by omega) (by omega) (by omega), pq_wrg (show 4 * R + (b - 1 - t) < 280 by omega), Option.bind_some, if_neg (nI_ne0 (by omega) (by omega))]
      dsimp only
      rw [h5, show (4 : Int32) * nI R = nI (4 * R) from pk_mul 4 R, nI_add]
      cases e : (pq_all t fun u => decide (u = 0 ∨ pr_dg c k (u - 1) ≤ pr_dg c k u))
      · rw [if_pos (show pq_b false = 0 from rfl)]
        exact done false (by rw [pq_all, e]; rfl)
      · rw [if_neg (show ¬ pq_b true = 0 by decide), show nI b - 1 = nI (b - 1) from pk_sub (b := 1) (by omega)]
        simp only [show (nI (b - 1 - t) = nI (b - 1)) = (b - 1 - t = b - 1) from propext (nI_eq (by omega) (by omega))]
        by_cases e0 : t = 0
        · subst e0
          rw [if_pos (by omega)]
          exact done true (by rw [pq_all, e]; rfl)
        · obtain ⟨u, rfl⟩ : ∃ u, t = u + 1 := ⟨t - 1, by omega⟩
          have d1 : pr_dg c k (u + 1) < c + 1 := Nat.mod_lt _ (by omega)
          have d2 : pr_dg c k u < c + 1 := Nat.mod_lt _ (by omega)
          rw [if_neg (by omega), pq_rdn (k := 6) (v := nI (pr_dg c k (u + 1))) (by dsimp only; rw [va_up_self, ew]; rfl) (show 4 * R + (b - 1 - (u + 1)) < 280 by omega), Option.bind_some, nI_1, pq_rdn (k := 6) (v := nI (pr_dg c k u)) (by
            dsimp only; rw [va_up_self, pk_un (by omega), show 4 * R + (b - 1 - (u + 1)) + 1 = 4 * R + (b - 1 - u) by omega]; exact g2 u (by omega)) (show 4 * R + (b - 1 - (u + 1)) + 1 < 280 by omega), Option.bind_some]
          by_cases e1 : pr_dg c k (u + 1) < pr_dg c k u
          · rw [if_pos (nI_lt e1 (by omega))]
            exact done false (by rw [pq_all, e, decide_eq_false (by simp only [Nat.add_sub_cancel]; omega)]; rfl)
          · rw [if_neg (nI_nlt (by omega) (by omega))]
            exact done true (by rw [pq_all, e, decide_eq_true (by simp only [Nat.add_sub_cancel]; omega)]; rfl)) (by
      rintro s ⟨g, rfl, g1, g2⟩
      refine ⟨_, ?_, g, rfl, g1, g2⟩
      dsimp only
      unfold fm_laysRows_49
      rw [Nat.sub_self, if_pos (by decide)]; rfl)
    (s := (nI b, nI c, A, K, nI k, 1, nI b - 1, z)) ⟨z.2.1 6, by rw [kj_upf, Nat.pow_zero, Nat.div_one]; rfl, fun _ _ => rfl, fun u hu => absurd hu (by omega)⟩
  obtain ⟨g, rfl, g1, g2⟩ := h2
  refine ⟨g, h1, g1, fun j hj => ?_⟩
  have := g2 (b - 1 - j) (by omega)
  rwa [show b - 1 - (b - 1 - j) = j by omega] at this
theorem pm_laysRows {z : km_S} {b c : Nat} (o : pr_ok b c) : ∃ z', fm_laysRows (nI b) (nI c) z = some z' ∧ pr_ml b c z' ∧ pr_fq [5] [6] z z' ∧ z'.2.2 = z.2.2 := by
  have hb := o.2.1; have hb1 := o.1; have hc := o.2.2.2
  have hN := pr_N_le o
  obtain ⟨_, hall1, hall⟩ := pr_L_lastc o
  unfold fm_laysRows km_pI
  rw [Option.bind_some]
  have h10 : lm_laysRows_10 5000 (nI b) (nI c) 1 0 (va_up z.1 5 0, z.2) = some (nI b, nI c, nI ((c + 1) ^ b), (va_up z.1 5 0, z.2)) := by
    unfold lm_laysRows_10
    refine kq_run0 (fun t => (nI b, nI c, nI ((c + 1) ^ t), nI t, (va_up z.1 5 0, z.2))) b rfl (by omega) (fun t ht => ?_) ?_
    · dsimp only
      unfold fm_laysRows_10
      rw [if_neg (nI_ge ht (by omega)), nI_1, nI_1, pk_mul, Nat.pow_succ]
    · dsimp only
      unfold fm_laysRows_10
      rw [if_pos (nI_le (Nat.le_refl b) (by omega))]
  rw [h10, Option.bind_some]
  dsimp only
  unfold lm_laysRows_31
  refine kq_itb (fun k s => ∃ g, s = (nI b, nI c, nI ((c + 1) ^ b), nI k, (va_up z.1 5 (nI (pr_L b c k).length), va_up z.2.1 6 g, z.2.2)) ∧ ∀ r, r < (pr_L b c k).length → ∀ j, j < b → g (4 * r + j) = nI (pr_dg c ((pr_L b c k).getD r 0) (b - 1 - j)))
    (fun r => ∃ g, r = ((va_up z.1 5 (nI (pr_N b c)), va_up z.2.1 6 g, z.2.2) : km_S) ∧ ∀ k, k < pr_N b c → ∀ j, j < b → g (4 * k + j) = nI (pr_v b c k j)) ((c + 1) ^ b) (by omega) ⟨z.2.1 6, by rw [kj_upf]; rfl, fun r hr => absurd hr (by simp [pr_L])⟩ ?_ ?_ ?_
  · rintro k s hk ⟨g, rfl, g1⟩
    have hlt := pr_L_lt o hk
    dsimp only
    unfold fm_laysRows_31
    rw [if_neg (nI_ge hk (by omega))]
    obtain ⟨g', e1, e2, e3⟩ := pm_cand (z := (va_up z.1 5 (nI (pr_L b c k).length), va_up z.2.1 6 g, z.2.2)) (A := nI ((c + 1) ^ b)) (K := nI k) (I := fun _ => 0) o (show k < 1000 by omega) (R := (pr_L b c k).length) (by dsimp only; rw [va_up_self]) (by omega)
    rw [e1, Option.bind_some]
    dsimp only at e2 e3 ⊢
    rw [va_up_self] at e2
    rw [va_up_self, bx_uu]
    unfold fm_laysRows_156 km_pI
    have hgk : ∀ {l : List Nat} {x r : Nat}, r < l.length → (l ++ [x]).getD r 0 = l.getD r 0 := fun {l x r} h => by
      rw [List.getD_eq_getElem?_getD, List.getElem?_append_left h, ← List.getD_eq_getElem?_getD]
    cases e : pr_cv b c k
    · rw [if_pos (show pq_b false = 0 from rfl), Option.bind_some]
      dsimp only
      refine ⟨_, rfl, g', ?_, fun r hr j hj => ?_⟩
      · rw [bx_uu, nI_1, pr_L_s, e, if_neg (by decide), show nI (pr_L b c k).length + 0 = nI (pr_L b c k).length from nI_add _ 0]
      · rw [pr_L_s, e, if_neg (by decide)] at hr ⊢
        rw [e2 _ (by omega)]; exact g1 r hr j hj
    · rw [if_neg (show ¬ pq_b true = 0 by decide), Option.bind_some]
      dsimp only
      refine ⟨_, rfl, g', ?_, fun r hr j hj => ?_⟩
      · rw [bx_uu, nI_1, nI_1, pr_L_s, e, if_pos rfl, List.length_append]; rfl
      · rw [pr_L_s, e, if_pos rfl] at hr ⊢
        rw [List.length_append] at hr
        simp only [List.length_cons, List.length_nil] at hr
        by_cases er : r < (pr_L b c k).length
        · rw [e2 _ (by omega), hgk er]; exact g1 r er j hj
        · have : r = (pr_L b c k).length := by omega
          subst this
          rw [e3 j hj, List.getD_eq_getElem?_getD, List.getElem?_append_right (Nat.le_refl _), Nat.sub_self]; rfl
  · rintro s ⟨g, rfl, g1⟩
    refine ⟨_, ?_, g, rfl, fun k hk j hj => ?_⟩
    · dsimp only
      unfold fm_laysRows_31
      rw [if_pos (nI_le (Nat.le_refl _) (by omega)), pr_L_N o]
    · rw [g1 k (by rw [pr_L_N o]; exact hk) j hj, pr_L_v o hk hj]
  · rintro r ⟨g, rfl, g1⟩
    refine ⟨_, rfl, ⟨by dsimp only; rw [va_up_self], fun k hk j hj => by dsimp only; rw [va_up_self]; exact g1 k hk j hj⟩, ⟨fun k hk => va_up_ne _ _ (by simpa using hk), fun k hk => va_up_ne _ _ (by simpa using hk)⟩, rfl⟩
def pr_ly (a b c : Nat) (z : km_S) : Prop := pr_ml b c z ∧ ∀ m, m ≤ a → ∀ r, r < pr_N b c → z.2.1 7 (5 * r + m) = nI (pq_U b c m r)
theorem pr_ly_fq {a b c : Nat} {I A : List Nat} {z z' : km_S} (h : pr_ly a b c z) (f : pr_fq I A z z') (h5 : 5 ∉ I) (h6 : 6 ∉ A) (h7 : 7 ∉ A) : pr_ly a b c z' := ⟨pr_ml_fq h.1 f h5 h6, by rw [f.2 7 h7]; exact h.2⟩
theorem pm_lays {z : km_S} {a b c : Nat} (o : pr_ok b c) (ha : 1 ≤ a ∧ a ≤ 4) : ∃ z', fm_lays (nI a) (nI b) (nI c) z = some (nI (pq_U b c a (pr_N b c - 1)), z') ∧ pr_ly a b c z' ∧ pr_fq [5] [6, 7] z z' ∧ z'.2.2 = z.2.2 := by
  have hb := o.2.1; have hb1 := o.1; have hc := o.2.2.2
  have hN := pr_N_le o
  obtain ⟨z0, e0, ml, f0, l0⟩ := pm_laysRows (z := z) o
  have mlg : ∀ g, pr_ml b c (z0.1, va_up z0.2.1 7 g, z0.2.2) := fun g => ⟨ml.1, fun k hk j hj => by dsimp only; rw [va_up_ne _ _ (by decide)]; exact ml.2 k hk j hj⟩
  unfold fm_lays
  rw [e0, Option.bind_some]
  unfold lm_lays_9
  obtain ⟨r, p1, g0, rfl, p2⟩ := kq_it0 (step := fun (s : (Int32 × Int32 × Int32 × km_S)) => fm_lays_9 (s.1) (s.2.1) (s.2.2.1) (s.2.2.2))
    (fun k s => ∃ g, s = (nI a, nI b, nI k, (z0.1, va_up z0.2.1 7 g, z0.2.2)) ∧ ∀ r, r < k → g (5 * r) = 1)
    (fun r => ∃ g, r = (nI a, nI b, ((z0.1, va_up z0.2.1 7 g, z0.2.2) : km_S)) ∧ ∀ r, r < pr_N b c → g (5 * r) = 1) (pr_N b c) (by omega) (by
      rintro k s hk ⟨g, rfl, g1⟩
      dsimp only
      unfold fm_lays_9
      dsimp only
      rw [ml.1, if_neg (nI_ge hk (by omega)), show (5 : Int32) * nI k = nI (5 * k) from pk_mul 5 k, pq_wrg (show 5 * k < 350 by omega), Option.bind_some, nI_1]
      refine ⟨_, rfl, _, rfl, fun r hr => ?_⟩
      by_cases e : r = k
      · subst e; exact pk_us
      · rw [pk_un (by omega)]; exact g1 r (by omega)) (by
      rintro s ⟨g, rfl, g1⟩
      refine ⟨_, ?_, g, rfl, g1⟩
      dsimp only
      unfold fm_lays_9
      dsimp only
      rw [ml.1, if_pos (nI_le (Nat.le_refl _) (by omega))])
    (s := (nI a, nI b, 0, z0)) ⟨z0.2.1 7, by rw [kj_upf]; rfl, fun r hr => absurd hr (by omega)⟩
  rw [p1, Option.bind_some]
  dsimp only
  -- the sum of one row
  have sm : ∀ (g : Nat → Int32) (m r : Nat), m < a → r < pr_N b c → (∀ s, s < pr_N b c → g (5 * s + m) = nI (pq_U b c m s)) → lm_lays_61 5000 (nI a) (nI b) (nI (m + 1)) (nI r) 0 0 (z0.1, va_up z0.2.1 7 g, z0.2.2) = some (nI a, nI b, nI (m + 1), nI r, nI (pq_U b c (m + 1) r), (z0.1, va_up z0.2.1 7 g, z0.2.2)) := by
    intro g m r hm hr hg
    rw [pr_U]
    unfold lm_lays_61
    refine kq_run0 (fun t => (nI a, nI b, nI (m + 1), nI r, nI (pq_sum t (fun s => if pr_LE b c s r then pq_U b c m s else 0)), nI t, (z0.1, va_up z0.2.1 7 g, z0.2.2))) (r + 1) rfl (by omega) (fun t ht => ?_) ?_
    · dsimp only
      unfold fm_lays_61 fm_lays_100
      rw [if_neg (nI_nlt (by omega) (by omega)), pm_isUnder o (mlg g) (by omega) hr, Option.bind_some, pq_sum]
      cases e : pr_LE b c t r
      · rw [if_pos (show pq_b false = 0 from rfl), if_neg (by decide), nI_1]
        simp only [kq_lit, nI_add]
      · rw [if_neg (show ¬ pq_b true = 0 by decide), if_pos rfl, show (5 : Int32) * nI t = nI (5 * t) from pk_mul 5 t, nI_add, ← Nat.add_assoc, nI_pred, pq_rdn (v := nI (pq_U b c m t)) (by dsimp only; rw [va_up_self]; exact hg t (by omega)) (show 5 * t + m < 350 by omega), Option.bind_some, nI_1, nI_add]
    · dsimp only
      unfold fm_lays_61
      rw [if_pos (nI_lt (by omega) (by omega))]
  -- one column
  have col : ∀ (g : Nat → Int32) (m : Nat), m < a → (∀ m', m' ≤ m → ∀ s, s < pr_N b c → g (5 * s + m') = nI (pq_U b c m' s)) → ∃ g', lm_lays_46 5000 (nI a) (nI b) (nI (m + 1)) 0 (z0.1, va_up z0.2.1 7 g, z0.2.2) = some (nI a, nI b, nI (m + 1), (z0.1, va_up z0.2.1 7 g', z0.2.2)) ∧ ∀ m', m' ≤ m + 1 → ∀ s, s < pr_N b c → g' (5 * s + m') = nI (pq_U b c m' s) := by
    intro g m hm hg
    unfold lm_lays_46
    obtain ⟨r, q1, g', rfl, q2, q3⟩ := kq_it0 (step := fun (s : (Int32 × Int32 × Int32 × Int32 × km_S)) => fm_lays_46 (s.1) (s.2.1) (s.2.2.1) (s.2.2.2.1) (s.2.2.2.2))
      (fun k s => ∃ g', s = (nI a, nI b, nI (m + 1), nI k, (z0.1, va_up z0.2.1 7 g', z0.2.2)) ∧ (∀ m', m' ≤ m → ∀ s, s < pr_N b c → g' (5 * s + m') = nI (pq_U b c m' s)) ∧ ∀ s, s < k → g' (5 * s + (m + 1)) = nI (pq_U b c (m + 1) s))
      (fun r => ∃ g', r = (nI a, nI b, nI (m + 1), ((z0.1, va_up z0.2.1 7 g', z0.2.2) : km_S)) ∧ (∀ m', m' ≤ m → ∀ s, s < pr_N b c → g' (5 * s + m') = nI (pq_U b c m' s)) ∧ ∀ s, s < pr_N b c → g' (5 * s + (m + 1)) = nI (pq_U b c (m + 1) s)) (pr_N b c) (by omega) (by
        rintro k s hk ⟨g', rfl, g1, g2⟩
        dsimp only
        unfold fm_lays_46
        dsimp only
        rw [ml.1, if_neg (nI_ge hk (by omega)), sm g' m k hm hk (g1 m (Nat.le_refl m)), Option.bind_some]
        dsimp only
        rw [show (5 : Int32) * nI k = nI (5 * k) from pk_mul 5 k, nI_add, pq_wrg (show 5 * k + (m + 1) < 350 by omega), Option.bind_some, nI_1]
        refine ⟨_, rfl, _, rfl, fun m' hm' s hs => ?_, fun s hs => ?_⟩
        · rw [pk_un (by omega)]; exact g1 m' hm' s hs
        · by_cases e : s = k
          · subst e; exact pk_us
          · rw [pk_un (by omega)]; exact g2 s (by omega)) (by
        rintro s ⟨g', rfl, g1, g2⟩
        refine ⟨_, ?_, g', rfl, g1, g2⟩
        dsimp only
        unfold fm_lays_46
        dsimp only
        rw [ml.1, if_pos (nI_le (Nat.le_refl _) (by omega))])
      (s := (nI a, nI b, nI (m + 1), 0, (z0.1, va_up z0.2.1 7 g, z0.2.2))) ⟨g, rfl, hg, fun s hs => absurd hs (by omega)⟩
    refine ⟨g', q1, fun m' hm' s hs => ?_⟩
    by_cases e : m' = m + 1
    · subst e; exact q3 s hs
    · exact q2 m' (by omega) s hs
  refine kq_pair ?_
  unfold lm_lays_37
  refine kq_itb (fun k s => ∃ g, s = (nI a, nI b, nI (k + 1), (z0.1, va_up z0.2.1 7 g, z0.2.2)) ∧ ∀ m', m' ≤ k → ∀ s, s < pr_N b c → g (5 * s + m') = nI (pq_U b c m' s))
    (fun r => ∃ g, r = (nI a, ((z0.1, va_up z0.2.1 7 g, z0.2.2) : km_S)) ∧ ∀ m', m' ≤ a → ∀ s, s < pr_N b c → g (5 * s + m') = nI (pq_U b c m' s)) a (by omega) ⟨g0, rfl, fun m' hm' s hs => by
      have : m' = 0 := by omega
      subst this
      rw [Nat.add_zero, p2 s hs]; rfl⟩ ?_ ?_ ?_
  · rintro k s hk ⟨g, rfl, g1⟩
    dsimp only
    unfold fm_lays_37
    obtain ⟨g', q1, q2⟩ := col g k hk g1
    rw [if_neg (nI_nlt (by omega) (by omega)), q1, Option.bind_some, nI_1]
    exact ⟨_, rfl, g', rfl, q2⟩
  · rintro s ⟨g, rfl, g1⟩
    refine ⟨_, ?_, g, rfl, g1⟩
    dsimp only
    unfold fm_lays_37
    rw [if_pos (nI_lt (by omega) (by omega))]
  · rintro r ⟨g, rfl, g1⟩
    dsimp only
    rw [ml.1, show nI (pr_N b c) - 1 = nI (pr_N b c - 1) from pk_sub (b := 1) (by omega), show (5 : Int32) * nI (pr_N b c - 1) = nI (5 * (pr_N b c - 1)) from pk_mul 5 _, nI_add, pq_rdn (v := nI (pq_U b c a (pr_N b c - 1))) (by dsimp only; rw [va_up_self]; exact g1 a (Nat.le_refl a) _ (by omega)) (show 5 * (pr_N b c - 1) + a < 350 by omega), Option.bind_some]
    refine ⟨_, rfl, ?_⟩
    refine ⟨rfl, ?_⟩
    exact ⟨⟨mlg g, fun m hm r hr => by dsimp only; rw [va_up_self]; exact g1 m hm r hr⟩, ⟨fun k hk => f0.1 k hk, fun k hk => by
      dsimp only
      rw [va_up_ne _ _ (by intro q; exact hk (by simp [q]))]; exact f0.2 k (by intro q; exact hk (by simp at q; simp [q]))⟩, l0⟩
