/-! WAYS: the reference's search -/
theorem pm_abs {x y : Nat} (hx : x ≤ 4) (hy : y ≤ 4) : (if 0 ≤ nI x - nI y then nI x - nI y else -(nI x - nI y)) = nI ((x - y) + (y - x)) := by
  have : (pq_all 5 fun x => pq_all 5 fun y => decide ((if 0 ≤ nI x - nI y then nI x - nI y else -(nI x - nI y)) = nI ((x - y) + (y - x)))) = true := by decide +kernel
  exact of_decide_eq_true ((pq_all_iff).mp ((pq_all_iff).mp this x (by omega)) y (by omega))
theorem pm_isStep {z : km_S} {x y a b c : Nat} {h g : Nat → Nat} (hb : pq_mb (z.2.1 15) (20 * x) a b c h) (hg : pq_mb (z.2.1 15) (20 * y) a b c g) (hx : x < 200) (hy : y < 200) (h4 : ∀ t, t < 16 → h t ≤ 4) (g4 : ∀ t, t < 16 → g t ≤ 4) : fm_isStep (nI x) (nI y) z = some (pq_b (decide (pr_df h g = 1)), z) := by
  have le : pr_df h g ≤ 16 * 4 := pq_sum_le fun t ht => by have := h4 t ht; have := g4 t ht; omega
  unfold fm_isStep lm_isStep_5
  refine kq_runb (fun t => (nI x, nI y, nI (pq_sum t fun t => (h t - g t) + (g t - h t)), nI (4 + t), z)) 16 (nI (pr_df h g), z) rfl (by omega) (fun t ht => ?_) ?_ ?_
  · dsimp only
    unfold fm_isStep_5 fm_isStep_53
    have e := pm_abs (h4 t ht) (g4 t ht)
    rw [if_neg (show ¬ (20 : Int32) ≤ nI (4 + t) from nI_ge (b := 20) (show 4 + t < 20 by omega) (by omega)), show (20 : Int32) * nI x = nI (20 * x) from pk_mul 20 x, nI_add, pq_rdh hb (show 20 * x + 20 ≤ 4000 by omega) t ht (by omega), Option.bind_some, show (20 : Int32) * nI y = nI (20 * y) from pk_mul 20 y, nI_add, pq_rdh hg (show 20 * y + 20 ≤ 4000 by omega) t ht (by omega), Option.bind_some, nI_1, pq_sum]
    by_cases c1 : 0 ≤ nI (h t) - nI (g t)
    · rw [if_pos c1] at e ⊢
      rw [e, nI_add]; rfl
    · rw [if_neg c1] at e ⊢
      rw [e, nI_add]; rfl
  · dsimp only
    unfold fm_isStep_5
    rw [if_pos (show (20 : Int32) ≤ nI (4 + 16) from nI_le (a := 20) (Nat.le_refl _) (by omega))]; rfl
  · dsimp only
    by_cases c1 : pr_df h g = 1
    · rw [if_pos (show nI (pr_df h g) = 1 by rw [c1]; rfl), decide_eq_true c1]; rfl
    · rw [if_neg (show ¬ nI (pr_df h g) = 1 from mt (nI_eq (b := 1) (by omega) (by omega)).mp c1), decide_eq_false c1]; rfl
theorem pr_mb_in {f g : Nat → Int32} {o a b c : Nat} {h : Nat → Nat} (hb : pq_mb f 0 a b c h) : pq_mb (va_cpy f g 0 o 20) o a b c h := by
  have i := fun t (ht : t < 20) => pq_cpy_in (f := f) (g := g) (i := 0) (j := o) (n := 20) ht
  refine ⟨?_, ?_, ?_, ?_, fun t ht => ?_⟩
  · exact (i 0 (by omega)).trans hb.1
  · rw [i 1 (by omega)]; exact hb.2.1
  · rw [i 2 (by omega)]; exact hb.2.2.1
  · rw [i 3 (by omega)]; exact hb.2.2.2.1
  · rw [Nat.add_assoc, i (4 + t) (by omega), ← Nat.add_assoc]; exact hb.2.2.2.2 t ht
theorem pr_mb_out {f g : Nat → Int32} {o o' a b c : Nat} {h : Nat → Nat} (hb : pq_mb g o' a b c h) (hd : o' + 20 ≤ o ∨ o + 20 ≤ o') : pq_mb (va_cpy f g 0 o 20) o' a b c h := by
  refine ⟨?_, ?_, ?_, ?_, fun t ht => ?_⟩
  · rw [pq_cpy_out (by omega)]; exact hb.1
  · rw [pq_cpy_out (by omega)]; exact hb.2.1
  · rw [pq_cpy_out (by omega)]; exact hb.2.2.1
  · rw [pq_cpy_out (by omega)]; exact hb.2.2.2.1
  · rw [pq_cpy_out (by omega)]; exact hb.2.2.2.2 t ht
theorem pm_wayBlocks {a b c N : Nat} {z : km_S} {X Y W : Int32} (ha : 1 ≤ a ∧ a ≤ 4) (o : pr_ok b c) (hm : a * b * c ≤ 48) (hN0 : pq_U b c a (pr_N b c - 1) = N) (hN : N ≤ 200) (hz : pr_ly a b c z) : ∃ z', lm_way_134 5000 X Y W (nI a) (nI b) (nI c) (nI N) 0 z = some (X, Y, W, nI N, z') ∧ (∀ n, n < N → pq_mb (z'.2.1 15) (20 * n) a b c (pr_hn b c a n)) ∧ pr_fq [] [4, 15] z z' := by
  unfold lm_way_134
  obtain ⟨r, r1, z', rfl, r2, r3⟩ := kq_it0 (step := fun (s : (Int32 × Int32 × Int32 × Int32 × Int32 × Int32 × Int32 × Int32 × km_S)) => fm_way_134 (s.1) (s.2.1) (s.2.2.1) (s.2.2.2.1) (s.2.2.2.2.1) (s.2.2.2.2.2.1) (s.2.2.2.2.2.2.1) (s.2.2.2.2.2.2.2.1) (s.2.2.2.2.2.2.2.2))
    (fun k s => ∃ z', s = (X, Y, W, nI a, nI b, nI c, nI N, nI k, z') ∧ (∀ n, n < k → pq_mb (z'.2.1 15) (20 * n) a b c (pr_hn b c a n)) ∧ pr_fq [] [4, 15] z z')
    (fun r => ∃ z', r = (X, Y, W, nI N, z') ∧ (∀ n, n < N → pq_mb (z'.2.1 15) (20 * n) a b c (pr_hn b c a n)) ∧ pr_fq [] [4, 15] z z') N (by omega) (by
      rintro k s hk ⟨z1, rfl, g1, g2⟩
      obtain ⟨z2, m1, m2, m3, m4⟩ := pm_makes (num := k) ha o hm (pr_ly_fq hz g2 (by decide) (by decide) (by decide)) (by omega)
      dsimp only
      unfold fm_way_134
      rw [if_neg (nI_ge hk (by omega)), m1, Option.bind_some, show (20 : Int32) * nI k = nI (20 * k) from pk_mul 20 k, show fm_bring 4 15 0 (nI (20 * k)) 20 z2 = _ from kq_bring (k0 := 4) (k1 := 15) (i := 0) (j := 20 * k) (n := 20) (z := z2) (show 0 + 20 ≤ 20 by omega) (show 20 * k + 20 ≤ 4000 by omega) (by omega) (fun e => absurd e (by decide)), Option.bind_some, nI_1]
      refine ⟨_, rfl, _, rfl, fun n hn => ?_, pr_fq_t g2 (pr_fq_t (pr_fq_w m3 (by simp) (by simp)) ⟨fun _ _ => rfl, fun i hi => ?_⟩)⟩
      · dsimp only
        rw [va_up_self]
        by_cases e : n = k
        · subst e; exact pr_mb_in m2
        · refine pr_mb_out ?_ (by omega)
          rw [m3.2 15 (by decide)]; exact g1 n (by omega)
      · dsimp only
        exact va_up_ne _ _ (by simp at hi; omega)) (by
      rintro s ⟨z1, rfl, g1, g2⟩
      refine ⟨_, ?_, z1, rfl, g1, g2⟩
      dsimp only
      unfold fm_way_134
      rw [if_pos (nI_le (Nat.le_refl N) (by omega))])
    (s := (X, Y, W, nI a, nI b, nI c, nI N, 0, z)) ⟨z, rfl, fun n hn => absurd hn (by omega), pr_fq_r⟩
  exact ⟨z', r1, r2, r3⟩
/-- the reference's queue Q and the lengths dd -/
def pr_ms (a b c N : Nat) (z : km_S) (Q : List Nat) (dd : Nat → Nat) : Prop :=
  (∀ n, n < N → pq_mb (z.2.1 15) (20 * n) a b c (pr_hn b c a n)) ∧ (∀ y, y < N → z.2.1 16 y = if y ∈ Q then nI (dd y) else -1000000) ∧ (∀ i, i < Q.length → z.2.1 17 i = nI (Q.getD i 0)) ∧ ∀ y, y ∈ Q → y < N
theorem pr_ms_len {a b c N : Nat} {z : km_S} {Q : List Nat} {dd : Nat → Nat} (h : pr_ms a b c N z Q dd) (hn : Q.Nodup) : Q.length ≤ N := by
  have := pr_php Q (List.range N) hn fun x hx => List.mem_range.mpr (h.2.2.2 x hx)
  rwa [List.length_range] at this
theorem pr_ms_lt {a b c N y : Nat} {z : km_S} {Q : List Nat} {dd : Nat → Nat} (h : pr_ms a b c N z Q dd) (hn : Q.Nodup) (hy : y < N) (hq : y ∉ Q) : Q.length < N := by
  have := pr_php (y :: Q) (List.range N) (List.nodup_cons.mpr ⟨hq, hn⟩) fun x hx => by
    rw [List.mem_range]
    rcases List.mem_cons.mp hx with rfl | hx
    · exact hy
    · exact h.2.2.2 x hx
  rw [List.length_range, List.length_cons] at this
  omega
theorem pr_ms_add {a b c N y d : Nat} {z : km_S} {Q : List Nat} {dd : Nat → Nat} (h : pr_ms a b c N z Q dd) (hy : y < N) (hq : y ∉ Q) : pr_ms a b c N (z.1, va_up (va_up z.2.1 16 (upd (z.2.1 16) y (nI d))) 17 (upd (z.2.1 17) Q.length (nI y)), z.2.2) (Q ++ [y]) (pq_u dd y d) := by
  obtain ⟨h1, h2, h3, h4⟩ := h
  refine ⟨fun n hn => ?_, fun u hu => ?_, fun i hi => ?_, fun u hu => ?_⟩
  · dsimp only
    rw [va_up_ne _ _ (by decide), va_up_ne _ _ (by decide)]; exact h1 n hn
  · dsimp only
    rw [va_up_ne _ _ (by decide), va_up_self]
    by_cases e : u = y
    · subst e
      rw [pk_us, if_pos (by simp)]; unfold pq_u; rw [if_pos rfl]
    · rw [pk_un e, h2 u hu]
      by_cases c1 : u ∈ Q
      · rw [if_pos c1, if_pos (List.mem_append_left _ c1)]; unfold pq_u; rw [if_neg e]
      · rw [if_neg c1, if_neg (show ¬ u ∈ Q ++ [y] by rw [List.mem_append, List.mem_singleton]; exact not_or.mpr ⟨c1, e⟩)]
  · dsimp only
    rw [va_up_self]
    rw [List.length_append] at hi
    simp only [List.length_cons, List.length_nil] at hi
    by_cases e : i < Q.length
    · rw [pk_un (by omega), h3 i e, List.getD_eq_getElem?_getD, List.getD_eq_getElem?_getD, List.getElem?_append_left e]
    · have : i = Q.length := by omega
      subst this
      rw [pk_us, List.getD_eq_getElem?_getD, List.getElem?_append_right (Nat.le_refl _), Nat.sub_self]; rfl
  · rcases List.mem_append.mp hu with q | q
    · exact h4 u q
    · rw [List.mem_singleton] at q; subst q; exact hy
theorem pm_wayFrom {a b c m f t N : Nat} {z : km_S} (ha : 1 ≤ a ∧ a ≤ 4) (o : pr_ok b c) (hm : a * b * c ≤ 48) (hm9 : m ≤ 9) (hN0 : pq_U b c a (pr_N b c - 1) = N) (hN : N ≤ 200) (hf : f < N) (ht : t < N) (hz : ∀ n, n < N → pq_mb (z.2.1 15) (20 * n) a b c (pr_hn b c a n)) :
    ∃ z' v, fm_wayFrom (nI N) (nI f) (nI t) (nI m) z = some (v, z') ∧ pr_fq [] [16, 17] z z' ∧ ((∃ d, pr_ds (pr_adj a b c) (pr_exp a b c m f t) f d t ∧ v = nI d) ∨ ((∀ j, ¬ pr_P (pr_adj a b c) (pr_exp a b c m f t) f j t) ∧ v = -1000000)) := by
  have hv : ∀ n, n < N → pq_hv a b c (pr_hn b c a n) := fun n hn => pr_hn_hv ha o hm (by omega)
  unfold fm_wayFrom
  -- all far
  have fill : ∃ z1, lm_wayFrom_3 5000 (nI N) (nI f) (nI t) (nI m) 0 z = some (nI N, nI f, nI t, nI m, z1) ∧ (∀ y, y < N → z1.2.1 16 y = -1000000) ∧ pr_fq [] [16] z z1 := by
    unfold lm_wayFrom_3
    obtain ⟨r, r1, z', rfl, r2, r3⟩ := kq_it0 (step := fun (s : (Int32 × Int32 × Int32 × Int32 × Int32 × km_S)) => fm_wayFrom_3 (s.1) (s.2.1) (s.2.2.1) (s.2.2.2.1) (s.2.2.2.2.1) (s.2.2.2.2.2))
      (fun k s => ∃ z', s = (nI N, nI f, nI t, nI m, nI k, z') ∧ (∀ y, y < k → z'.2.1 16 y = -1000000) ∧ pr_fq [] [16] z z')
      (fun r => ∃ z', r = (nI N, nI f, nI t, nI m, z') ∧ (∀ y, y < N → z'.2.1 16 y = -1000000) ∧ pr_fq [] [16] z z') N (by omega) (by
        rintro k s hk ⟨z1, rfl, g1, g2⟩
        dsimp only
        unfold fm_wayFrom_3
        rw [if_neg (nI_ge hk (by omega)), kq_wr (show k < 200 by omega) kq_km, Option.bind_some, nI_1]
        refine ⟨_, rfl, _, rfl, fun y hy => ?_, pr_fq_t g2 ⟨fun _ _ => rfl, fun i hi => ?_⟩⟩
        · dsimp only
          rw [va_up_self]
          by_cases e : y = k
          · subst e; rw [pk_us]
          · rw [pk_un e]; exact g1 y (by omega)
        · dsimp only
          exact va_up_ne _ _ (by simpa using hi)) (by
        rintro s ⟨z1, rfl, g1, g2⟩
        refine ⟨_, ?_, z1, rfl, g1, g2⟩
        dsimp only
        unfold fm_wayFrom_3
        rw [if_pos (nI_le (Nat.le_refl N) (by omega))])
      (s := (nI N, nI f, nI t, nI m, 0, z)) ⟨z, rfl, fun n hn => absurd hn (by omega), pr_fq_r⟩
    exact ⟨z', r1, r2, r3⟩
  obtain ⟨z1, f1, f2, f3⟩ := fill
  rw [f1, Option.bind_some]
  dsimp only
  rw [show km_wr z1 17 0 (nI f) = _ from kq_wr (k := 17) (j := 0) (show 0 < 200 by omega) kq_km, Option.bind_some, kq_wr (k := 16) (j := f) (show f < 200 by omega) kq_km, Option.bind_some]
  dsimp only
  rw [va_up_ne _ _ (show (16 : Nat) ≠ 17 by decide)]
  have ms0 : pr_ms a b c N (z1.1, va_up (va_up z1.2.1 17 (upd (z1.2.1 17) 0 (nI f))) 16 (upd (z1.2.1 16) f 0), z1.2.2) [f] (fun _ => 0) := by
    refine ⟨fun n hn => ?_, fun u hu => ?_, fun i hi => ?_, fun u hu => ?_⟩
    · dsimp only
      rw [va_up_ne _ _ (by decide), va_up_ne _ _ (by decide), f3.2 15 (by decide)]; exact hz n hn
    · dsimp only
      rw [va_up_self]
      by_cases e : u = f
      · subst e; rw [pk_us, if_pos (by simp)]; rfl
      · rw [pk_un e, if_neg (show ¬ u ∈ [f] by simpa using e)]; exact f2 u hu
    · dsimp only
      rw [va_up_ne _ _ (by decide), va_up_self]
      have : i = 0 := by simp at hi; omega
      subst this
      rw [pk_us]; rfl
    · rw [List.mem_singleton] at hu; subst hu; exact hf
  have fq0 : pr_fq [] [16, 17] z (z1.1, va_up (va_up z1.2.1 17 (upd (z1.2.1 17) 0 (nI f))) 16 (upd (z1.2.1 16) f 0), z1.2.2) := by
    refine pr_fq_t (pr_fq_w f3 (by simp) (by simp)) ⟨fun _ _ => rfl, fun i hi => ?_⟩
    simp at hi
    dsimp only
    rw [va_up_ne _ _ hi.1, va_up_ne _ _ hi.2]
  generalize (z1.1, va_up (va_up z1.2.1 17 (upd (z1.2.1 17) 0 (nI f))) 16 (upd (z1.2.1 16) f 0), z1.2.2) = z0 at ms0 fq0 ⊢
  -- the neighbours of one
  have exp : ∀ (z' : km_S) (Q : List Nat) (dd : Nat → Nat) (k : Nat) (op : Bool), k < Q.length → pr_ms a b c N z' Q dd → pr_BI (pr_adj a b c) (pr_exp a b c m f t) f Q dd k → pr_fq [] [16, 17] z z' → (op = true ↔ pr_exp a b c m f t (Q.getD k 0)) → ∃ z2 Q2 dd2, fm_wayFrom_100 (nI N) (nI f) (nI t) (nI m) (nI Q.length) (nI k) (nI (Q.getD k 0)) (pq_b op) z' = some (.inl (nI N, nI f, nI t, nI m, nI Q2.length, nI (k + 1), z2)) ∧ pr_ms a b c N z2 Q2 dd2 ∧ pr_BI (pr_adj a b c) (pr_exp a b c m f t) f Q2 dd2 (k + 1) ∧ k + 1 ≤ Q2.length ∧ pr_fq [] [16, 17] z z2 := by
    intro z' Q dd k op hk hs hbi hfq hop
    unfold fm_wayFrom_100 fm_wayFrom_173
    have hx : Q.getD k 0 < N := hs.2.2.2 _ (pr_gDm hk)
    cases op
    · have nex : ¬ pr_exp a b c m f t (Q.getD k 0) := fun q => absurd (hop.mpr q) (by decide)
      have l : lm_wayFrom_105 5000 (nI N) (nI f) (nI t) (nI m) (nI Q.length) (nI k) (nI (Q.getD k 0)) (pq_b false) 0 z' = some (nI N, nI f, nI t, nI m, nI Q.length, nI k, z') := by
        unfold lm_wayFrom_105
        refine kq_run0 (fun _ => (nI N, nI f, nI t, nI m, nI Q.length, nI k, nI (Q.getD k 0), pq_b false, 0, z')) 0 rfl (by omega) (fun k hk => absurd hk (by omega)) ?_
        dsimp only
        unfold fm_wayFrom_105
        rw [if_neg (show ¬ nI N ≤ 0 from nI_ge (a := 0) (by omega) (by omega)), if_pos (show pq_b false = 0 from rfl)]
      rw [l, Option.bind_some, nI_1]
      exact ⟨z', Q, dd, rfl, hs, pr_BI_next hbi hk fun q => absurd q nex, hk, hfq⟩
    · have ex := hop.mp rfl
      have l : ∃ z2 Q2 dd2, lm_wayFrom_105 5000 (nI N) (nI f) (nI t) (nI m) (nI Q.length) (nI k) (nI (Q.getD k 0)) (pq_b true) 0 z' = some (nI N, nI f, nI t, nI m, nI Q2.length, nI k, z2) ∧ pr_ms a b c N z2 Q2 dd2 ∧ pr_BI (pr_adj a b c) (pr_exp a b c m f t) f Q2 dd2 k ∧ (∃ e, Q2 = Q ++ e) ∧ pr_fq [] [16, 17] z z2 ∧ ∀ y, y < N → pr_adj a b c (Q.getD k 0) y → y ∈ Q2 := by
        unfold lm_wayFrom_105
        obtain ⟨r, r1, z2, Q2, dd2, rfl, r2, r3, r4, r5, r6⟩ := kq_it0 (step := fun (s : (Int32 × Int32 × Int32 × Int32 × Int32 × Int32 × Int32 × Int32 × Int32 × km_S)) => fm_wayFrom_105 (s.1) (s.2.1) (s.2.2.1) (s.2.2.2.1) (s.2.2.2.2.1) (s.2.2.2.2.2.1) (s.2.2.2.2.2.2.1) (s.2.2.2.2.2.2.2.1) (s.2.2.2.2.2.2.2.2.1) (s.2.2.2.2.2.2.2.2.2))
          (fun n s => ∃ z2 Q2 dd2, s = (nI N, nI f, nI t, nI m, nI Q2.length, nI k, nI (Q.getD k 0), pq_b true, nI n, z2) ∧ pr_ms a b c N z2 Q2 dd2 ∧ pr_BI (pr_adj a b c) (pr_exp a b c m f t) f Q2 dd2 k ∧ (∃ e, Q2 = Q ++ e) ∧ pr_fq [] [16, 17] z z2 ∧ ∀ y, y < n → pr_adj a b c (Q.getD k 0) y → y ∈ Q2)
          (fun r => ∃ z2 Q2 dd2, r = (nI N, nI f, nI t, nI m, nI (List.length Q2), nI k, z2) ∧ pr_ms a b c N z2 Q2 dd2 ∧ pr_BI (pr_adj a b c) (pr_exp a b c m f t) f Q2 dd2 k ∧ (∃ e, Q2 = Q ++ e) ∧ pr_fq [] [16, 17] z z2 ∧ ∀ y, y < N → pr_adj a b c (Q.getD k 0) y → y ∈ Q2) N (by omega) (by
            rintro y s hy ⟨z2, Q2, dd2, rfl, g1, g2, ⟨e, g3⟩, g4, g5⟩
            have gk : Q2.getD k 0 = Q.getD k 0 := by
              rw [g3, List.getD_eq_getElem?_getD, List.getElem?_append_left hk, ← List.getD_eq_getElem?_getD]
            have hkQ : k < Q2.length := by rw [g3, List.length_append]; omega
            have xin : Q.getD k 0 ∈ Q2 := by rw [← gk]; exact pr_gDm hkQ
            have len := pr_ms_len g1 g2.1
            dsimp only
            unfold fm_wayFrom_105 fm_wayFrom_167
            rw [if_neg (nI_ge hy (by omega)), if_neg (show ¬ pq_b true = 0 by decide), kq_rd (show y < 200 by omega) kq_km, Option.bind_some, g1.2.1 y hy]
            by_cases c1 : y ∈ Q2
            · have dl := g2.2.2.2.2.2.2 y c1
              rw [if_pos c1, if_neg (show ¬ nI (dd2 y) = -1000000 from fun e => absurd (e ▸ nI_pos (n := dd2 y) (by omega)) (by decide)), nI_1]
              refine ⟨_, rfl, z2, Q2, dd2, rfl, g1, g2, ⟨e, g3⟩, g4, fun u hu hau => ?_⟩
              by_cases eu : u = y
              · subst eu; exact c1
              · exact g5 u (by omega) hau
            · rw [if_neg c1, if_pos rfl, pm_isStep (g1.1 _ hx) (g1.1 y hy) (by omega) (by omega) (pq_hv_h (hv _ hx)) (pq_hv_h (hv _ hy)), Option.bind_some]
              dsimp only
              by_cases c2 : pr_df (pr_hn b c a (Q.getD k 0)) (pr_hn b c a y) = 1
              · have ad : pr_adj a b c (Q.getD k 0) y := ⟨by omega, by omega, c2⟩
                have lt := pr_ms_lt g1 g2.1 hy c1
                have bi := pr_BI_add (y := y) g2 hkQ (by rw [gk]; exact ex) (by rw [gk]; exact ad) c1
                rw [gk] at bi
                rw [if_neg (show ¬ pq_b (decide (pr_df (pr_hn b c a (Q.getD k 0)) (pr_hn b c a y) = 1)) = 0 by rw [decide_eq_true c2]; decide), kq_rd (show Q.getD k 0 < 200 by omega) kq_km, Option.bind_some, g1.2.1 _ hx, if_pos xin, nI_1, kq_wr (show y < 200 by omega) kq_km, Option.bind_some, kq_wr (show Q2.length < 200 by omega) kq_km, Option.bind_some, nI_1, nI_1]
                dsimp only
                rw [va_up_ne _ _ (show (17 : Nat) ≠ 16 by decide)]
                refine ⟨_, rfl, _, Q2 ++ [y], pq_u dd2 y (dd2 (Q.getD k 0) + 1), ?_, pr_ms_add g1 hy c1, bi, ⟨e ++ [y], by rw [g3, List.append_assoc]⟩, pr_fq_t g4 ⟨fun _ _ => rfl, fun i hi => ?_⟩, fun u hu hau => ?_⟩
                · rw [List.length_append]; rfl
                · simp at hi
                  dsimp only
                  rw [va_up_ne _ _ hi.2, va_up_ne _ _ hi.1]
                · by_cases eu : u = y
                  · subst eu; simp
                  · exact List.mem_append_left _ (g5 u (by omega) hau)
              · rw [if_pos (show pq_b (decide (pr_df (pr_hn b c a (Q.getD k 0)) (pr_hn b c a y) = 1)) = 0 by rw [decide_eq_false c2]; rfl), nI_1]
                refine ⟨_, rfl, z2, Q2, dd2, rfl, g1, g2, ⟨e, g3⟩, g4, fun u hu hau => ?_⟩
                by_cases eu : u = y
                · subst eu; exact absurd hau.2.2 c2
                · exact g5 u (by omega) hau) (by
            rintro s ⟨z2, Q2, dd2, rfl, g1, g2, g3, g4, g5⟩
            refine ⟨_, ?_, z2, Q2, dd2, rfl, g1, g2, g3, g4, g5⟩
            dsimp only
            unfold fm_wayFrom_105
            rw [if_pos (nI_le (Nat.le_refl N) (by omega))])
          (s := (nI N, nI f, nI t, nI m, nI Q.length, nI k, nI (Q.getD k 0), pq_b true, 0, z')) ⟨z', Q, dd, rfl, hs, hbi, ⟨[], by simp⟩, hfq, fun y hy => absurd hy (by omega)⟩
        exact ⟨z2, Q2, dd2, r1, r2, r3, r4, r5, r6⟩
      obtain ⟨z2, Q2, dd2, l1, l2, l3, ⟨e, l4⟩, l5, l6⟩ := l
      have gk : Q2.getD k 0 = Q.getD k 0 := by
        rw [l4, List.getD_eq_getElem?_getD, List.getElem?_append_left hk, ← List.getD_eq_getElem?_getD]
      have hkQ : k < Q2.length := by rw [l4, List.length_append]; omega
      rw [l1, Option.bind_some, nI_1]
      refine ⟨z2, Q2, dd2, rfl, l2, pr_BI_next l3 hkQ fun _ y hy => ?_, hkQ, l5⟩
      rw [gk] at hy
      exact l6 y (by have := hy.2.1; omega) hy
  unfold lm_wayFrom_44
  obtain ⟨r, l1, z', Q, dd, rfl, l2, l3, l4, l5, l6⟩ := kq_ite0 (step := fun (s : (Int32 × Int32 × Int32 × Int32 × Int32 × Int32 × km_S)) => fm_wayFrom_44 (s.1) (s.2.1) (s.2.2.1) (s.2.2.2.1) (s.2.2.2.2.1) (s.2.2.2.2.2.1) (s.2.2.2.2.2.2))
    (fun k s => ∃ z' Q dd, s = (nI N, nI f, nI t, nI m, nI (List.length Q), nI k, z') ∧ pr_ms a b c N z' Q dd ∧ pr_BI (pr_adj a b c) (pr_exp a b c m f t) f Q dd k ∧ k ≤ Q.length ∧ pr_fq [] [16, 17] z z')
    (fun r => ∃ z' Q dd, r = (nI t, z') ∧ pr_ms a b c N z' Q dd ∧ pr_fq [] [16, 17] z z' ∧ (∀ y, y ∈ Q → dd y < 200) ∧ (t ∈ Q → pr_ds (pr_adj a b c) (pr_exp a b c m f t) f (dd t) t) ∧ (t ∉ Q → ∀ j, ¬ pr_P (pr_adj a b c) (pr_exp a b c m f t) f j t)) N (by omega) (by
      rintro k s hk ⟨z', Q, dd, rfl, g1, g2, g3, g4⟩
      have len := pr_ms_len g1 g2.1
      dsimp only
      unfold fm_wayFrom_44
      by_cases c1 : Q.length ≤ k
      · rw [if_pos (nI_le c1 (by omega))]
        exact Or.inr ⟨_, rfl, z', Q, dd, rfl, g1, g4, (fun y hy => by have := g2.2.2.2.2.2.2 y hy; omega), g2.2.2.1 t, fun hq j hp => hq (pr_BI_all g2 c1 j t hp)⟩
      · have kl : k < Q.length := by omega
        have hx := g1.2.2.2 _ (pr_gDm kl)
        have fin : ∀ op : Bool, (op = true ↔ pr_exp a b c m f t (Q.getD k 0)) → ∃ s', fm_wayFrom_100 (nI N) (nI f) (nI t) (nI m) (nI Q.length) (nI k) (nI (Q.getD k 0)) (pq_b op) z' = some (.inl s') ∧ ∃ z' Q dd, s' = (nI N, nI f, nI t, nI m, nI (List.length Q), nI (k + 1), z') ∧ pr_ms a b c N z' Q dd ∧ pr_BI (pr_adj a b c) (pr_exp a b c m f t) f Q dd (k + 1) ∧ k + 1 ≤ Q.length ∧ pr_fq [] [16, 17] z z' := by
          intro op hop
          obtain ⟨z2, Q2, dd2, e1, e2, e3, e4, e5⟩ := exp z' Q dd k op kl g1 g2 g4 hop
          exact ⟨_, e1, z2, Q2, dd2, rfl, e2, e3, e4, e5⟩
        rw [if_neg (nI_ge kl (by omega)), kq_rd (show k < 200 by omega) kq_km, Option.bind_some, g1.2.2.1 k kl]
        refine Or.inl ?_
        unfold fm_wayFrom_95 fm_wayFrom_99
        by_cases q1 : Q.getD k 0 = f
        · rw [if_pos (by rw [q1])]
          exact fin true ⟨fun _ => Or.inl q1, fun _ => rfl⟩
        rw [if_neg (mt (nI_eq (by omega) (by omega)).mp q1)]
        by_cases q2 : Q.getD k 0 = t
        · rw [if_pos (by rw [q2])]
          exact fin false ⟨fun e => absurd e (by decide), fun q => by rcases q with q | q; exact absurd q q1; exact absurd q2 q.1⟩
        rw [if_neg (mt (nI_eq (by omega) (by omega)).mp q2)]
        by_cases q3 : m = 0
        · rw [if_pos (show nI m = 0 by rw [q3]; rfl)]
          exact fin true ⟨fun _ => Or.inr ⟨q2, by unfold pr_fb; rw [decide_eq_false (fun q => q.1 q3)]⟩, fun _ => rfl⟩
        have m0 : ¬ nI m = 0 := nI_ne0 (by omega) (by omega)
        have vl := pq_sum_le (n := 16) (m := 4) (pq_hv_h (hv _ hx))
        rw [if_neg m0, show (20 : Int32) * nI (Q.getD k 0) = nI (20 * Q.getD k 0) from pk_mul 20 _, pm_volume (g1.1 _ hx).2.2.2.2 (show 20 * Q.getD k 0 + 20 ≤ 4000 by omega), Option.bind_some, if_neg m0]
        dsimp only
        rw [pk_rem (by omega) (by omega) (by omega)]
        have ml := Nat.mod_lt (pq_sum 16 (pr_hn b c a (Q.getD k 0))) (show 0 < m by omega)
        by_cases q4 : pq_sum 16 (pr_hn b c a (Q.getD k 0)) % m = 0
        · rw [if_pos (show nI (pq_sum 16 (pr_hn b c a (Q.getD k 0)) % m) = 0 by rw [q4]; rfl)]
          exact fin false ⟨fun e => absurd e (by decide), fun q => by
            rcases q with q | q
            · exact absurd q q1
            · have := q.2
              unfold pr_fb at this
              rw [decide_eq_true ⟨q3, q4⟩] at this; cases this⟩
        · rw [if_neg (nI_ne0 (by omega) (by omega))]
          exact fin true ⟨fun _ => Or.inr ⟨q2, by unfold pr_fb; rw [decide_eq_false (fun q => q4 q.2)]⟩, fun _ => rfl⟩) (by
      rintro s ⟨z', Q, dd, rfl, g1, g2, g3, g4⟩
      have len := pr_ms_len g1 g2.1
      dsimp only
      unfold fm_wayFrom_44
      rw [if_pos (nI_le (by omega) (by omega))]
      exact ⟨_, rfl, z', Q, dd, rfl, g1, g4, (fun y hy => by have := g2.2.2.2.2.2.2 y hy; omega), g2.2.2.1 t, fun hq j hp => hq (pr_BI_all g2 (by omega) j t hp)⟩)
    (s := (nI N, nI f, nI t, nI m, 1, 0, z0)) ⟨z0, [f], _, rfl, ms0, pr_BI_0 rfl, by simp, fq0⟩
  rw [l1, Option.bind_some]
  dsimp only
  rw [kq_rd (show t < 200 by omega) kq_km, Option.bind_some, l2.2.1 t ht]
  by_cases c2 : t ∈ Q
  · rw [if_pos c2]
    exact ⟨z', _, rfl, l3, Or.inl ⟨dd t, l5 c2, rfl⟩⟩
  · rw [if_neg c2]
    exact ⟨z', _, rfl, l3, Or.inr ⟨l6 c2, rfl⟩⟩
/-- way(x, y, m) -/
theorem pq_s24 (cA : Nat → ClassId) : kl_s24 cA (pq_Inv cA) := by
  intro zx P zm hI a1 a2 a3
  have hp := hI.2.2.2.1
  unfold vc_way fm_way
  rcases pq_place hp a1 with ⟨q1, q2⟩ | ⟨p, ad, a, b, c, h, bx, hp4, rfl, q1, q2, q3, H, e1, e2, hb⟩
  · rw [q2]
    obtain ⟨o3, ho3, ho3'⟩ : ∃ o3 : Option Nat, fc_heapAt P a2 zx = some (o3, zx) ∧ True := by
      rcases pq_place hp a2 with ⟨r1, r2⟩ | ⟨p', ad', a', b', c', h', bx', _, _, r1, _⟩
      · exact ⟨_, r1, trivial⟩
      · exact ⟨_, r1, trivial⟩
    exact ⟨_, q1, _, ho3, fun _ => ⟨_, rfl, rfl, hI⟩, fun a3 e => by cases e⟩
  rcases pq_place hp a2 with ⟨r1, r2⟩ | ⟨p', ad', a', b', c', h', bx', hp4', rfl, r1, r2, r3, H', e1', e2', hb'⟩
  · refine ⟨_, q1, _, r1, fun e => (by cases e), fun a3 e => ⟨fun _ => ?_, fun a7 e => by cases e⟩⟩
    rw [q2]
    simp only [Option.bind_some, if_neg kq_10]
    rw [r2]; exact ⟨_, rfl, rfl, hI⟩
  refine ⟨_, q1, _, r1, fun e => (by cases e), fun a5 e => ⟨fun e => (by cases e), fun a7 e' => ?_⟩⟩
  cases e; cases e'
  have ha := H.1; have hb4 := H.2.1; have hc4 := H.2.2.1
  have ha' := H'.1; have hb4' := H'.2.1; have hc4' := H'.2.2.1
  have hm := H.2.2.2.1
  have o := pr_hv H
  have hN := pr_N_le o
  have hl : 20 * p + 20 ≤ km_len 0 := by show 20 * p + 20 ≤ 80; omega
  have hl' : 20 * p' + 20 ≤ km_len 0 := by show 20 * p' + 20 ≤ 80; omega
  rw [q2]
  simp only [Option.bind_some, if_neg kq_10, r2]
  rw [show (9 : Int32) = nI 9 from rfl, pq_in0 (by omega)]
  refine ⟨fun c1 => ?_, fun c1 => ⟨fun c2 => ?_, fun c2 => ?_⟩⟩
  · rw [if_pos (Or.inl c1)]; exact ⟨_, rfl, rfl, hI⟩
  case refine_3 => rw [if_pos (Or.inr (Int32.not_le.mp c2))]; exact ⟨_, rfl, rfl, hI⟩
  obtain ⟨m, hm9, rfl⟩ := nI_of2 (x := a3) (M := nI 9) (n := 9) rfl c1 c2
  rw [if_neg (not_or.mpr ⟨c1, Int32.not_lt.mpr c2⟩), Option.bind_some, if_neg kq_10, pm_alike hp4 hp4' H H' hb hb', Option.bind_some]
  refine ⟨_, e1, _, e1', _, e2, _, e2', _, pq_same ha.2 hb4.2 hc4.2 ha'.2 hb4'.2 hc4'.2, fun n => ?_, fun n => ?_⟩
  · rw [if_pos n]; exact ⟨_, rfl, rfl, hI⟩
  rw [if_neg n]
  by_cases same : a = a' ∧ b = b' ∧ c = c'
  case neg => rw [decide_eq_false same] at n; exact absurd rfl n
  obtain ⟨rfl, rfl, rfl⟩ := same
  -- the reference's numbers
  obtain ⟨K, hK⟩ := pr_kx_ex H
  obtain ⟨K', hK'⟩ := pr_kx_ex H'
  have hf := pr_num_lt H hK
  have ht := pr_num_lt H' hK'
  have ef : lN (pq_enc (pr_hn b c a (pr_num b c a K)) 16) = lN (pq_enc h 16) := by rw [pq_enc_eq (pr_hn_num H hK)]
  have et : lN (pq_enc (pr_hn b c a (pr_num b c a K')) 16) = lN (pq_enc h' 16) := by rw [pq_enc_eq (pr_hn_num H' hK')]
  obtain ⟨z1, n1, _, n3, _⟩ := pm_numberOf (z := zm) (k0 := 0) H hb hl (by decide) (by decide) hK
  have f1 : z1.2.1 0 = zm.2.1 0 := n3.2 0 (by decide)
  obtain ⟨z2, p1, _, p3, _⟩ := pm_numberOf (z := z1) (k0 := 0) H' (by rw [f1]; exact hb') hl' (by decide) (by decide) hK'
  have hb2 : pq_mb (z2.2.1 0) (20 * p) a b c h := by rw [p3.2 0 (by decide), f1]; exact hb
  obtain ⟨z3, l1, l2, l3, _⟩ := pm_lays (z := z2) o ha
  have fq : pr_fq [5] [6, 7] zm z3 := pr_fq_t (pr_fq_t n3 p3) l3
  have hU := pr_U_lt o (m := a) (k := pr_N b c - 1) ha.2 (by omega)
  generalize pr_num b c a K = f at *
  generalize pr_num b c a K' = t at *
  rw [show (20 : Int32) * nI p = nI (20 * p) from pk_mul 20 p, show (20 : Int32) * nI p' = nI (20 * p') from pk_mul 20 p', n1, Option.bind_some]
  dsimp only
  rw [p1, Option.bind_some]
  dsimp only
  rw [show nI (20 * p) + 1 = nI (20 * p + 1) from nI_add _ 1, pq_rda hb2 hl, Option.bind_some, show nI (20 * p) + 2 = nI (20 * p + 2) from nI_add _ 2, pq_rdb hb2 hl, Option.bind_some, show nI (20 * p) + 3 = nI (20 * p + 3) from nI_add _ 3, pq_rdc hb2 hl, Option.bind_some, l1, Option.bind_some]
  dsimp only
  refine ⟨_, e1, pr_rowsOf hI e2 o fun adr q r Pa Pb zx' hz hx hat hI2 => ?_⟩
  refine ⟨_, hx.1 _ _ e1, _, hx.2 _ _ e2, adr, rfl, q, _, r, Pa, Pb, rfl, _, pr_heapsWith ha o hat.1, fun c3 => ?_, fun c3 => ?_⟩
  · dsimp only at c3 ⊢
    have hn : pq_U b c a (pr_N b c - 1) ≤ 200 := (nI_leI (b := 200) (by omega) (by omega)).mp c3
    rw [if_pos c3]
    obtain ⟨zx1, s1, s2, s3, s4, s5⟩ := pr_prepare (zx := zx') ha o hm hn hm9
    obtain ⟨zx2, v, t1, t2, t3⟩ := pr_shortest (m := m) ha o hm hn hf ht s2 s3 s4
    rw [ef, et] at t1
    obtain ⟨z4, w1, w2, w3⟩ := pm_wayBlocks (X := nI m) (Y := nI f) (W := nI t) ha o hm rfl hn l2
    obtain ⟨z5, v', x1, x2, x3⟩ := pm_wayFrom (m := m) ha o hm hm9 rfl hn hf ht w2
    have ev : v = v' := by
      rcases t3 with ⟨d, d1, rfl⟩ | ⟨d1, rfl⟩
      · rcases x3 with ⟨d', d1', rfl⟩ | ⟨d1', rfl⟩
        · rw [pr_ds_u d1 d1']
        · exact absurd d1.1 (d1' d)
      · rcases x3 with ⟨d', d1', rfl⟩ | ⟨d1', rfl⟩
        · exact absurd d1'.1 (d1 d')
        · rfl
    refine ⟨_, hx.1 _ _ e1, _, hx.2 _ _ e2, _, s1, _, hx.1 _ _ e1, _, hx.1 _ _ e1, _, hx.1 _ _ e1', _, hx.2 _ _ e2, _, t1, ?_⟩
    rw [w1, Option.bind_some]
    dsimp only
    rw [x1, Option.bind_some]
    refine ⟨_, rfl, ev, pr_sf_Inv (pr_sf_t s5 t2) (pr_Inv_m (I := [5]) (A := [4, 6, 7, 15, 16, 17]) hI2 ?_ (by decide) (by intro k hk; simp; omega))⟩
    exact pr_fq_t (pr_fq_w fq (by simp) (by simp)) (pr_fq_t (pr_fq_w w3 (by simp) (by simp)) (pr_fq_w x2 (by simp) (by simp)))
  · dsimp only at c3 ⊢
    rw [if_neg c3]
    exact ⟨_, rfl, rfl, pr_Inv_m hI2 fq (by decide) (by intro k hk; simp; omega)⟩
