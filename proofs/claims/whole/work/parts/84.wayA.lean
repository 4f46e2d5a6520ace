/-! WAYS: breadth first, whoever does it -/
def pr_P (adj : Nat → Nat → Prop) (ex : Nat → Prop) (f : Nat) : Nat → Nat → Prop
  | 0, y => y = f
  | k + 1, y => ∃ x, pr_P adj ex f k x ∧ ex x ∧ adj x y
def pr_ds (adj : Nat → Nat → Prop) (ex : Nat → Prop) (f d y : Nat) : Prop := pr_P adj ex f d y ∧ ∀ j, j < d → ¬ pr_P adj ex f j y
theorem pr_ds_u {adj : Nat → Nat → Prop} {ex : Nat → Prop} {f d d' y : Nat} (h : pr_ds adj ex f d y) (h' : pr_ds adj ex f d' y) : d = d' := by
  rcases Nat.lt_trichotomy d d' with q | q | q
  · exact absurd h.1 (h'.2 d q)
  · exact q
  · exact absurd h'.1 (h.2 d' q)
/-- the queue Q, the first k of it done -/
def pr_BI (adj : Nat → Nat → Prop) (ex : Nat → Prop) (f : Nat) (Q : List Nat) (dd : Nat → Nat) (k : Nat) : Prop :=
  Q.Nodup ∧ (0 < Q.length ∧ Q.getD 0 0 = f) ∧ (∀ y, y ∈ Q → pr_ds adj ex f (dd y) y) ∧ (∀ i j, i ≤ j → j < Q.length → dd (Q.getD i 0) ≤ dd (Q.getD j 0)) ∧ (k < Q.length → ∀ y, y ∈ Q → dd y ≤ dd (Q.getD k 0) + 1) ∧ (∀ i, i < k → i < Q.length → ex (Q.getD i 0) → ∀ y, adj (Q.getD i 0) y → y ∈ Q) ∧ ∀ y, y ∈ Q → dd y < Q.length
theorem pr_gDm {Q : List Nat} {i : Nat} (h : i < Q.length) : Q.getD i 0 ∈ Q := by rw [pr_gD h]; exact List.getElem_mem h
theorem pr_BI_0 {adj : Nat → Nat → Prop} {ex : Nat → Prop} {f : Nat} {dd : Nat → Nat} (h : dd f = 0) : pr_BI adj ex f [f] dd 0 := by
  refine ⟨by simp, ⟨by simp, rfl⟩, fun y hy => ?_, fun i j hij hj => ?_, fun _ y hy => ?_, fun i hi => absurd hi (by omega), fun y hy => ?_⟩
  · rw [List.mem_singleton] at hy
    subst hy
    rw [h]
    exact ⟨rfl, fun j hj => absurd hj (by omega)⟩
  · have : j = 0 := by simp at hj; omega
    have : i = 0 := by omega
    subst_vars; exact Nat.le_refl _
  · rw [List.mem_singleton] at hy; subst hy; omega
  · rw [List.mem_singleton] at hy; subst hy; rw [h]; simp
/-- what is nearer than the next one is done -/
theorem pr_BI_near {adj : Nat → Nat → Prop} {ex : Nat → Prop} {f k : Nat} {Q : List Nat} {dd : Nat → Nat} (h : pr_BI adj ex f Q dd k) (hk : k < Q.length) : ∀ j u, pr_P adj ex f j u → j < dd (Q.getD k 0) → ∃ i, i < k ∧ u = Q.getD i 0 := by
  obtain ⟨h1, h2, h3, h4, h5, h6, h7⟩ := h
  have idx : ∀ u, u ∈ Q → dd u < dd (Q.getD k 0) → ∃ i, i < k ∧ u = Q.getD i 0 := by
    intro u hu hd
    obtain ⟨i, hi, ei⟩ := List.mem_iff_getElem.mp hu
    have e : Q.getD i 0 = u := by rw [pr_gD hi, ei]
    refine ⟨i, ?_, e.symm⟩
    rcases Nat.lt_or_ge i k with q | q
    · exact q
    · have := h4 k i q hi
      rw [e] at this; omega
  have low : ∀ j u, pr_P adj ex f j u → u ∈ Q → dd u ≤ j := by
    intro j u hp hu
    rcases Nat.lt_or_ge j (dd u) with q | q
    · exact absurd hp ((h3 u hu).2 j q)
    · exact q
  intro j
  induction j with
  | zero =>
    intro u hu hd
    have hf : u ∈ Q := by
      rw [show u = f from hu, ← h2.2]; exact pr_gDm h2.1
    exact idx u hf (by have := low 0 u hu hf; omega)
  | succ j ih =>
    intro u hu hd
    obtain ⟨x, x1, x2, x3⟩ := hu
    obtain ⟨i, i1, i2⟩ := ih x x1 (by omega)
    have uin : u ∈ Q := h6 i i1 (by omega) (by rw [← i2]; exact x2) u (by rw [← i2]; exact x3)
    exact idx u uin (by have := low (j + 1) u ⟨x, x1, x2, x3⟩ uin; omega)
theorem pr_BI_add {adj : Nat → Nat → Prop} {ex : Nat → Prop} {f k y : Nat} {Q : List Nat} {dd : Nat → Nat} (h : pr_BI adj ex f Q dd k) (hk : k < Q.length) (hx : ex (Q.getD k 0)) (ha : adj (Q.getD k 0) y) (hy : y ∉ Q) : pr_BI adj ex f (Q ++ [y]) (pq_u dd y (dd (Q.getD k 0) + 1)) k := by
  have near := pr_BI_near h hk
  obtain ⟨h1, h2, h3, h4, h5, h6, h7⟩ := h
  have gl : ∀ i, i < Q.length → (Q ++ [y]).getD i 0 = Q.getD i 0 := fun i hi => by
    rw [List.getD_eq_getElem?_getD, List.getElem?_append_left hi, ← List.getD_eq_getElem?_getD]
  have gn : (Q ++ [y]).getD Q.length 0 = y := by
    rw [List.getD_eq_getElem?_getD, List.getElem?_append_right (Nat.le_refl _), Nat.sub_self]; rfl
  have du : ∀ u, u ∈ Q → pq_u dd y (dd (Q.getD k 0) + 1) u = dd u := fun u hu => if_neg (show ¬ u = y from fun e => hy (e ▸ hu))
  have dy : pq_u dd y (dd (Q.getD k 0) + 1) y = dd (Q.getD k 0) + 1 := if_pos rfl
  have xin := pr_gDm hk
  have len : (Q ++ [y]).length = Q.length + 1 := by simp
  refine ⟨?_, ⟨by omega, by rw [gl 0 h2.1]; exact h2.2⟩, fun u hu => ?_, fun i j hij hj => ?_, fun _ u hu => ?_, fun i hi hl he u hu => ?_, fun u hu => ?_⟩
  · rw [List.nodup_append]
    refine ⟨h1, by simp, fun a ha' b hb => ?_⟩
    rw [List.mem_singleton] at hb
    subst hb
    exact fun e => hy (e ▸ ha')
  · rcases List.mem_append.mp hu with q | q
    · rw [du u q]; exact h3 u q
    · rw [List.mem_singleton] at q
      subst q
      rw [dy]
      refine ⟨⟨Q.getD k 0, (h3 _ xin).1, hx, ha⟩, fun j hj hp => ?_⟩
      cases j with
      | zero =>
        exact hy (by rw [show u = f from hp, ← h2.2]; exact pr_gDm h2.1)
      | succ j =>
        obtain ⟨x, x1, x2, x3⟩ := hp
        obtain ⟨i, i1, i2⟩ := near j x x1 (by omega)
        exact hy (h6 i i1 (by omega) (by rw [← i2]; exact x2) u (by rw [← i2]; exact x3))
  · rw [len] at hj
    by_cases c : j < Q.length
    · rw [gl j c, gl i (by omega), du _ (pr_gDm c), du _ (pr_gDm (by omega))]; exact h4 i j hij c
    · have : j = Q.length := by omega
      subst this
      rw [gn, dy]
      by_cases c2 : i < Q.length
      · rw [gl i c2, du _ (pr_gDm c2)]; exact h5 hk _ (pr_gDm c2)
      · have : i = Q.length := by omega
        subst this
        rw [gn, dy]; exact Nat.le_refl _
  · rw [gl k hk, du _ xin]
    rcases List.mem_append.mp hu with q | q
    · rw [du u q]; exact h5 hk u q
    · rw [List.mem_singleton] at q
      subst q
      rw [dy]; exact Nat.le_refl _
  · have hl' : i < Q.length := by omega
    rw [gl i hl'] at he hu
    exact List.mem_append_left _ (h6 i hi hl' he u hu)
  · rw [len]
    rcases List.mem_append.mp hu with q | q
    · rw [du u q]; have := h7 u q; omega
    · rw [List.mem_singleton] at q
      subst q
      rw [dy]; have := h7 _ xin; omega
theorem pr_BI_next {adj : Nat → Nat → Prop} {ex : Nat → Prop} {f k : Nat} {Q : List Nat} {dd : Nat → Nat} (h : pr_BI adj ex f Q dd k) (hk : k < Q.length) (hc : ex (Q.getD k 0) → ∀ y, adj (Q.getD k 0) y → y ∈ Q) : pr_BI adj ex f Q dd (k + 1) := by
  obtain ⟨h1, h2, h3, h4, h5, h6, h7⟩ := h
  refine ⟨h1, h2, h3, h4, fun hk1 y hy => ?_, fun i hi hl he y hy => ?_, h7⟩
  · have := h5 hk y hy
    have := h4 k (k + 1) (by omega) hk1
    omega
  · by_cases c : i = k
    · subst c; exact hc he y hy
    · exact h6 i (by omega) hl he y hy
/-- all done: whoever can be reached is in the queue -/
theorem pr_BI_all {adj : Nat → Nat → Prop} {ex : Nat → Prop} {f k : Nat} {Q : List Nat} {dd : Nat → Nat} (h : pr_BI adj ex f Q dd k) (hk : Q.length ≤ k) : ∀ j u, pr_P adj ex f j u → u ∈ Q := by
  obtain ⟨h1, h2, h3, h4, h5, h6, h7⟩ := h
  intro j
  induction j with
  | zero =>
    intro u hu
    rw [show u = f from hu, ← h2.2]; exact pr_gDm h2.1
  | succ j ih =>
    rintro u ⟨x, x1, x2, x3⟩
    obtain ⟨i, hi, ei⟩ := List.mem_iff_getElem.mp (ih x x1)
    have e : Q.getD i 0 = x := by rw [pr_gD hi, ei]
    exact h6 i (by omega) hi (by rw [e]; exact x2) u (by rw [e]; exact x3)
/-- forbidden ones may be left out, but for the last -/
theorem pr_P_bl {adj adj' : Nat → Nat → Prop} {ex : Nat → Prop} {f t : Nat} {bl : Nat → Prop} (hbx : ∀ y, ex y → ¬ bl y) (hbt : ¬ bl t) (ha : ∀ x y, adj' x y ↔ adj x y ∧ ¬ bl y) : ∀ j, pr_P adj' ex f j t ↔ pr_P adj ex f j t := by
  have to : ∀ j y, pr_P adj' ex f j y → pr_P adj ex f j y := by
    intro j
    induction j with
    | zero => intro y h; exact h
    | succ j ih =>
      rintro y ⟨x, x1, x2, x3⟩
      exact ⟨x, ih x x1, x2, ((ha x y).mp x3).1⟩
  have back : ∀ j y, (ex y ∨ y = t) → pr_P adj ex f j y → pr_P adj' ex f j y := by
    intro j
    induction j with
    | zero => intro y _ h; exact h
    | succ j ih =>
      rintro y hy ⟨x, x1, x2, x3⟩
      refine ⟨x, ih x (Or.inl x2) x1, x2, (ha x y).mpr ⟨x3, ?_⟩⟩
      rcases hy with q | q
      · exact hbx y q
      · rw [q]; exact hbt
  exact fun j => ⟨to j t, back j t (Or.inr rfl)⟩
/-! neighbours among heaps -/
def pr_df (f g : Nat → Nat) : Nat := pq_sum 16 fun t => (f t - g t) + (g t - f t)
theorem pr_df_0 : ∀ {n : Nat} {F : Nat → Nat}, pq_sum n F = 0 → ∀ t, t < n → F t = 0
  | 0, _, _, t, ht => absurd ht (by omega)
  | n + 1, F, h, t, ht => by
    rw [pq_sum] at h
    by_cases c : t = n
    · subst c; omega
    · exact pr_df_0 (n := n) (F := F) (by omega) t (by omega)
theorem pr_df_1 : ∀ {n : Nat} {F : Nat → Nat}, pq_sum n F = 1 → ∃ t, t < n ∧ F t = 1 ∧ ∀ s, s < n → s ≠ t → F s = 0
  | 0, _, h => by simp [pq_sum] at h
  | n + 1, F, h => by
    rw [pq_sum] at h
    by_cases c : F n = 0
    · obtain ⟨t, h1, h2, h3⟩ := pr_df_1 (n := n) (F := F) (by omega)
      refine ⟨t, by omega, h2, fun s hs hne => ?_⟩
      by_cases e : s = n
      · subst e; exact c
      · exact h3 s (by omega) hne
    · have z := pr_df_0 (n := n) (F := F) (by omega)
      exact ⟨n, by omega, by omega, fun s hs hne => z s (by omega)⟩
theorem pr_df_u {h : Nat → Nat} {t v : Nat} (ht : t < 16) : pr_df h (pq_u h t v) = (h t - v) + (v - h t) := by
  unfold pr_df
  have one : ∀ n, n ≤ 16 → (pq_sum n fun s => (h s - pq_u h t v s) + (pq_u h t v s - h s)) = if t < n then (h t - v) + (v - h t) else 0 := by
    intro n
    induction n with
    | zero => intro _; rfl
    | succ n ih =>
      intro hn
      rw [pq_sum, ih (by omega)]
      unfold pq_u
      by_cases c : n = t
      · subst c; rw [if_neg (by omega), if_pos rfl, if_pos (by omega)]; omega
      · rw [if_neg c]
        by_cases c2 : t < n
        · rw [if_pos c2, if_pos (by omega)]; omega
        · rw [if_neg c2, if_neg (by omega)]; omega
  rw [one 16 (Nat.le_refl _), if_pos ht]
/-- one step is a cube laid or taken off -/
theorem pr_step {a b c : Nat} {h g : Nat → Nat} (H : pq_hv a b c h) (G : pq_hv a b c g) : pr_df h g = 1 ↔ ∃ i j, i < a ∧ j < b ∧ ∃ w, pq_chg w a b c h i j = true ∧ ∀ s, s < 16 → g s = pq_u h (4 * i + j) (pq_cv w (h (4 * i + j))) s := by
  have ha := H.1; have hb := H.2.1
  constructor
  · intro e
    obtain ⟨t, t1, t2, t3⟩ := pr_df_1 e
    have rest : ∀ s, s < 16 → s ≠ t → g s = h s := fun s hs hne => by have := t3 s hs hne; omega
    have et : 4 * (t / 4) + t % 4 = t := by omega
    have inb : t / 4 < a ∧ t % 4 < b := by
      by_cases q : t / 4 < a ∧ t % 4 < b
      · exact q
      · have z1 := (H.2.2.2.2 (t / 4) (t % 4) (by omega) (by omega)).2.1 q
        have z2 := (G.2.2.2.2 (t / 4) (t % 4) (by omega) (by omega)).2.1 q
        rw [et] at z1 z2
        omega
    refine ⟨t / 4, t % 4, inb.1, inb.2, ?_⟩
    rw [et]
    by_cases up : h t < g t
    · have gt : g t = h t + 1 := by omega
      refine ⟨true, ?_, fun s hs => ?_⟩
      · show pq_grow a b c h (t / 4) (t % 4) = true
        unfold pq_grow
        rw [pq_g_in inb.1 inb.2, et]
        apply decide_eq_true
        refine ⟨?_, ?_⟩
        · unfold pq_up
          split
          · have := (G.2.2.2.2 (t / 4) (t % 4) (by omega) (by omega)).1
            rw [et] at this; omega
          · rw [pq_g_in (by omega) inb.2]
            have q := (G.2.2.2.2 (t / 4 - 1) (t % 4) (by omega) (by omega)).2.2.1 (by omega)
            rw [show 4 * (t / 4 - 1 + 1) + t % 4 = t by omega, rest (4 * (t / 4 - 1) + t % 4) (by omega) (by omega)] at q
            omega
        · unfold pq_lf
          split
          · have := (G.2.2.2.2 (t / 4) (t % 4) (by omega) (by omega)).1
            rw [et] at this; omega
          · rw [pq_g_in inb.1 (by omega)]
            have q := (G.2.2.2.2 (t / 4) (t % 4 - 1) (by omega) (by omega)).2.2.2 (by omega)
            rw [show 4 * (t / 4) + (t % 4 - 1 + 1) = t by omega, rest (4 * (t / 4) + (t % 4 - 1)) (by omega) (by omega)] at q
            omega
      · unfold pq_u pq_cv
        by_cases q : s = t
        · rw [if_pos q, q, if_pos rfl]; exact gt
        · rw [if_neg q]; exact rest s hs q
    · have gt : g t + 1 = h t := by omega
      refine ⟨false, ?_, fun s hs => ?_⟩
      · show pq_shr a b h (t / 4) (t % 4) = true
        unfold pq_shr
        rw [pq_g_in inb.1 inb.2, et]
        apply decide_eq_true
        refine ⟨?_, ?_⟩
        · unfold pq_g
          split
          · rename_i q0
            have q := (G.2.2.2.2 (t / 4) (t % 4) (by omega) (by omega)).2.2.1 (by omega)
            rw [et, rest (4 * (t / 4 + 1) + t % 4) (by omega) (by omega)] at q
            omega
          · omega
        · unfold pq_g
          split
          · rename_i q0
            have q := (G.2.2.2.2 (t / 4) (t % 4) (by omega) (by omega)).2.2.2 (by omega)
            rw [et, rest (4 * (t / 4) + (t % 4 + 1)) (by omega) (by omega)] at q
            omega
          · omega
      · unfold pq_u pq_cv
        by_cases q : s = t
        · rw [if_pos q, q, if_neg (by decide)]; omega
        · rw [if_neg q]; exact rest s hs q
  · rintro ⟨i, j, hi, hj, w, hw, e⟩
    have ed : pr_df h g = pr_df h (pq_u h (4 * i + j) (pq_cv w (h (4 * i + j)))) := by
      unfold pr_df
      exact pq_sum_eq fun s hs => by rw [e s hs]
    rw [ed, pr_df_u (by omega)]
    have pos := (pq_hv_u H hi hj hw).1
    cases w
    · have := pos rfl
      unfold pq_cv
      simp only [Bool.false_eq_true, if_false]; omega
    · unfold pq_cv
      simp only [if_true]; omega
