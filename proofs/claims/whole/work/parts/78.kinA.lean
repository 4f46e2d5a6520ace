/-! KIN: boxes with heights, their keys, their turns -/
abbrev pr_V : Type := Nat × Nat × Nat × (Nat → Nat)
def pr_va (x : pr_V) : Prop := pq_hv x.1 x.2.1 x.2.2.1 x.2.2.2
def pr_Dg (x : pr_V) (t : Nat) : Nat := if t = 0 then 1 else if t = 1 then x.1 else if t = 2 then x.2.1 else if t = 3 then x.2.2.1 else x.2.2.2 (t - 4)
def pr_ky (x : pr_V) : Nat := pq_enc (pr_Dg x) 20
def pr_tn (w : Nat) (x : pr_V) : pr_V := (pq_ta w x.1 x.2.1, pq_tb w x.1 x.2.1 x.2.2.1, pq_tc w x.1 x.2.2.1, pq_th w x.1 x.2.1 x.2.2.1 x.2.2.2)
def pr_eq (x y : pr_V) : Prop := x.1 = y.1 ∧ x.2.1 = y.2.1 ∧ x.2.2.1 = y.2.2.1 ∧ ∀ t, t < 16 → x.2.2.2 t = y.2.2.2 t
theorem pr_va_tn {w : Nat} {x : pr_V} (hw : w < 3) (h : pr_va x) : pr_va (pr_tn w x) := pq_hv_t hw h
theorem pr_Dg_lt {x : pr_V} (h : pr_va x) : ∀ t, t < 20 → pr_Dg x t < 16 := by
  intro t ht
  have h1 := h.1; have h2 := h.2.1; have h3 := h.2.2.1
  unfold pr_Dg
  split
  · omega
  · split
    · omega
    · split
      · omega
      · split
        · omega
        · have := pq_hv_h h (t - 4) (by omega); omega
theorem pr_Dg_h {x : pr_V} {t : Nat} : pr_Dg x (4 + t) = x.2.2.2 t := by
  unfold pr_Dg
  rw [if_neg (by omega), if_neg (by omega), if_neg (by omega), if_neg (by omega), show 4 + t - 4 = t by omega]
theorem pr_ky_eq {x y : pr_V} (hx : pr_va x) (hy : pr_va y) : pr_ky x = pr_ky y ↔ pr_eq x y := by
  constructor
  · intro e
    have d := pr_enc_inj (pr_Dg_lt hx) (pr_Dg_lt hy) e
    exact ⟨d 1 (by omega), d 2 (by omega), d 3 (by omega), fun t ht => by
      have := d (4 + t) (by omega)
      rwa [pr_Dg_h, pr_Dg_h] at this⟩
  · rintro ⟨e1, e2, e3, e4⟩
    refine pq_enc_eq fun t ht => ?_
    unfold pr_Dg
    rw [e1, e2, e3]
    by_cases c : t < 4
    · have : t = 0 ∨ t = 1 ∨ t = 2 ∨ t = 3 := by omega
      rcases this with rfl | rfl | rfl | rfl <;> rfl
    · rw [e4 (t - 4) (by omega)]
theorem pr_ky_num (x : pr_V) : pr_ky x = (4096 + x.1 * 256 + x.2.1 * 16 + x.2.2.1) * 16 ^ 16 + pq_enc x.2.2.2 16 := by
  have e1 : pq_enc (pr_Dg x) 4 = 4096 + x.1 * 256 + x.2.1 * 16 + x.2.2.1 := by
    show ((((0 * 16 + 1) * 16 + x.1) * 16 + x.2.1) * 16 + x.2.2.1) = _
    omega
  have e2 : pq_enc (fun t => pr_Dg x (4 + t)) 16 = pq_enc x.2.2.2 16 := pq_enc_eq fun t _ => pr_Dg_h
  have e3 := pr_enc_split (pr_Dg x) 4 16
  show pq_enc (pr_Dg x) (4 + 16) = _
  rw [e3, e1, e2]
/-! heights by cubes -/
theorem pr_anti {p : Nat → Prop} [DecidablePred p] (hp : ∀ k, p (k + 1) → p k) : ∀ (a x : Nat), x < pq_sum a (fun k => if p k then 1 else 0) ↔ x < a ∧ p x
  | 0, x => by simp [pq_sum]
  | a + 1, x => by
    have ih := pr_anti hp a
    have le : pq_sum a (fun k => if p k then 1 else 0) ≤ a := by
      have := pq_sum_le (n := a) (m := 1) (f := fun k => if p k then 1 else 0) fun k _ => by split <;> omega
      omega
    have mono : ∀ d k, p (k + d) → p k := by
      intro d
      induction d with
      | zero => intro k h; exact h
      | succ d ih2 => intro k h; exact ih2 k (hp (k + d) h)
    rw [pq_sum]
    by_cases c : p a
    · rw [if_pos c]
      have full : pq_sum a (fun k => if p k then 1 else 0) = a := pr_sum_one fun t ht => if_pos (mono (a - t) t (by rw [show t + (a - t) = a by omega]; exact c))
      rw [full]
      refine ⟨fun h => ⟨h, mono (a - x) x (by rw [show x + (a - x) = a by omega]; exact c)⟩, fun h => h.1⟩
    · rw [if_neg c, Nat.add_zero, ih x]
      refine ⟨fun h => ⟨by omega, h.2⟩, fun h => ⟨?_, h.2⟩⟩
      rcases Nat.lt_or_ge x a with q | q
      · exact q
      · have : x = a := by omega
        subst this; exact absurd h.2 c
theorem pr_R_mem {a b c : Nat} {h : Nat → Nat} (H : pq_hv a b c h) {x y z : Nat} (hy : y < 4) (hz : z < 4) : x < pq_R a h (4 * y + z) ↔ x < a ∧ z < h (4 * x + y) := by
  have ha := H.1
  rw [pq_R_at hz]
  -- only the first four rows are told of
  have e : pq_sum a (fun k => if z < h (4 * k + y) then 1 else 0) = pq_sum a (fun k => if k < 4 ∧ z < h (4 * k + y) then 1 else 0) := pq_sum_eq fun k hk => by
    by_cases q : z < h (4 * k + y)
    · rw [if_pos q, if_pos ⟨by omega, q⟩]
    · rw [if_neg q, if_neg fun r => q r.2]
  rw [e, pr_anti (p := fun k => k < 4 ∧ z < h (4 * k + y)) (fun k hk => by
    refine ⟨by omega, ?_⟩
    have := (H.2.2.2.2 k y (by omega) hy).2.2.1 hk.1
    omega)]
  exact ⟨fun q => ⟨q.1, q.2.2⟩, fun q => ⟨q.1, by omega, q.2⟩⟩
/-- heights are the same if they have the same cubes -/
theorem pr_by_cubes {f g : Nat} (hf : f ≤ 4) (hg : g ≤ 4) (h : ∀ w, w < 4 → (w < f ↔ w < g)) : f = g := by
  rcases Nat.lt_trichotomy f g with q | q | q
  · have := (h f (by omega)).mpr q; omega
  · exact q
  · have := (h g (by omega)).mp q; omega
theorem pr_tsplit {t : Nat} (ht : t < 16) : ∃ p q, p < 4 ∧ q < 4 ∧ t = 4 * p + q := ⟨t / 4, t % 4, by omega, by omega, by omega⟩
theorem pr_RRR {x : pr_V} (h : pr_va x) : pr_eq (pr_tn 1 (pr_tn 1 (pr_tn 1 x))) x := by
  obtain ⟨a, b, c, f⟩ := x
  have H1 : pq_hv a b c f := h
  have H2 := pq_hv_R H1
  have H3 := pq_hv_R H2
  have H4 := pq_hv_R H3
  refine ⟨rfl, rfl, rfl, fun t ht => ?_⟩
  obtain ⟨p, q, hp, hq, rfl⟩ := pr_tsplit ht
  refine pr_by_cubes (pq_hv_h H4 _ (by omega)) (pq_hv_h H1 _ (by omega)) fun w hw => ?_
  show w < pq_R c (pq_R b (pq_R a f)) (4 * p + q) ↔ w < f (4 * p + q)
  rw [pr_R_mem H3 hp hq, pr_R_mem H2 hw hp, pr_R_mem H1 hq hw]
  refine ⟨fun r => r.2.2.2, fun r => ?_⟩
  have q1 := H1.2.2.2.2 p q hp hq
  have in1 : p < a ∧ q < b := by
    by_cases e : p < a ∧ q < b
    · exact e
    · have := q1.2.1 e; omega
  exact ⟨by have := q1.1; omega, in1.2, in1.1, r⟩
theorem pr_TT {x : pr_V} : pr_eq (pr_tn 0 (pr_tn 0 x)) x := by
  refine ⟨rfl, rfl, rfl, fun t ht => ?_⟩
  obtain ⟨p, q, hp, hq, rfl⟩ := pr_tsplit ht
  show pq_T (pq_T x.2.2.2) (4 * p + q) = _
  rw [pq_T_at hq, pq_T_at hp]
theorem pr_CC {x : pr_V} (h : pr_va x) : pr_eq (pr_tn 2 (pr_tn 2 x)) x := by
  obtain ⟨a, b, c, f⟩ := x
  have H1 : pq_hv a b c f := h
  refine ⟨rfl, rfl, rfl, fun t ht => ?_⟩
  obtain ⟨p, q, hp, hq, rfl⟩ := pr_tsplit ht
  have ha := H1.1; have hb := H1.2.1
  show pq_C a b c (pq_C a b c f) (4 * p + q) = f (4 * p + q)
  have q1 := H1.2.2.2.2 p q hp hq
  rw [pq_C_at hq]
  by_cases e : p < a ∧ q < b
  · rw [if_pos e, pq_C_at (by omega), if_pos (by omega), show a - 1 - (a - 1 - p) = p by omega, show b - 1 - (b - 1 - q) = q by omega]
    have := q1.1; omega
  · rw [if_neg e, q1.2.1 e]
theorem pr_TC {x : pr_V} (h : pr_va x) : pr_eq (pr_tn 0 (pr_tn 2 x)) (pr_tn 2 (pr_tn 0 x)) := by
  obtain ⟨a, b, c, f⟩ := x
  refine ⟨rfl, rfl, rfl, fun t ht => ?_⟩
  obtain ⟨p, q, hp, hq, rfl⟩ := pr_tsplit ht
  have ha : 1 ≤ a ∧ a ≤ 4 := h.1
  have hb : 1 ≤ b ∧ b ≤ 4 := h.2.1
  show pq_T (pq_C a b c f) (4 * p + q) = pq_C b a c (pq_T f) (4 * p + q)
  rw [pq_T_at hq, pq_C_at hp, pq_C_at hq]
  by_cases e : p < b ∧ q < a
  · rw [if_pos e, if_pos ⟨e.2, e.1⟩, pq_T_at (by omega)]
  · rw [if_neg e, if_neg fun r => e ⟨r.2, r.1⟩]
theorem pr_RT {x : pr_V} (h : pr_va x) : pr_eq (pr_tn 1 (pr_tn 0 x)) (pr_tn 0 (pr_tn 1 (pr_tn 1 x))) := by
  obtain ⟨a, b, c, f⟩ := x
  have H1 : pq_hv a b c f := h
  have HT := pq_hv_T H1
  have H2 := pq_hv_R H1
  have H3 := pq_hv_R H2
  refine ⟨rfl, rfl, rfl, fun t ht => ?_⟩
  obtain ⟨p, q, hp, hq, rfl⟩ := pr_tsplit ht
  refine pr_by_cubes (pq_hv_h (pq_hv_R HT) _ (by omega)) (pq_hv_h (pq_hv_T H3) _ (by omega)) fun w hw => ?_
  show w < pq_R b (pq_T f) (4 * p + q) ↔ w < pq_T (pq_R b (pq_R a f)) (4 * p + q)
  rw [pq_T_at hq, pr_R_mem HT hp hq, pr_R_mem H2 hq hp, pq_T_at hp, pr_R_mem H1 hw hq]
  refine ⟨fun r => ⟨r.1, ?_, r.2⟩, fun r => ⟨r.1, r.2.2⟩⟩
  have q1 := H1.2.2.2.2 p w hp hw
  by_cases e : p < a ∧ w < b
  · exact e.1
  · have := q1.2.1 e; have := r.2; omega
theorem pr_RC {x : pr_V} (h : pr_va x) : pr_eq (pr_tn 1 (pr_tn 2 x)) (pr_tn 2 (pr_tn 1 x)) := by
  obtain ⟨a, b, c, f⟩ := x
  have H1 : pq_hv a b c f := h
  have HC := pq_hv_C H1
  have H2 := pq_hv_R H1
  have ha := H1.1; have hb := H1.2.1; have hc := H1.2.2.1
  refine ⟨rfl, rfl, rfl, fun t ht => ?_⟩
  obtain ⟨p, q, hp, hq, rfl⟩ := pr_tsplit ht
  refine pr_by_cubes (pq_hv_h (pq_hv_R HC) _ (by omega)) (pq_hv_h (pq_hv_C H2) _ (by omega)) fun w hw => ?_
  show w < pq_R a (pq_C a b c f) (4 * p + q) ↔ w < pq_C b c a (pq_R a f) (4 * p + q)
  rw [pr_R_mem HC hp hq, pq_C_at hp, pq_C_at hq]
  by_cases e : p < b ∧ q < c
  · rw [if_pos e]
    have m := pr_R_mem H1 (x := a - 1 - w) (y := b - 1 - p) (z := c - 1 - q) (by omega) (by omega)
    by_cases ew : w < a
    · rw [if_pos ⟨ew, e.1⟩]
      have l1 := (H1.2.2.2.2 (a - 1 - w) (b - 1 - p) (by omega) (by omega)).1
      by_cases r : c - 1 - q < f (4 * (a - 1 - w) + (b - 1 - p))
      · have := m.mpr ⟨by omega, r⟩
        constructor
        · intro _; omega
        · intro _; omega
      · have : ¬ a - 1 - w < pq_R a f (4 * (b - 1 - p) + (c - 1 - q)) := fun u => r (m.mp u).2
        constructor
        · intro _; omega
        · intro _; exact ⟨ew, by omega⟩
    · constructor
      · intro u; exact absurd u.1 ew
      · intro u; omega
  · rw [if_neg e]
    constructor
    · intro u
      by_cases ew : w < a ∧ p < b
      · rw [if_pos ew] at u
        have := u.2; omega
      · rw [if_neg ew] at u; omega
    · intro u; omega
theorem pr_eq_tn {w : Nat} {x y : pr_V} (hw : w < 3) (hx : pr_va x) (e : pr_eq x y) : pr_eq (pr_tn w x) (pr_tn w y) := by
  obtain ⟨a, b, c, f⟩ := x
  obtain ⟨a', b', c', g⟩ := y
  obtain ⟨e1, e2, e3, e4⟩ := e
  dsimp only at e1 e2 e3 e4
  subst e1 e2 e3
  have ha : 1 ≤ a ∧ a ≤ 4 := hx.1
  have hb : 1 ≤ b ∧ b ≤ 4 := hx.2.1
  refine ⟨rfl, rfl, rfl, fun t ht => ?_⟩
  obtain ⟨p, q, hp, hq, rfl⟩ := pr_tsplit ht
  have : w = 0 ∨ w = 1 ∨ w = 2 := by omega
  rcases this with rfl | rfl | rfl
  · show pq_T f (4 * p + q) = pq_T g (4 * p + q)
    rw [pq_T_at hq, pq_T_at hq, e4 _ (by omega)]
  · show pq_R a f (4 * p + q) = pq_R a g (4 * p + q)
    rw [pq_R_at hq, pq_R_at hq]
    exact pq_sum_eq fun k hk => by rw [e4 _ (by omega)]
  · show pq_C a b c f (4 * p + q) = pq_C a b c g (4 * p + q)
    rw [pq_C_at hq, pq_C_at hq]
    by_cases e : p < a ∧ q < b
    · rw [if_pos e, if_pos e, e4 _ (by omega)]
    · rw [if_neg e, if_neg e]
/-! the same by keys -/
theorem pr_k_tn {w : Nat} {x y : pr_V} (hw : w < 3) (hx : pr_va x) (hy : pr_va y) (e : pr_ky x = pr_ky y) : pr_ky (pr_tn w x) = pr_ky (pr_tn w y) :=
  (pr_ky_eq (pr_va_tn hw hx) (pr_va_tn hw hy)).mpr (pr_eq_tn hw hx ((pr_ky_eq hx hy).mp e))
theorem pr_v0 {x : pr_V} (h : pr_va x) : pr_va (pr_tn 0 x) := pr_va_tn (by decide) h
theorem pr_v1 {x : pr_V} (h : pr_va x) : pr_va (pr_tn 1 x) := pr_va_tn (by decide) h
theorem pr_v2 {x : pr_V} (h : pr_va x) : pr_va (pr_tn 2 x) := pr_va_tn (by decide) h
theorem pr_kRRR {x : pr_V} (h : pr_va x) : pr_ky (pr_tn 1 (pr_tn 1 (pr_tn 1 x))) = pr_ky x := (pr_ky_eq (pr_v1 (pr_v1 (pr_v1 h))) h).mpr (pr_RRR h)
theorem pr_kTT {x : pr_V} (h : pr_va x) : pr_ky (pr_tn 0 (pr_tn 0 x)) = pr_ky x := (pr_ky_eq (pr_v0 (pr_v0 h)) h).mpr pr_TT
theorem pr_kCC {x : pr_V} (h : pr_va x) : pr_ky (pr_tn 2 (pr_tn 2 x)) = pr_ky x := (pr_ky_eq (pr_v2 (pr_v2 h)) h).mpr (pr_CC h)
theorem pr_kTC {x : pr_V} (h : pr_va x) : pr_ky (pr_tn 2 (pr_tn 0 x)) = pr_ky (pr_tn 0 (pr_tn 2 x)) := ((pr_ky_eq (pr_v0 (pr_v2 h)) (pr_v2 (pr_v0 h))).mpr (pr_TC h)).symm
theorem pr_kRT {x : pr_V} (h : pr_va x) : pr_ky (pr_tn 1 (pr_tn 0 x)) = pr_ky (pr_tn 0 (pr_tn 1 (pr_tn 1 x))) := (pr_ky_eq (pr_v1 (pr_v0 h)) (pr_v0 (pr_v1 (pr_v1 h)))).mpr (pr_RT h)
theorem pr_kRC {x : pr_V} (h : pr_va x) : pr_ky (pr_tn 2 (pr_tn 1 x)) = pr_ky (pr_tn 1 (pr_tn 2 x)) := ((pr_ky_eq (pr_v1 (pr_v2 h)) (pr_v2 (pr_v1 h))).mpr (pr_RC h)).symm
/-- the six of one side -/
def pr_six (x : pr_V) : List Nat := [pr_ky x, pr_ky (pr_tn 0 x), pr_ky (pr_tn 1 x), pr_ky (pr_tn 0 (pr_tn 1 x)), pr_ky (pr_tn 1 (pr_tn 1 x)), pr_ky (pr_tn 0 (pr_tn 1 (pr_tn 1 x)))]
def pr_o (x : pr_V) : pr_V := pr_tn 2 (pr_tn 1 (pr_tn 1 (pr_tn 1 x)))
def pr_KS (x : pr_V) : List Nat := pr_six x ++ pr_six (pr_o x)
theorem pr_vo {x : pr_V} (h : pr_va x) : pr_va (pr_o x) := pr_v2 (pr_v1 (pr_v1 (pr_v1 h)))
theorem pr_ko {x : pr_V} (h : pr_va x) : pr_ky (pr_o x) = pr_ky (pr_tn 2 x) := pr_k_tn (by decide) (pr_v1 (pr_v1 (pr_v1 h))) h (pr_kRRR h)
/-- turned within one side -/
theorem pr_six_01 {x : pr_V} (h : pr_va x) {w : Nat} (hw : w < 2) {y : pr_V} (hy : pr_va y) (hm : pr_ky y ∈ pr_six x) : pr_ky (pr_tn w y) ∈ pr_six x := by
  have v1 := pr_v1 h; have v11 := pr_v1 v1
  unfold pr_six at hm ⊢
  simp only [List.mem_cons, List.not_mem_nil, or_false] at hm ⊢
  have ww : w = 0 ∨ w = 1 := by omega
  rcases ww with rfl | rfl
  · rcases hm with e | e | e | e | e | e
    · rw [pr_k_tn (by decide) hy h e]; simp
    · rw [pr_k_tn (by decide) hy (pr_v0 h) e, pr_kTT h]; simp
    · rw [pr_k_tn (by decide) hy v1 e]; simp
    · rw [pr_k_tn (by decide) hy (pr_v0 v1) e, pr_kTT v1]; simp
    · rw [pr_k_tn (by decide) hy v11 e]; simp
    · rw [pr_k_tn (by decide) hy (pr_v0 v11) e, pr_kTT v11]; simp
  · rcases hm with e | e | e | e | e | e
    · rw [pr_k_tn (by decide) hy h e]; simp
    · rw [pr_k_tn (by decide) hy (pr_v0 h) e, pr_kRT h]; simp
    · rw [pr_k_tn (by decide) hy v1 e]; simp
    · rw [pr_k_tn (by decide) hy (pr_v0 v1) e, pr_kRT v1, pr_k_tn (by decide) (pr_v1 v11) h (pr_kRRR h)]; simp
    · rw [pr_k_tn (by decide) hy v11 e, pr_kRRR h]; simp
    · rw [pr_k_tn (by decide) hy (pr_v0 v11) e, pr_kRT v11, pr_k_tn (by decide) (pr_v1 (pr_v1 v11)) v1 (pr_kRRR v1)]; simp
/-- the six depend on the key alone -/
theorem pr_six_k {x y : pr_V} (hx : pr_va x) (hy : pr_va y) (e : pr_ky x = pr_ky y) : pr_six x = pr_six y := by
  have e1 := pr_k_tn (w := 1) (by decide) hx hy e
  have e11 := pr_k_tn (w := 1) (by decide) (pr_v1 hx) (pr_v1 hy) e1
  unfold pr_six
  rw [e, pr_k_tn (w := 0) (by decide) hx hy e, e1, pr_k_tn (w := 0) (by decide) (pr_v1 hx) (pr_v1 hy) e1, e11, pr_k_tn (w := 0) (by decide) (pr_v1 (pr_v1 hx)) (pr_v1 (pr_v1 hy)) e11]
/-- turned to the other side -/
theorem pr_six_2 {x : pr_V} (h : pr_va x) {y : pr_V} (hy : pr_va y) (hm : pr_ky y ∈ pr_six x) : pr_ky (pr_tn 2 y) ∈ pr_six (pr_tn 2 x) := by
  have v1 := pr_v1 h; have v11 := pr_v1 v1; have v2 := pr_v2 h
  have c1 := pr_kRC h
  have c11 : pr_ky (pr_tn 2 (pr_tn 1 (pr_tn 1 x))) = pr_ky (pr_tn 1 (pr_tn 1 (pr_tn 2 x))) := (pr_kRC v1).trans (pr_k_tn (by decide) (pr_v2 v1) (pr_v1 v2) c1)
  unfold pr_six at hm ⊢
  simp only [List.mem_cons, List.not_mem_nil, or_false] at hm ⊢
  rcases hm with e | e | e | e | e | e
  · rw [pr_k_tn (by decide) hy h e]; simp
  · rw [pr_k_tn (by decide) hy (pr_v0 h) e, pr_kTC h]; simp
  · rw [pr_k_tn (by decide) hy v1 e, c1]; simp
  · rw [pr_k_tn (by decide) hy (pr_v0 v1) e, pr_kTC v1, pr_k_tn (by decide) (pr_v2 v1) (pr_v1 v2) c1]; simp
  · rw [pr_k_tn (by decide) hy v11 e, c11]; simp
  · rw [pr_k_tn (by decide) hy (pr_v0 v11) e, pr_kTC v11, pr_k_tn (by decide) (pr_v2 v11) (pr_v1 (pr_v1 v2)) c11]; simp
/-- the twelve are closed -/
theorem pr_KS_tn {x : pr_V} (h : pr_va x) {w : Nat} (hw : w < 3) {y : pr_V} (hy : pr_va y) (hm : pr_ky y ∈ pr_KS x) : pr_ky (pr_tn w y) ∈ pr_KS x := by
  have vo := pr_vo h
  have so : pr_six (pr_o x) = pr_six (pr_tn 2 x) := pr_six_k vo (pr_v2 h) (pr_ko h)
  have soo : pr_six (pr_tn 2 (pr_o x)) = pr_six x := pr_six_k (pr_v2 vo) h ((pr_k_tn (by decide) vo (pr_v2 h) (pr_ko h)).trans (pr_kCC h))
  unfold pr_KS at hm ⊢
  rw [List.mem_append] at hm ⊢
  by_cases c : w < 2
  · exact hm.imp (pr_six_01 h c hy) (pr_six_01 vo c hy)
  · have : w = 2 := by omega
    subst this
    rcases hm with m | m
    · right; rw [so]; exact pr_six_2 h hy m
    · left; rw [← soo]; exact pr_six_2 vo hy m
/-- what holds the key of x and is closed has all twelve -/
theorem pr_KS_sub {x : pr_V} (h : pr_va x) {S : Nat → Prop} (h0 : S (pr_ky x)) (hc : ∀ y, pr_va y → S (pr_ky y) → ∀ w, w < 3 → S (pr_ky (pr_tn w y))) : ∀ k, k ∈ pr_KS x → S k := by
  have six : ∀ y, pr_va y → S (pr_ky y) → ∀ k, k ∈ pr_six y → S k := by
    intro y hy s k hk
    have s1 := hc y hy s 1 (by decide)
    have s11 := hc _ (pr_v1 hy) s1 1 (by decide)
    unfold pr_six at hk
    simp only [List.mem_cons, List.not_mem_nil, or_false] at hk
    rcases hk with rfl | rfl | rfl | rfl | rfl | rfl
    · exact s
    · exact hc y hy s 0 (by decide)
    · exact s1
    · exact hc _ (pr_v1 hy) s1 0 (by decide)
    · exact s11
    · exact hc _ (pr_v1 (pr_v1 hy)) s11 0 (by decide)
  intro k hk
  unfold pr_KS at hk
  rw [List.mem_append] at hk
  rcases hk with m | m
  · exact six x h h0 k m
  · refine six (pr_o x) (pr_vo h) ?_ k m
    have s1 := hc x h h0 1 (by decide)
    have s11 := hc _ (pr_v1 h) s1 1 (by decide)
    have s111 := hc _ (pr_v1 (pr_v1 h)) s11 1 (by decide)
    exact hc _ (pr_v1 (pr_v1 (pr_v1 h))) s111 2 (by decide)
/-! lists without repetition -/
theorem pr_php : ∀ (M S : List Nat), M.Nodup → (∀ x, x ∈ M → x ∈ S) → M.length ≤ S.length
  | [], _, _, _ => Nat.zero_le _
  | x :: M, S, hn, hs => by
    have hx := hs x (List.mem_cons_self)
    have hn' := List.nodup_cons.mp hn
    have ih := pr_php M (S.erase x) hn'.2 fun y hy => by
      have ne : y ≠ x := fun e => hn'.1 (e ▸ hy)
      exact (List.mem_erase_of_ne ne).mpr (hs y (List.mem_cons_of_mem _ hy))
    rw [List.length_erase_of_mem hx] at ih
    have : 0 < S.length := List.length_pos_of_mem hx
    rw [List.length_cons]; omega
theorem pr_sorted_nodup {L : List Nat} (h : L.Pairwise (· < ·)) : L.Nodup := h.imp fun a => Nat.ne_of_lt a
theorem pr_sorted_get {L : List Nat} (h : L.Pairwise (· < ·)) {i j : Nat} (hij : i < j) (hj : j < L.length) : L.getD i 0 < L.getD j 0 := by
  rw [pr_gD (show i < L.length by omega), pr_gD hj]
  exact (List.pairwise_iff_getElem.mp h) i j (by omega) hj hij
/-- a sorted list, cut at a number -/
theorem pr_cut (k : Nat) : ∀ (L : List Nat), L.Pairwise (· < ·) → ∃ A B, L = A ++ B ∧ (∀ x, x ∈ A → x < k) ∧ ∀ x, x ∈ B → k ≤ x
  | [], _ => ⟨[], [], rfl, fun _ h => absurd h (by simp), fun _ h => absurd h (by simp)⟩
  | y :: L, h => by
    have h' := List.pairwise_cons.mp h
    by_cases c : y < k
    · obtain ⟨A, B, e, h1, h2⟩ := pr_cut k L h'.2
      refine ⟨y :: A, B, by rw [e]; rfl, fun x hx => ?_, h2⟩
      rcases List.mem_cons.mp hx with rfl | hx
      · exact c
      · exact h1 x hx
    · refine ⟨[], y :: L, rfl, fun _ h => absurd h (by simp), fun x hx => ?_⟩
      rcases List.mem_cons.mp hx with rfl | hx
      · omega
      · have := h'.1 x hx; omega
/-- how many are before the i-th of a sorted list -/
theorem pr_count {L M : List Nat} (hL : L.Pairwise (· < ·)) (hM : M.Nodup) (hm : ∀ k, k ∈ M ↔ k ∈ L) {i : Nat} (hi : i < L.length) : (M.filter (fun y => decide (y < L.getD i 0))).length = i := by
  have e : (M.filter (fun y => decide (y < L.getD i 0))).length = (L.take i).length := by
    apply Nat.le_antisymm
    · refine pr_php _ _ (hM.filter _) fun y hy => ?_
      rw [List.mem_filter, decide_eq_true_eq] at hy
      obtain ⟨j, hj, ej⟩ := List.mem_iff_getElem.mp ((hm y).mp hy.1)
      rw [List.mem_iff_getElem]
      have lt : j < i := by
        rcases Nat.lt_or_ge j i with q | q
        · exact q
        · have h2 := hy.2
          rw [← ej, ← pr_gD hj] at h2
          rcases Nat.lt_or_ge i j with r | r
          · have := pr_sorted_get hL r hj; omega
          · have : i = j := by omega
            subst this; omega
      exact ⟨j, by rw [List.length_take]; omega, by rw [List.getElem_take]; exact ej⟩
    · refine pr_php _ _ (pr_sorted_nodup (hL.sublist (List.take_sublist _ _))) fun y hy => ?_
      obtain ⟨j, hj, ej⟩ := List.mem_iff_getElem.mp hy
      rw [List.length_take] at hj
      rw [List.getElem_take] at ej
      rw [List.mem_filter, decide_eq_true_eq, hm]
      refine ⟨ej ▸ List.getElem_mem _, ?_⟩
      rw [← ej, ← pr_gD (show j < L.length by omega)]
      exact pr_sorted_get hL (by omega) hi
  rw [e, List.length_take]; omega
theorem pr_len_eq {L M : List Nat} (hL : L.Nodup) (hM : M.Nodup) (hm : ∀ k, k ∈ M ↔ k ∈ L) : M.length = L.length :=
  Nat.le_antisymm (pr_php _ _ hM fun x h => (hm x).mp h) (pr_php _ _ hL fun x h => (hm x).mpr h)
