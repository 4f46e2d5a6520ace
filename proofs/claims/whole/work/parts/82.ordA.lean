/-! ORDERS: cubes of a heap, numbered; sets of them -/
def pr_T (h : Nat → Nat) (m : Nat) : Nat := pr_ks h m 16
def pr_Z (h : Nat → Nat) (m : Nat) : Nat := m - pq_sum (pr_T h m) h
def pr_id (h : Nat → Nat) (t z : Nat) : Nat := pq_sum t h + z
theorem pr_TZ {h : Nat → Nat} {m : Nat} (hm : m < pq_sum 16 h) : pr_T h m < 16 ∧ pr_Z h m < h (pr_T h m) ∧ pr_id h (pr_T h m) (pr_Z h m) = m := by
  obtain ⟨h1, h2, h3⟩ := pr_ks_spec hm
  have h3' : m < pq_sum (pr_T h m) h + h (pr_T h m) := h3
  have h2' : pq_sum (pr_T h m) h ≤ m := h2
  unfold pr_id pr_Z
  exact ⟨h1, by omega, by omega⟩
theorem pr_id_lt {h : Nat → Nat} {t z : Nat} (ht : t < 16) (hz : z < h t) : pr_id h t z < pq_sum 16 h := by
  have := pr_sum_le (f := h) (m := t + 1) (n := 16) (by omega)
  rw [pq_sum] at this
  unfold pr_id; omega
theorem pr_id_TZ {h : Nat → Nat} {t z : Nat} (ht : t < 16) (hz : z < h t) : pr_T h (pr_id h t z) = t ∧ pr_Z h (pr_id h t z) = z := by
  have e : pr_T h (pr_id h t z) = t := pr_ks_eq ht (by unfold pr_id; omega) (by rw [pq_sum]; unfold pr_id; omega)
  refine ⟨e, ?_⟩
  unfold pr_Z
  rw [e]; unfold pr_id; omega
/-- sums over cubes, cell by cell -/
theorem pr_reidx {h : Nat → Nat} {F : Nat → Nat → Nat} : ∀ n, n ≤ 16 → pq_sum (pq_sum n h) (fun m => F (pr_T h m) (pr_Z h m)) = pq_sum n (fun t => pq_sum (h t) (fun z => F t z))
  | 0, _ => rfl
  | n + 1, hn => by
    have split : ∀ d, d ≤ h n → pq_sum (pq_sum n h + d) (fun m => F (pr_T h m) (pr_Z h m)) = pq_sum (pq_sum n h) (fun m => F (pr_T h m) (pr_Z h m)) + pq_sum d (fun z => F n z) := by
      intro d
      induction d with
      | zero => intro _; rfl
      | succ d ih =>
        intro hd
        rw [← Nat.add_assoc, pq_sum, ih (by omega), pq_sum, Nat.add_assoc]
        obtain ⟨e1, e2⟩ := pr_id_TZ (h := h) (t := n) (z := d) (by omega) (by omega)
        unfold pr_id at e1 e2
        rw [e1, e2]
    rw [pq_sum, split (h n) (Nat.le_refl _), pr_reidx n (by omega), pq_sum]
/-! sets as numbers -/
def pr_bs (n : Nat) (p : Nat → Bool) : Nat := pq_sum n (fun m => if p m then 2 ^ m else 0)
theorem pr_bs_lt {p : Nat → Bool} : ∀ {n : Nat}, pr_bs n p < 2 ^ n
  | 0 => by simp [pr_bs, pq_sum]
  | n + 1 => by
    have := pr_bs_lt (p := p) (n := n)
    unfold pr_bs at *
    rw [pq_sum, Nat.pow_succ]
    split <;> omega
theorem pr_bs_bit {p : Nat → Bool} : ∀ {n i : Nat}, (pr_bs n p).testBit i = (decide (i < n) && p i)
  | 0, i => by simp [pr_bs, pq_sum]
  | n + 1, i => by
    have l := pr_bs_lt (p := p) (n := n)
    have ih := pr_bs_bit (p := p) (n := n) (i := i)
    have e : pr_bs (n + 1) p = pr_bs n p + if p n then 2 ^ n else 0 := rfl
    rw [e]
    cases hp : p n
    · rw [if_neg (by decide), Nat.add_zero, ih]
      by_cases c : i = n
      · subst c; rw [hp]; simp
      · rw [show decide (i < n + 1) = decide (i < n) from by
          by_cases q : i < n
          · rw [decide_eq_true q, decide_eq_true (by omega)]
          · rw [decide_eq_false q, decide_eq_false (by omega)]]
    · rw [if_pos rfl, Nat.add_comm]
      rcases Nat.lt_trichotomy i n with c | c | c
      · rw [Nat.testBit_two_pow_add_gt c, ih, decide_eq_true c, decide_eq_true (by omega)]
      · subst c
        rw [Nat.testBit_two_pow_add_eq, ih]; simp [hp]
      · have l2 : 2 ^ n + pr_bs n p < 2 ^ i := by
          have := Nat.pow_le_pow_right (show 0 < 2 by decide) (show n + 1 ≤ i by omega)
          rw [Nat.pow_succ] at this
          omega
        rw [Nat.testBit_lt_two_pow l2, decide_eq_false (by omega)]; rfl
theorem pr_bits {x y : Nat} (h : ∀ i, x.testBit i = y.testBit i) : x = y := Nat.eq_of_testBit_eq h
def pr_clr (w k : Nat) : Nat := w &&& (255 ^^^ 2 ^ k)
theorem pr_255 (i : Nat) : (255 : Nat).testBit i = decide (i < 8) := by
  have := Nat.testBit_two_pow_sub_one 8 i
  exact this
theorem pr_clr_bit {w k i : Nat} (hw : w < 256) (hk : k < 8) : (pr_clr w k).testBit i = (w.testBit i && decide (i ≠ k)) := by
  unfold pr_clr
  rw [Nat.testBit_and, Nat.testBit_xor, pr_255, Nat.testBit_two_pow]
  by_cases c : i < 8
  · rw [decide_eq_true c]
    by_cases e : i = k
    · subst e; simp
    · rw [decide_eq_false (show ¬ k = i by omega), decide_eq_true e]; simp
  · have : w.testBit i = false := Nat.testBit_lt_two_pow (Nat.lt_of_lt_of_le hw (by
      have := Nat.pow_le_pow_right (show 0 < 2 by decide) (show 8 ≤ i by omega)
      exact this))
    rw [this]; simp
theorem pr_clr_lt {w k : Nat} (hk : k < 8) (hb : w.testBit k = true) (hw : w < 256) : pr_clr w k < w := by
  have e : pr_clr w k + 2 ^ k = w := by
    have K : ∀ w, w < 256 → ∀ k, k < 8 → w.testBit k = true → pr_clr w k + 2 ^ k = w := by
      have := (by decide +kernel : pq_all 256 (fun w => pq_all 8 (fun k => !(w.testBit k) || decide (pr_clr w k + 2 ^ k = w))) = true)
      intro w hw k hk hb
      rw [pq_all_iff] at this
      have h1 := this w hw
      rw [pq_all_iff] at h1
      have h2 := h1 k hk
      rw [hb] at h2
      simpa using h2
    exact K w hw k hk hb
  have := Nat.two_pow_pos k
  omega
/-! counting orders by sets -/
def pr_sub (x y : Nat) : Bool := decide (x &&& y = x)
theorem pr_sub_iff {x y : Nat} : pr_sub x y = true ↔ ∀ i, x.testBit i = true → y.testBit i = true := by
  unfold pr_sub
  rw [decide_eq_true_eq]
  constructor
  · intro e i hi
    rw [← e, Nat.testBit_and] at hi
    exact (Bool.and_eq_true_iff.mp hi).2
  · intro h
    refine pr_bits fun i => ?_
    rw [Nat.testBit_and]
    cases e : x.testBit i
    · rfl
    · rw [h i e]; rfl
def pr_ok1 (nd : Nat → Nat) (w k : Nat) : Bool := w.testBit k && pr_sub (nd k) w
def pr_wf (V : Nat) (nd : Nat → Nat) : Nat → Nat → Nat
  | 0, _ => 0
  | f + 1, w => (if w = 0 then 1 else 0) + pq_sum V (fun k => if pr_ok1 nd w k then pr_wf V nd f (pr_clr w k) else 0)
def pr_ways (V : Nat) (nd : Nat → Nat) (w : Nat) : Nat := pr_wf V nd (w + 1) w
theorem pr_wf_f {V : Nat} {nd : Nat → Nat} (hV : V ≤ 8) : ∀ (n w f : Nat), w ≤ n → w < f → w < 256 → pr_wf V nd f w = pr_wf V nd (w + 1) w
  | 0, w, f, hn, hf, hw => by
    obtain ⟨f, rfl⟩ : ∃ g, f = g + 1 := ⟨f - 1, by omega⟩
    have : w = 0 := by omega
    subst this
    rw [pr_wf, pr_wf]
    congr 1
    exact pq_sum_eq fun k _ => by
      have : pr_ok1 nd 0 k = false := by unfold pr_ok1; simp
      rw [this]; rfl
  | n + 1, w, f, hn, hf, hw => by
    obtain ⟨f, rfl⟩ : ∃ g, f = g + 1 := ⟨f - 1, by omega⟩
    rw [pr_wf, pr_wf]
    congr 1
    refine pq_sum_eq fun k hk => ?_
    cases e : pr_ok1 nd w k
    · rfl
    · have hb : w.testBit k = true := by
        unfold pr_ok1 at e; exact (Bool.and_eq_true_iff.mp e).1
      have lt := pr_clr_lt (show k < 8 by omega) hb hw
      rw [if_pos rfl, if_pos rfl, pr_wf_f hV n _ f (by omega) (by omega) (by omega), pr_wf_f hV n _ w (by omega) (by omega) (by omega)]
theorem pr_ways_rec {V : Nat} {nd : Nat → Nat} (hV : V ≤ 8) {w : Nat} (hw : w < 256) : pr_ways V nd w = (if w = 0 then 1 else 0) + pq_sum V (fun k => if pr_ok1 nd w k then pr_ways V nd (pr_clr w k) else 0) := by
  unfold pr_ways
  rw [pr_wf]
  congr 1
  refine pq_sum_eq fun k hk => ?_
  cases e : pr_ok1 nd w k
  · rfl
  · have hb : w.testBit k = true := by
      unfold pr_ok1 at e; exact (Bool.and_eq_true_iff.mp e).1
    have lt := pr_clr_lt (show k < 8 by omega) hb hw
    rw [if_pos rfl, if_pos rfl, pr_wf_f hV w _ w (by omega) (by omega) (by omega)]
/-- what lacks something that it needs can't be ordered -/
theorem pr_ways_0 {V : Nat} {nd : Nat → Nat} (hV : V ≤ 8) : ∀ (n w l i : Nat), w ≤ n → w < 256 → w.testBit l = true → (nd l).testBit i = true → w.testBit i = false → pr_ways V nd w = 0
  | 0, w, l, i, hn, _, hl, _, _ => by
    have : w = 0 := by omega
    subst this
    simp at hl
  | n + 1, w, l, i, hn, hw, hl, hi, hni => by
    have hw0 : w ≠ 0 := fun e => by subst e; simp at hl
    rw [pr_ways_rec hV hw, if_neg hw0, Nat.zero_add, pq_sum_eq (g := fun _ => 0) fun k hk => ?_]
    · exact pq_sum_zero
    · cases e : pr_ok1 nd w k
      · rfl
      · rw [if_pos rfl]
        unfold pr_ok1 at e
        obtain ⟨e1, e2⟩ := Bool.and_eq_true_iff.mp e
        have kl : l ≠ k := fun q => by
          subst q
          have := pr_sub_iff.mp e2 i hi
          rw [hni] at this; cases this
        have lt := pr_clr_lt (show k < 8 by omega) e1 hw
        refine pr_ways_0 hV n (pr_clr w k) l i (by omega) (by omega) ?_ hi ?_
        · rw [pr_clr_bit hw (by omega), hl, decide_eq_true kl]; rfl
        · rw [pr_clr_bit hw (by omega), hni]; rfl
/-! orders of a heap -/
def pr_shk (g : Nat → Nat) (t : Nat) : Bool := decide ((if t + 4 < 16 then g (t + 4) else 0) < g t ∧ (if t % 4 < 3 then g (t + 1) else 0) < g t)
def pr_od : Nat → (Nat → Nat) → Nat
  | 0, _ => 1
  | n + 1, g => pq_sum 16 (fun t => if pr_shk g t then pr_od n (pq_u g t (g t - 1)) else 0)
/-- heights that fall both ways -/
def pr_fall (g : Nat → Nat) : Prop := ∀ t, t < 16 → (t + 4 < 16 → g (t + 4) ≤ g t) ∧ (t % 4 < 3 → g (t + 1) ≤ g t)
theorem pr_fall_hv {a b c : Nat} {h : Nat → Nat} (H : pq_hv a b c h) : pr_fall h := by
  intro t ht
  have q := H.2.2.2.2 (t / 4) (t % 4) (by omega) (by omega)
  have e : 4 * (t / 4) + t % 4 = t := by omega
  rw [e] at q
  refine ⟨fun h1 => ?_, fun h1 => ?_⟩
  · have := q.2.2.1 (by omega)
    rwa [show 4 * (t / 4 + 1) + t % 4 = t + 4 by omega] at this
  · have := q.2.2.2 (by omega)
    rwa [show 4 * (t / 4) + (t % 4 + 1) = t + 1 by omega] at this
theorem pr_fall_u {g : Nat → Nat} (hg : pr_fall g) {t : Nat} (ht : t < 16) (hs : pr_shk g t = true) : pr_fall (pq_u g t (g t - 1)) ∧ 0 < g t := by
  unfold pr_shk at hs
  rw [decide_eq_true_eq] at hs
  refine ⟨fun s hs' => ?_, by omega⟩
  have q := hg s hs'
  unfold pq_u
  refine ⟨fun h1 => ?_, fun h1 => ?_⟩
  · have q1 := q.1 h1
    by_cases e1 : s + 4 = t
    · rw [if_pos e1, if_neg (by omega)]; rw [e1] at q1; omega
    · rw [if_neg e1]
      by_cases e2 : s = t
      · subst e2; rw [if_pos rfl]
        have := hs.1; rw [if_pos h1] at this; omega
      · rw [if_neg e2]; exact q1
  · have q1 := q.2 h1
    by_cases e1 : s + 1 = t
    · rw [if_pos e1, if_neg (by omega)]; rw [e1] at q1; omega
    · rw [if_neg e1]
      by_cases e2 : s = t
      · subst e2; rw [if_pos rfl]
        have := hs.2; rw [if_pos h1] at this; omega
      · rw [if_neg e2]; exact q1
theorem pr_sum_u {g : Nat → Nat} {t v : Nat} : ∀ {n : Nat}, t < n → pq_sum n (pq_u g t v) + g t = pq_sum n g + v
  | 0, ht => absurd ht (by omega)
  | n + 1, ht => by
    rw [pq_sum, pq_sum]
    by_cases e : t = n
    · subst e
      rw [pq_sum_eq (n := t) (f := pq_u g t v) (g := g) fun k hk => if_neg (by omega), show pq_u g t v t = v from if_pos rfl]; omega
    · have := pr_sum_u (g := g) (v := v) (n := n) (t := t) (by omega)
      rw [show pq_u g t v n = g n from if_neg (by omega)]; omega
/-- what the cube z of cell t needs -/
def pr_nd (h : Nat → Nat) (m : Nat) : Nat := ((if 4 ≤ pr_T h m then 2 ^ pr_id h (pr_T h m - 4) (pr_Z h m) else 0) ||| (if pr_T h m % 4 ≠ 0 then 2 ^ pr_id h (pr_T h m - 1) (pr_Z h m) else 0)) ||| (if pr_Z h m ≠ 0 then 2 ^ pr_id h (pr_T h m) (pr_Z h m - 1) else 0)
theorem pr_nd_bit {h : Nat → Nat} {m i : Nat} : (pr_nd h m).testBit i = true ↔ (4 ≤ pr_T h m ∧ i = pr_id h (pr_T h m - 4) (pr_Z h m)) ∨ (pr_T h m % 4 ≠ 0 ∧ i = pr_id h (pr_T h m - 1) (pr_Z h m)) ∨ (pr_Z h m ≠ 0 ∧ i = pr_id h (pr_T h m) (pr_Z h m - 1)) := by
  have one : ∀ (p : Prop) [Decidable p] (j : Nat), (if p then 2 ^ j else 0).testBit i = true ↔ (p ∧ i = j) := by
    intro p _ j
    by_cases c : p
    · rw [if_pos c, Nat.testBit_two_pow, decide_eq_true_eq]
      exact ⟨fun e => ⟨c, e.symm⟩, fun e => e.2.symm⟩
    · rw [if_neg c]
      simp [c]
  unfold pr_nd
  rw [Nat.testBit_or, Nat.testBit_or, Bool.or_eq_true, Bool.or_eq_true, one, one, one, or_assoc]
/-- the set of a heap inside h -/
def pr_S (h g : Nat → Nat) : Nat := pr_bs (pq_sum 16 h) (fun m => decide (pr_Z h m < g (pr_T h m)))
theorem pr_S_bit {h g : Nat → Nat} {i : Nat} : (pr_S h g).testBit i = true ↔ i < pq_sum 16 h ∧ pr_Z h i < g (pr_T h i) := by
  unfold pr_S
  rw [pr_bs_bit, Bool.and_eq_true, decide_eq_true_eq, decide_eq_true_eq]
theorem pr_S_id {h g : Nat → Nat} {t z : Nat} (ht : t < 16) (hz : z < h t) : (pr_S h g).testBit (pr_id h t z) = true ↔ z < g t := by
  rw [pr_S_bit, (pr_id_TZ ht hz).1, (pr_id_TZ ht hz).2]
  exact ⟨fun q => q.2, fun q => ⟨pr_id_lt ht hz, q⟩⟩
/-- THE TWO COUNTS OF ORDERS -/
theorem pr_orders {h : Nat → Nat} (hf : pr_fall h) (hV : pq_sum 16 h ≤ 8) : ∀ (n : Nat) (g : Nat → Nat), pr_fall g → (∀ t, t < 16 → g t ≤ h t) → pq_sum 16 g = n → pr_ways (pq_sum 16 h) (pr_nd h) (pr_S h g) = pr_od n g
  | 0, g, hg, hle, hn => by
    have z : ∀ t, t < 16 → g t = 0 := by
      intro t ht
      have := pr_sum_le (f := g) (m := t + 1) (n := 16) (by omega)
      rw [pq_sum] at this; omega
    have e : pr_S h g = 0 := pr_bits fun i => by
      rw [Nat.zero_testBit]
      cases c : (pr_S h g).testBit i
      · rfl
      · have := pr_S_bit.mp c
        have t16 := (pr_TZ this.1).1
        have := this.2
        rw [z _ t16] at this; omega
    rw [e, pr_ways_rec hV (by omega), if_pos rfl, pr_od, pq_sum_eq (g := fun _ => 0) fun k _ => by
      have : pr_ok1 (pr_nd h) 0 k = false := by unfold pr_ok1; simp
      rw [this]; rfl, pq_sum_zero]
  | n + 1, g, hg, hle, hn => by
    have hw : pr_S h g < 256 := by
      have l := pr_bs_lt (n := pq_sum 16 h) (p := fun m => decide (pr_Z h m < g (pr_T h m)))
      have := Nat.pow_le_pow_right (show 0 < 2 by decide) hV
      exact Nat.lt_of_lt_of_le l this
    have hne : pr_S h g ≠ 0 := by
      intro e
      have z : ∀ t, t < 16 → g t = 0 := by
        intro t ht
        rcases Nat.eq_zero_or_pos (g t) with q | q
        · exact q
        · have b := (pr_S_id (h := h) (g := g) ht (z := 0) (by have := hle t ht; omega)).mpr q
          rw [e] at b; simp at b
      rw [pq_sum_eq (g := fun _ => 0) z, pq_sum_zero] at hn
      omega
    rw [pr_ways_rec hV hw, if_neg hne, Nat.zero_add]
    -- each cube
    have term : ∀ k, k < pq_sum 16 h → (if pr_ok1 (pr_nd h) (pr_S h g) k then pr_ways (pq_sum 16 h) (pr_nd h) (pr_clr (pr_S h g) k) else 0) = if pr_Z h k + 1 = g (pr_T h k) ∧ pr_shk g (pr_T h k) = true then pr_od n (pq_u g (pr_T h k) (g (pr_T h k) - 1)) else 0 := by
      intro k hk
      obtain ⟨t16, zh, ek⟩ := pr_TZ hk
      by_cases cb : pr_Z h k < g (pr_T h k)
      · have kb : (pr_S h g).testBit k = true := pr_S_bit.mpr ⟨hk, cb⟩
        have ok : pr_ok1 (pr_nd h) (pr_S h g) k = true := by
          unfold pr_ok1
          rw [kb, Bool.true_and]
          refine pr_sub_iff.mpr fun i hi => ?_
          rcases pr_nd_bit.mp hi with ⟨c1, rfl⟩ | ⟨c1, rfl⟩ | ⟨c1, rfl⟩
          · have q1 := (hg (pr_T h k - 4) (by omega)).1 (by omega)
            have q2 := (hf (pr_T h k - 4) (by omega)).1 (by omega)
            rw [show pr_T h k - 4 + 4 = pr_T h k by omega] at q1 q2
            exact (pr_S_id (by omega) (by omega)).mpr (by omega)
          · have q1 := (hg (pr_T h k - 1) (by omega)).2 (by omega)
            have q2 := (hf (pr_T h k - 1) (by omega)).2 (by omega)
            rw [show pr_T h k - 1 + 1 = pr_T h k by omega] at q1 q2
            exact (pr_S_id (by omega) (by omega)).mpr (by omega)
          · exact (pr_S_id t16 (by omega)).mpr (by omega)
        rw [ok, if_pos rfl]
        by_cases top : pr_Z h k + 1 = g (pr_T h k) ∧ pr_shk g (pr_T h k) = true
        · rw [if_pos top]
          obtain ⟨fu, pos⟩ := pr_fall_u hg t16 top.2
          have es : pr_clr (pr_S h g) k = pr_S h (pq_u g (pr_T h k) (g (pr_T h k) - 1)) := pr_bits fun i => by
            rw [pr_clr_bit hw (by omega)]
            apply Bool.eq_iff_iff.mpr
            rw [Bool.and_eq_true, decide_eq_true_eq, pr_S_bit, pr_S_bit]
            unfold pq_u
            by_cases c1 : i < pq_sum 16 h
            · obtain ⟨i16, iz, ei⟩ := pr_TZ c1
              by_cases ct : pr_T h i = pr_T h k
              · rw [if_pos ct, ct]
                have : i ≠ k ↔ pr_Z h i ≠ pr_Z h k := by
                  refine not_congr ⟨fun e => by rw [e], fun e => ?_⟩
                  rw [← ei, ← ek, ct, e]
                rw [this]
                have := top.1
                refine ⟨fun q => ⟨q.1.1, by omega⟩, fun q => ⟨⟨q.1, by omega⟩, by omega⟩⟩
              · rw [if_neg ct]
                refine ⟨fun q => q.1, fun q => ⟨q, fun e => ct (by rw [e])⟩⟩
            · exact ⟨fun q => absurd q.1.1 c1, fun q => absurd q.1 c1⟩
          rw [es]
          refine pr_orders hf hV n _ fu (fun s hs => ?_) ?_
          · unfold pq_u
            split
            · rename_i e; subst e; have := hle _ t16; omega
            · exact hle s hs
          · have := pr_sum_u (g := g) (t := pr_T h k) (v := g (pr_T h k) - 1) t16
            omega
        · rw [if_neg top]
          -- something that stays needs it
          have kz : ∀ l, (pr_S h g).testBit l = true → l ≠ k → (pr_nd h l).testBit k = true → pr_ways (pq_sum 16 h) (pr_nd h) (pr_clr (pr_S h g) k) = 0 := by
            intro l h1 h2 h3
            have lt := pr_clr_lt (show k < 8 by omega) kb hw
            refine pr_ways_0 hV _ (pr_clr (pr_S h g) k) l k (Nat.le_refl _) (by omega) ?_ h3 ?_
            · rw [pr_clr_bit hw (by omega), h1, decide_eq_true h2]; rfl
            · rw [pr_clr_bit hw (by omega)]; simp
          by_cases c2 : pr_Z h k + 1 = g (pr_T h k)
          · have ns : ¬ pr_shk g (pr_T h k) = true := fun q => top ⟨c2, q⟩
            unfold pr_shk at ns
            rw [decide_eq_true_eq] at ns
            by_cases c3 : (if pr_T h k + 4 < 16 then g (pr_T h k + 4) else 0) < g (pr_T h k)
            · have c4 : ¬ (if pr_T h k % 4 < 3 then g (pr_T h k + 1) else 0) < g (pr_T h k) := fun q => ns ⟨c3, q⟩
              by_cases c5 : pr_T h k % 4 < 3
              · rw [if_pos c5] at c4
                have t' : pr_T h k + 1 < 16 := by omega
                have zh' : pr_Z h k < h (pr_T h k + 1) := by have := hle _ t'; omega
                obtain ⟨i1, i2⟩ := pr_id_TZ t' zh'
                refine kz (pr_id h (pr_T h k + 1) (pr_Z h k)) ((pr_S_id t' zh').mpr (by omega)) (fun e => ?_) ?_
                · rw [e] at i1; omega
                · refine pr_nd_bit.mpr (Or.inr (Or.inl ?_))
                  rw [i1, i2, Nat.add_sub_cancel]
                  exact ⟨by omega, ek.symm⟩
              · rw [if_neg c5] at c4; omega
            · by_cases c5 : pr_T h k + 4 < 16
              · rw [if_pos c5] at c3
                have zh' : pr_Z h k < h (pr_T h k + 4) := by have := hle _ c5; omega
                obtain ⟨i1, i2⟩ := pr_id_TZ c5 zh'
                refine kz (pr_id h (pr_T h k + 4) (pr_Z h k)) ((pr_S_id c5 zh').mpr (by omega)) (fun e => ?_) ?_
                · rw [e] at i1; omega
                · refine pr_nd_bit.mpr (Or.inl ?_)
                  rw [i1, i2, Nat.add_sub_cancel]
                  exact ⟨by omega, ek.symm⟩
              · rw [if_neg c5] at c3; omega
          · have zh' : pr_Z h k + 1 < h (pr_T h k) := by have := hle _ t16; omega
            obtain ⟨i1, i2⟩ := pr_id_TZ t16 zh'
            refine kz (pr_id h (pr_T h k) (pr_Z h k + 1)) ((pr_S_id t16 zh').mpr (by omega)) (fun e => ?_) ?_
            · rw [e] at i2; omega
            · refine pr_nd_bit.mpr (Or.inr (Or.inr ?_))
              rw [i1, i2, Nat.add_sub_cancel]
              exact ⟨by omega, ek.symm⟩
      · have kb : (pr_S h g).testBit k = false := by
          cases c : (pr_S h g).testBit k
          · rfl
          · exact absurd (pr_S_bit.mp c).2 cb
        have : pr_ok1 (pr_nd h) (pr_S h g) k = false := by unfold pr_ok1; rw [kb]; rfl
        rw [this, if_neg (by decide), if_neg (by omega)]
    rw [pq_sum_eq term, pr_reidx (F := fun t z => if z + 1 = g t ∧ pr_shk g t = true then pr_od n (pq_u g t (g t - 1)) else 0) 16 (Nat.le_refl _), pr_od]
    refine pq_sum_eq fun t ht => ?_
    cases e : pr_shk g t
    · rw [if_neg (by decide), pq_sum_eq (g := fun _ => 0) fun z _ => if_neg (by simp)]
      exact pq_sum_zero
    · rw [if_pos rfl]
      have pos := (pr_fall_u hg ht e).2
      have le := hle t ht
      have one : ∀ m, m ≤ h t → pq_sum m (fun z => if z + 1 = g t ∧ true = true then pr_od n (pq_u g t (g t - 1)) else 0) = if g t ≤ m then pr_od n (pq_u g t (g t - 1)) else 0 := by
        intro m
        induction m with
        | zero => intro _; rw [if_neg (by omega)]; rfl
        | succ m ih =>
          intro hm
          rw [pq_sum, ih (by omega)]
          by_cases c1 : g t ≤ m
          · rw [if_pos c1, if_neg (by omega), if_pos (by omega)]; rfl
          · rw [if_neg c1]
            by_cases c2 : m + 1 = g t
            · rw [if_pos ⟨c2, rfl⟩, if_pos (by omega)]; omega
            · rw [if_neg (fun q => c2 q.1), if_neg (by omega)]
      rw [one (h t) (Nat.le_refl _), if_pos le]
theorem pr_S_full {h : Nat → Nat} : pr_S h h = 2 ^ pq_sum 16 h - 1 := pr_bits fun i => by
  rw [Nat.testBit_two_pow_sub_one]
  apply Bool.eq_iff_iff.mpr
  rw [pr_S_bit, decide_eq_true_eq]
  exact ⟨fun q => q.1, fun q => ⟨q, (pr_TZ q).2.1⟩⟩
