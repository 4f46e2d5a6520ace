/-! READING A HEAP: what is read, whoever reads it -/
def pu_sg (T : Nat → Nat) (n p : Nat) : Option Nat := if p < n then some (T p) else none
def pu_s (o : Option Nat) : Int32 := o.elim (-1) nI
def pu_lo (o : Option Nat) : Prop := ∀ x, o = some x → x < 256
def pu_dig (o : Option Nat) : Option Nat := match o with
  | none => none
  | some x => if 48 ≤ x ∧ x ≤ 57 then some (x - 48) else none
theorem pu_sg_lo {T : Nat → Nat} {n p : Nat} (hT : ∀ i, i < n → T i < 256) : pu_lo (pu_sg T n p) := by
  intro x e
  unfold pu_sg at e
  split at e
  · cases e; exact hT _ (by assumption)
  · cases e
theorem pu_sg_lt {T : Nat → Nat} {n p x : Nat} (e : pu_sg T n p = some x) : p < n := by
  unfold pu_sg at e
  split at e
  · assumption
  · cases e
theorem pu_s_eq {o : Option Nat} {k : Nat} (h : pu_lo o) (hk : k < 256) : pu_s o = nI k ↔ o = some k := by
  cases o with
  | none =>
    refine ⟨fun e => ?_, fun e => by cases e⟩
    have : ¬ (-1 : Int32) < 0 := by rw [show (-1 : Int32) = nI k from e]; exact nI_pos (by omega)
    exact absurd (by decide) this
  | some x =>
    have := h x rfl
    refine ⟨fun e => ?_, fun e => by cases e; rfl⟩
    rw [(nI_eq (by omega) (by omega)).mp (show nI x = nI k from e)]
theorem pu_dig_all : (pq_all 256 fun x => if 48 ≤ x ∧ x ≤ 57 then decide (¬ nI x < 48 ∧ ¬ 57 < nI x ∧ nI x - 48 = nI (x - 48)) else decide ((nI x < 48 ∨ 57 < nI x) ∧ (nI x - 48 < 0 ∨ 9 < nI x - 48))) = true := by decide +kernel
theorem pu_dig_none {o : Option Nat} (h : pu_lo o) (e : pu_dig o = none) : (pu_s o < 48 ∨ 57 < pu_s o) ∧ (pu_s o - 48 < 0 ∨ 9 < pu_s o - 48) := by
  cases o with
  | none => exact ⟨Or.inl (by decide), Or.inl (by decide)⟩
  | some x =>
    have q := pq_all_iff.mp pu_dig_all x (h x rfl)
    unfold pu_dig at e
    dsimp only at e
    split at e
    · cases e
    · rename_i c
      rw [if_neg c] at q
      exact of_decide_eq_true q
theorem pu_dig_some {o : Option Nat} {v : Nat} (h : pu_lo o) (e : pu_dig o = some v) : ¬ pu_s o < 48 ∧ ¬ 57 < pu_s o ∧ pu_s o - 48 = nI v ∧ v ≤ 9 := by
  cases o with
  | none => cases e
  | some x =>
    have q := pq_all_iff.mp pu_dig_all x (h x rfl)
    unfold pu_dig at e
    dsimp only at e
    split at e
    · rename_i c
      rw [if_pos c] at q
      cases e
      obtain ⟨q1, q2, q3⟩ := of_decide_eq_true q
      exact ⟨q1, q2, q3, by omega⟩
    · cases e
theorem pu_dig_lt {T : Nat → Nat} {n p v : Nat} (e : pu_dig (pu_sg T n p) = some v) : p < n := by
  cases q : pu_sg T n p with
  | none => rw [q] at e; cases e
  | some x => exact pu_sg_lt q
/-- the heights told so far -/
abbrev pu_S := Nat × (Nat → Option Nat) × Nat
def pu_up (τ : Nat → Option Nat) (i j : Nat) : Option Nat := if i = 0 then none else τ (4 * (i - 1) + j)
def pu_lf (τ : Nat → Option Nat) (i j : Nat) : Option Nat := if j = 0 then none else τ (4 * i + (j - 1))
def pu_dn (τ : Nat → Option Nat) (i j : Nat) : Option Nat := if i = 3 then none else τ (4 * (i + 1) + j)
def pu_rt (τ : Nat → Option Nat) (i j : Nat) : Option Nat := if j = 3 then none else τ (4 * i + (j + 1))
def pu_ok (τ : Nat → Option Nat) (c i j v : Nat) : Bool := decide (v ≤ (pu_up τ i j).getD c ∧ v ≤ (pu_lf τ i j).getD c ∧ (pu_dn τ i j).getD 0 ≤ v ∧ (pu_rt τ i j).getD 0 ≤ v)
def pu_set (τ : Nat → Option Nat) (t v : Nat) (s : Nat) : Option Nat := if s = t then some v else τ s
def pu_I (a b c : Nat) (τ : Nat → Option Nat) : Prop := ∀ i j, i < 4 → j < 4 → ∀ v, τ (4 * i + j) = some v → i < a ∧ j < b ∧ v ≤ c ∧ (∀ w, i + 1 < 4 → τ (4 * (i + 1) + j) = some w → w ≤ v) ∧ ∀ w, j + 1 < 4 → τ (4 * i + (j + 1)) = some w → w ≤ v
theorem pu_I_9 {a b c : Nat} {τ : Nat → Option Nat} (h : pu_I a b c τ) {t v : Nat} (ht : t < 16) (e : τ t = some v) : v ≤ c := by
  have e' : τ (4 * (t / 4) + t % 4) = some v := by rw [show 4 * (t / 4) + t % 4 = t by omega]; exact e
  exact (h (t / 4) (t % 4) (by omega) (by omega) v e').2.2.1
theorem pu_ok_c {a b c i j v : Nat} {τ : Nat → Option Nat} (h : pu_I a b c τ) (hi : i < 4) (hj : j < 4) (o : pu_ok τ c i j v = true) : v ≤ c := by
  have q := (of_decide_eq_true o).1
  unfold pu_up at q
  split at q
  · exact q
  · cases e : τ (4 * (i - 1) + j) with
    | none => rw [e] at q; exact q
    | some u => rw [e] at q; exact Nat.le_trans q (pu_I_9 h (by omega) e)
theorem pu_I_set {a b c i j v : Nat} {τ : Nat → Option Nat} (h : pu_I a b c τ) (hi : i < a) (hj : j < b) (ha : a ≤ 4) (hb : b ≤ 4) (o : pu_ok τ c i j v = true) : pu_I a b c (pu_set τ (4 * i + j) v) := by
  have vc := pu_ok_c h (by omega) (by omega) o
  obtain ⟨o1, o2, o3, o4⟩ := of_decide_eq_true o
  intro i' j' hi' hj' v' e
  unfold pu_set at e ⊢
  by_cases c1 : 4 * i' + j' = 4 * i + j
  · have e1 : i' = i := by omega
    have e2 : j' = j := by omega
    subst e1 e2
    rw [if_pos rfl] at e
    cases e
    refine ⟨hi, hj, vc, fun w hw e => ?_, fun w hw e => ?_⟩
    · rw [if_neg (by omega)] at e
      unfold pu_dn at o3
      rw [if_neg (by omega), e] at o3; exact o3
    · rw [if_neg (by omega)] at e
      unfold pu_rt at o4
      rw [if_neg (by omega), e] at o4; exact o4
  · rw [if_neg c1] at e
    obtain ⟨q1, q2, q3, q4, q5⟩ := h i' j' hi' hj' v' e
    refine ⟨q1, q2, q3, fun w hw e' => ?_, fun w hw e' => ?_⟩
    · by_cases c2 : 4 * (i' + 1) + j' = 4 * i + j
      · rw [if_pos c2] at e'
        cases e'
        have e1 : i - 1 = i' := by omega
        have e2 : j' = j := by omega
        unfold pu_up at o1
        rw [if_neg (by omega), e1, ← e2, e] at o1; exact o1
      · rw [if_neg c2] at e'; exact q4 w hw e'
    · by_cases c2 : 4 * i' + (j' + 1) = 4 * i + j
      · rw [if_pos c2] at e'
        cases e'
        have e1 : i' = i := by omega
        have e2 : j - 1 = j' := by omega
        unfold pu_lf at o2
        rw [if_neg (by omega), e2, ← e1, e] at o2; exact o2
      · rw [if_neg c2] at e'; exact q5 w hw e'
/-- one height -/
def pu_h (T : Nat → Nat) (n c i j : Nat) (s : pu_S) : pu_S := match pu_dig (pu_sg T n s.1) with
  | none => (s.1, s.2.1, 1)
  | some v => if pu_ok s.2.1 c i j v then (s.1 + 1, pu_set s.2.1 (4 * i + j) v, 0) else (s.1, s.2.1, 2)
def pu_seq (T : Nat → Nat) (n c : Nat) (cell : Nat → Option (Nat × Nat)) (s0 : pu_S) : Nat → pu_S
  | 0 => s0
  | k + 1 => if (pu_seq T n c cell s0 k).2.2 = 0 then (match cell k with
    | none => pu_seq T n c cell s0 k
    | some x => pu_h T n c x.1 x.2 (pu_seq T n c cell s0 k)) else pu_seq T n c cell s0 k
theorem pu_seq_s {T : Nat → Nat} {n c k i j : Nat} {cell : Nat → Option (Nat × Nat)} {s0 : pu_S} (h : (pu_seq T n c cell s0 k).2.2 = 0) (e : cell k = some (i, j)) : pu_seq T n c cell s0 (k + 1) = pu_h T n c i j (pu_seq T n c cell s0 k) := by
  rw [pu_seq, if_pos h, e]
theorem pu_seq_n {T : Nat → Nat} {n c k : Nat} {cell : Nat → Option (Nat × Nat)} {s0 : pu_S} (e : cell k = none) : pu_seq T n c cell s0 (k + 1) = pu_seq T n c cell s0 k := by
  rw [pu_seq, e]
  split <;> rfl
theorem pu_seq_b {T : Nat → Nat} {n c k : Nat} {cell : Nat → Option (Nat × Nat)} {s0 : pu_S} (h : (pu_seq T n c cell s0 k).2.2 ≠ 0) : ∀ m, pu_seq T n c cell s0 (k + m) = pu_seq T n c cell s0 k
  | 0 => rfl
  | m + 1 => by rw [← Nat.add_assoc, pu_seq, pu_seq_b h m, if_neg h]
theorem pu_seq_skip {T : Nat → Nat} {n c k : Nat} {cell : Nat → Option (Nat × Nat)} {s0 : pu_S} : ∀ m, (∀ x, x < m → cell (k + x) = none) → pu_seq T n c cell s0 (k + m) = pu_seq T n c cell s0 k
  | 0, _ => rfl
  | m + 1, h => by rw [← Nat.add_assoc, pu_seq_n (h m (by omega)), pu_seq_skip m fun x hx => h x (by omega)]
/-- what holds of a state -/
def pu_G (a b c n : Nat) (s : pu_S) : Prop := s.1 ≤ n ∧ pu_I a b c s.2.1 ∧ s.2.2 ≤ 2
theorem pu_h_G {T : Nat → Nat} {a b c n i j : Nat} {s : pu_S} (h : pu_G a b c n s) (hi : i < a) (hj : j < b) (ha : a ≤ 4) (hb : b ≤ 4) : pu_G a b c n (pu_h T n c i j s) := by
  unfold pu_h
  split
  · exact ⟨h.1, h.2.1, by dsimp only; omega⟩
  · rename_i v e
    split
    · rename_i o
      exact ⟨pu_dig_lt e, pu_I_set h.2.1 hi hj ha hb o, by dsimp only; omega⟩
    · exact ⟨h.1, h.2.1, Nat.le_refl 2⟩
theorem pu_h_told {T : Nat → Nat} {n c i j : Nat} {s : pu_S} (h : (pu_h T n c i j s).2.2 = 0) : ((pu_h T n c i j s).2.1 (4 * i + j)).isSome = true ∧ ∀ t, (s.2.1 t).isSome = true → ((pu_h T n c i j s).2.1 t).isSome = true := by
  unfold pu_h at h ⊢
  split
  · rename_i e; rw [e] at h; cases h
  · rename_i v e
    rw [e] at h
    dsimp only at h
    split
    · dsimp only
      unfold pu_set
      refine ⟨by rw [if_pos rfl]; rfl, fun t ht => ?_⟩
      split
      · rfl
      · exact ht
    · rename_i o; rw [if_neg o] at h; cases h
theorem pu_seq_G {T : Nat → Nat} {a b c n : Nat} {cell : Nat → Option (Nat × Nat)} {s0 : pu_S} (h : pu_G a b c n s0) (ha : a ≤ 4) (hb : b ≤ 4) {K : Nat} (hc : ∀ k i j, k < K → cell k = some (i, j) → i < a ∧ j < b) : ∀ k, k ≤ K → pu_G a b c n (pu_seq T n c cell s0 k)
  | 0, _ => h
  | k + 1, hk => by
    have ih := pu_seq_G (T := T) h ha hb hc k (by omega)
    rw [pu_seq]
    split
    · split
      · exact ih
      · rename_i x e
        have := hc k x.1 x.2 (by omega) e
        exact pu_h_G ih this.1 this.2 ha hb
    · exact ih
theorem pu_seq_told {T : Nat → Nat} {n c : Nat} {cell : Nat → Option (Nat × Nat)} {s0 : pu_S} : ∀ k, (pu_seq T n c cell s0 k).2.2 = 0 → ∀ m i j, m < k → cell m = some (i, j) → ((pu_seq T n c cell s0 k).2.1 (4 * i + j)).isSome = true
  | 0, _, m, _, _, hm, _ => absurd hm (by omega)
  | k + 1, h, m, i, j, hm, e => by
    have h0 : (pu_seq T n c cell s0 k).2.2 = 0 := by
      by_cases q : (pu_seq T n c cell s0 k).2.2 = 0
      · exact q
      · rw [pu_seq_b q 1] at h; exact h
    have ih := pu_seq_told (T := T) (n := n) (c := c) (cell := cell) (s0 := s0) k h0
    cases ek : cell k with
    | none =>
      rw [pu_seq_n ek] at h ⊢
      by_cases q : m = k
      · subst q; rw [ek] at e; cases e
      · exact ih m i j (by omega) e
    | some x =>
      rw [pu_seq_s h0 (i := x.1) (j := x.2) ek] at h ⊢
      obtain ⟨t1, t2⟩ := pu_h_told h
      by_cases q : m = k
      · subst q; rw [ek] at e; cases e; exact t1
      · exact t2 _ (ih m i j (by omega) e)
/-- the cells by rows, and by diagonals -/
def pu_cR (b k : Nat) : Option (Nat × Nat) := some (k / b, k % b)
def pu_cD (a b k : Nat) : Option (Nat × Nat) := if a ≤ k % a + k / a + 1 ∧ k % a + k / a + 1 - a < b then some (k % a, k % a + k / a + 1 - a) else none
theorem pu_cD_at {a b d i : Nat} (hi : i < a) : pu_cD a b (a * d + i) = if a ≤ i + d + 1 ∧ i + d + 1 - a < b then some (i, i + d + 1 - a) else none := by
  have e1 : (a * d + i) / a = d := by rw [Nat.mul_add_div (by omega), Nat.div_eq_of_lt hi, Nat.add_zero]
  have e2 : (a * d + i) % a = i := by rw [Nat.mul_add_mod, Nat.mod_eq_of_lt hi]
  unfold pu_cD
  rw [e1, e2]
/-- a word: steps right (e) and down (n) -/
def pu_let (o : Option Nat) : Bool := decide (o = some 101 ∨ o = some 110)
def pu_w (T : Nat → Nat) (n b c i : Nat) : Nat → Nat → (Nat → Option Nat) → Nat → Nat → pu_S
  | 0, p, τ, _, _ => if pu_let (pu_sg T n p) then (p, τ, 2) else (p, τ, 0)
  | m + 1, p, τ, j, d => if pu_sg T n p = some 101 then (if b ≤ j then (p, τ, 2) else if pu_ok τ c i j (c - d) then pu_w T n b c i m (p + 1) (pu_set τ (4 * i + j) (c - d)) (j + 1) d else (p, τ, 2)) else if pu_sg T n p = some 110 then (if d < c then pu_w T n b c i m (p + 1) τ j (d + 1) else (p, τ, 2)) else (p, τ, 1)
def pu_wq (T : Nat → Nat) (n b c : Nat) (s0 : pu_S) : Nat → pu_S
  | 0 => s0
  | i + 1 => if (pu_wq T n b c s0 i).2.2 = 0 then (if i = 0 then pu_w T n b c i (b + c) (pu_wq T n b c s0 i).1 (pu_wq T n b c s0 i).2.1 0 0 else if pu_sg T n (pu_wq T n b c s0 i).1 = some 44 then pu_w T n b c i (b + c) ((pu_wq T n b c s0 i).1 + 1) (pu_wq T n b c s0 i).2.1 0 0 else ((pu_wq T n b c s0 i).1, (pu_wq T n b c s0 i).2.1, 1)) else pu_wq T n b c s0 i
theorem pu_wq_b {T : Nat → Nat} {n b c k : Nat} {s0 : pu_S} (h : (pu_wq T n b c s0 k).2.2 ≠ 0) : ∀ m, pu_wq T n b c s0 (k + m) = pu_wq T n b c s0 k
  | 0 => rfl
  | m + 1 => by rw [← Nat.add_assoc, pu_wq, pu_wq_b h m, if_neg h]
/-- in the midst of a word of row i, at column j -/
def pu_WI (b c i j d : Nat) (τ : Nat → Option Nat) : Prop := (∀ j', j' < j → ∃ v, τ (4 * i + j') = some v ∧ c - d ≤ v) ∧ (∀ j', j ≤ j' → j' < 4 → i < 4 → τ (4 * i + j') = none) ∧ (∀ i' j', i' < i → j' < b → (τ (4 * i' + j')).isSome = true) ∧ ∀ i' j', i < i' → i' < 4 → j' < 4 → τ (4 * i' + j') = none
theorem pu_WI_e {b c i j d : Nat} {τ : Nat → Option Nat} (h : pu_WI b c i j d τ) (hj : j < 4) : pu_WI b c i (j + 1) d (pu_set τ (4 * i + j) (c - d)) := by
  obtain ⟨h1, h2, h3, h4⟩ := h
  refine ⟨fun j' hj' => ?_, fun j' q1 q2 q3 => ?_, fun i' j' q1 q2 => ?_, fun i' j' q1 q2 q3 => ?_⟩
  · unfold pu_set
    by_cases e : j' = j
    · subst e; exact ⟨_, if_pos rfl, Nat.le_refl _⟩
    · rw [if_neg (by omega)]; exact h1 j' (by omega)
  · unfold pu_set; rw [if_neg (by omega)]; exact h2 j' (by omega) q2 q3
  · unfold pu_set
    split
    · rfl
    · exact h3 i' j' q1 q2
  · unfold pu_set; rw [if_neg (by omega)]; exact h4 i' j' q1 q2 q3
theorem pu_WI_n {b c i j d : Nat} {τ : Nat → Option Nat} (h : pu_WI b c i j d τ) : pu_WI b c i j (d + 1) τ :=
  ⟨fun j' hj' => by obtain ⟨v, v1, v2⟩ := h.1 j' hj'; exact ⟨v, v1, by omega⟩, h.2⟩
theorem pu_WI_next {b c i d : Nat} {τ : Nat → Option Nat} (h : pu_WI b c i b d τ) : pu_WI b c (i + 1) 0 0 τ := by
  obtain ⟨h1, h2, h3, h4⟩ := h
  refine ⟨fun j' hj' => absurd hj' (by omega), fun j' q1 q2 q3 => h4 (i + 1) j' (by omega) q3 q2, fun i' j' q1 q2 => ?_, fun i' j' q1 q2 q3 => h4 i' j' (by omega) q2 q3⟩
  · by_cases e : i' = i
    · subst e; obtain ⟨v, v1, _⟩ := h1 j' q2; rw [v1]; rfl
    · exact h3 i' j' (by omega) q2
/-- a word that is read whole tells its row -/
theorem pu_w_G {T : Nat → Nat} {a b c n i : Nat} (hi : i < a) (ha : a ≤ 4) (hb : b ≤ 4) : ∀ (m p : Nat) (τ : Nat → Option Nat) (j d : Nat), p ≤ n → pu_I a b c τ → j ≤ b → d ≤ c → j + d + m = b + c → pu_WI b c i j d τ → pu_G a b c n (pu_w T n b c i m p τ j d) ∧ ((pu_w T n b c i m p τ j d).2.2 = 0 → pu_WI b c i b c (pu_w T n b c i m p τ j d).2.1)
  | 0, p, τ, j, d, hp, hI, hj, hd, hm, hW => by
    have e1 : j = b := by omega
    have e2 : d = c := by omega
    subst e1 e2
    rw [pu_w]
    split
    · exact ⟨⟨hp, hI, Nat.le_refl 2⟩, fun e => by cases e⟩
    · exact ⟨⟨hp, hI, by dsimp only; omega⟩, fun _ => hW⟩
  | m + 1, p, τ, j, d, hp, hI, hj, hd, hm, hW => by
    rw [pu_w]
    split
    · rename_i e
      have lt := pu_sg_lt e
      split
      · exact ⟨⟨hp, hI, Nat.le_refl 2⟩, fun e => by cases e⟩
      · split
        · rename_i o
          exact pu_w_G hi ha hb m (p + 1) _ (j + 1) d (by omega) (pu_I_set hI hi (by omega) ha hb o) (by omega) hd (by omega) (pu_WI_e hW (by omega))
        · exact ⟨⟨hp, hI, Nat.le_refl 2⟩, fun e => by cases e⟩
    · split
      · rename_i e
        have lt := pu_sg_lt e
        split
        · exact pu_w_G hi ha hb m (p + 1) τ j (d + 1) (by omega) hI hj (by omega) (by omega) (pu_WI_n hW)
        · exact ⟨⟨hp, hI, Nat.le_refl 2⟩, fun e => by cases e⟩
      · exact ⟨⟨hp, hI, by dsimp only; omega⟩, fun e => by cases e⟩
/-- all the words -/
theorem pu_wq_G {T : Nat → Nat} {a b c n : Nat} {s0 : pu_S} (h : pu_G a b c n s0) (ha : a ≤ 4) (hb : b ≤ 4) (h0 : s0.2.2 = 0) (hn : ∀ t, t < 16 → s0.2.1 t = none) : ∀ i, i ≤ a → pu_G a b c n (pu_wq T n b c s0 i) ∧ ((pu_wq T n b c s0 i).2.2 = 0 → pu_WI b c i 0 0 (pu_wq T n b c s0 i).2.1)
  | 0, _ => ⟨h, fun _ => ⟨fun j' hj' => absurd hj' (by omega), fun j' _ q2 _ => hn _ (by omega), fun i' _ q1 => absurd q1 (by omega), fun i' j' _ q2 q3 => hn _ (by omega)⟩⟩
  | i + 1, hi => by
    obtain ⟨g1, g2⟩ := pu_wq_G (T := T) h ha hb h0 hn i (by omega)
    rw [pu_wq]
    split
    · rename_i q0
      have W := g2 q0
      split
      · obtain ⟨w1, w2⟩ := pu_w_G (T := T) (n := n) (show i < a by omega) ha hb (b + c) (pu_wq T n b c s0 i).1 (pu_wq T n b c s0 i).2.1 0 0 g1.1 g1.2.1 (by omega) (by omega) (by omega) W
        exact ⟨w1, fun e => pu_WI_next (w2 e)⟩
      · split
        · rename_i q1
          have lt := pu_sg_lt q1
          obtain ⟨w1, w2⟩ := pu_w_G (T := T) (n := n) (show i < a by omega) ha hb (b + c) ((pu_wq T n b c s0 i).1 + 1) (pu_wq T n b c s0 i).2.1 0 0 (by omega) g1.2.1 (by omega) (by omega) (by omega) W
          exact ⟨w1, fun e => pu_WI_next (w2 e)⟩
        · exact ⟨⟨g1.1, g1.2.1, by dsimp only; omega⟩, fun e => by cases e⟩
    · rename_i q0
      exact ⟨g1, fun e => absurd e q0⟩
def pu_v (τ : Nat → Option Nat) (t : Nat) : Nat := (τ t).getD 0
/-- all told: a heap -/
theorem pu_hv {a b c : Nat} {τ : Nat → Option Nat} (ha : 1 ≤ a ∧ a ≤ 4) (hb : 1 ≤ b ∧ b ≤ 4) (hc : 1 ≤ c ∧ c ≤ 4) (hm : a * b * c ≤ 48) (hI : pu_I a b c τ) (ht : ∀ i j, i < a → j < b → (τ (4 * i + j)).isSome = true) : pq_hv a b c (pu_v τ) := by
  refine ⟨ha, hb, hc, hm, fun i j hi hj => ?_⟩
  have up : ∀ t w, τ t = some w → pu_v τ t = w := fun t w e => by unfold pu_v; rw [e]; rfl
  have un : ∀ t, τ t = none → pu_v τ t = 0 := fun t e => by unfold pu_v; rw [e]; rfl
  refine ⟨?_, fun n => ?_, fun n => ?_, fun n => ?_⟩
  · cases e : τ (4 * i + j) with
    | none => rw [un _ e]; omega
    | some v => rw [up _ _ e]; exact (hI i j hi hj v e).2.2.1
  · cases e : τ (4 * i + j) with
    | none => exact un _ e
    | some v => exact absurd ⟨(hI i j hi hj v e).1, (hI i j hi hj v e).2.1⟩ n
  · cases e' : τ (4 * (i + 1) + j) with
    | none => rw [un _ e']; omega
    | some w =>
      have q := hI (i + 1) j n hj w e'
      have := ht i j (by omega) q.2.1
      cases e : τ (4 * i + j) with
      | none => rw [e] at this; cases this
      | some v => rw [up _ _ e, up _ _ e']; exact (hI i j hi hj v e).2.2.2.1 w n e'
  · cases e' : τ (4 * i + (j + 1)) with
    | none => rw [un _ e']; omega
    | some w =>
      have q := hI i (j + 1) hi n w e'
      have := ht i j q.1 (by omega)
      cases e : τ (4 * i + j) with
      | none => rw [e] at this; cases this
      | some v => rw [up _ _ e, up _ _ e']; exact (hI i j hi hj v e).2.2.2.2 w n e'
/-- the heights by the form's letter -/
def pu_hs (T : Nat → Nat) (n a b c : Nat) (s : pu_S) : pu_S := if pu_sg T n s.1 = some 100 then pu_seq T n c (pu_cD a b) (s.1 + 1, s.2.1, 0) (a * (a + b - 1)) else if pu_sg T n s.1 = some 112 then pu_wq T n b c (s.1 + 1, s.2.1, 0) a else if pu_sg T n s.1 = some 114 then pu_seq T n c (pu_cR b) (s.1 + 1, s.2.1, 0) (a * b) else (s.1, s.2.1, 1)
theorem pu_cR_in {a b k i j : Nat} (hb : 0 < b) (hk : k < a * b) (e : pu_cR b k = some (i, j)) : i < a ∧ j < b := by
  unfold pu_cR at e
  cases e
  exact ⟨Nat.div_lt_of_lt_mul (by rw [Nat.mul_comm]; exact hk), Nat.mod_lt _ hb⟩
theorem pu_cD_in {a b k i j : Nat} (ha : 0 < a) (e : pu_cD a b k = some (i, j)) : i < a ∧ j < b := by
  unfold pu_cD at e
  split at e
  · rename_i q
    cases e
    exact ⟨Nat.mod_lt _ ha, q.2⟩
  · cases e
theorem pu_hs_G {T : Nat → Nat} {a b c n : Nat} {s : pu_S} (h : pu_G a b c n s) (ha : 1 ≤ a ∧ a ≤ 4) (hb : 1 ≤ b ∧ b ≤ 4) (hn : ∀ t, t < 16 → s.2.1 t = none) : pu_G a b c n (pu_hs T n a b c s) ∧ ((pu_hs T n a b c s).2.2 = 0 → ∀ i j, i < a → j < b → ((pu_hs T n a b c s).2.1 (4 * i + j)).isSome = true) := by
  have g1 : ∀ {x}, pu_sg T n s.1 = some x → pu_G a b c n (s.1 + 1, s.2.1, 0) := fun e => ⟨pu_sg_lt e, h.2.1, by dsimp only; omega⟩
  unfold pu_hs
  split
  · rename_i e
    refine ⟨pu_seq_G (g1 e) ha.2 hb.2 (fun k i j _ q => pu_cD_in ha.1 q) _ (Nat.le_refl _), fun z i j hi hj => ?_⟩
    refine pu_seq_told _ z (a * (j + a - 1 - i) + i) i j ?_ ?_
    · have : a * (j + a - 1 - i) + a ≤ a * (a + b - 1) := by
        rw [← Nat.mul_succ]; exact Nat.mul_le_mul_left a (by omega)
      omega
    · rw [pu_cD_at hi, if_pos ⟨by omega, by omega⟩, show i + (j + a - 1 - i) + 1 - a = j by omega]
  · split
    · rename_i e
      obtain ⟨w1, w2⟩ := pu_wq_G (T := T) (g1 e) ha.2 hb.2 rfl hn a (Nat.le_refl a)
      exact ⟨w1, fun z i j hi hj => (w2 z).2.2.1 i j hi hj⟩
    · split
      · rename_i e
        refine ⟨pu_seq_G (g1 e) ha.2 hb.2 (fun k i j hk q => pu_cR_in hb.1 hk q) _ (Nat.le_refl _), fun z i j hi hj => ?_⟩
        refine pu_seq_told _ z (b * i + j) i j ?_ ?_
        · have : b * i + b ≤ a * b := by
            rw [← Nat.mul_succ, Nat.mul_comm a b]; exact Nat.mul_le_mul_left b (by omega)
          omega
        · unfold pu_cR
          rw [Nat.mul_add_div (by omega), Nat.div_eq_of_lt hj, Nat.add_zero, Nat.mul_add_mod, Nat.mod_eq_of_lt hj]
      · exact ⟨⟨h.1, h.2.1, by dsimp only; omega⟩, fun z => by cases z⟩
