/-! heights of the class's numbers -/
def pq_g (a b : Nat) (h : Nat → Nat) (i j : Nat) : Nat := if i < a ∧ j < b then h (4 * i + j) else 0
def pq_up (a b c : Nat) (h : Nat → Nat) (i j : Nat) : Nat := if i = 0 then c else pq_g a b h (i - 1) j
def pq_lf (a b c : Nat) (h : Nat → Nat) (i j : Nat) : Nat := if j = 0 then c else pq_g a b h i (j - 1)
theorem pq_g_in {a b : Nat} {h : Nat → Nat} {i j : Nat} (hi : i < a) (hj : j < b) : pq_g a b h i j = h (4 * i + j) := if_pos ⟨hi, hj⟩
theorem pq_g_le {a b c : Nat} {h : Nat → Nat} (H : pq_hv a b c h) {i j : Nat} : pq_g a b h i j ≤ 4 := by
  unfold pq_g
  split
  · have := H.1; have := H.2.1
    exact pq_hv_h H _ (by omega)
  · omega
theorem pq_level {a b c : Nat} {h : Nat → Nat} (H : pq_hv a b c h) {i j : Nat} (hi : i < 100) (hj : j < 100) : fx_level (nI a) (nI b) (nI c) (lN (pq_enc h 16)) (nI i) (nI j) = some (nI (pq_g a b h i j)) := by
  have ha := H.1; have hb := H.2.1
  unfold fx_level pq_g
  rw [if_neg (nI_pos (by omega)), if_pos (nI_pos' (by omega))]
  by_cases c1 : a ≤ i
  · rw [if_pos (nI_le c1 (by omega)), if_neg (by omega)]; rfl
  rw [if_neg (nI_ge (by omega) (by omega))]
  by_cases c2 : j < b
  · rw [if_pos (nI_lt c2 (by omega)), if_pos ⟨by omega, c2⟩]
    simp (disch := omega) only [kq_lit, pk_mul, pk_sub]
    rw [← kq_lit, pq_dig (pq_hv_h H) (t := 4 * i + j) (by omega) (by omega)]
  · rw [if_neg (nI_nlt (by omega) (by omega)), if_neg (by omega)]; rfl
theorem pq_levelU {a b c : Nat} {h : Nat → Nat} (H : pq_hv a b c h) {i j : Nat} (hi : i < 100) (hj : j < 100) : fx_level (nI a) (nI b) (nI c) (lN (pq_enc h 16)) (nI i - 1) (nI j) = some (nI (pq_up a b c h i j)) := by
  unfold pq_up
  by_cases c1 : i = 0
  · subst c1
    rw [if_pos rfl]
    unfold fx_level
    rw [if_pos (by decide)]; rfl
  · obtain ⟨i, rfl⟩ : ∃ k, i = k + 1 := ⟨i - 1, by omega⟩
    rw [if_neg c1, nI_pred, pq_level H (by omega) hj]; rfl
theorem pq_levelL {a b c : Nat} {h : Nat → Nat} (H : pq_hv a b c h) {i j : Nat} (hi : i < 100) (hj : j < 100) : fx_level (nI a) (nI b) (nI c) (lN (pq_enc h 16)) (nI i) (nI j - 1) = some (nI (pq_lf a b c h i j)) := by
  unfold pq_lf
  by_cases c1 : j = 0
  · subst c1
    rw [if_pos rfl]
    unfold fx_level
    rw [if_neg (nI_pos (by omega)), if_neg (by decide)]; rfl
  · obtain ⟨j, rfl⟩ : ∃ k, j = k + 1 := ⟨j - 1, by omega⟩
    rw [if_neg c1, nI_pred, pq_level H hi (by omega)]; rfl
theorem pq_up_le {a b c : Nat} {h : Nat → Nat} (H : pq_hv a b c h) {i j : Nat} : pq_up a b c h i j ≤ 4 := by
  unfold pq_up; have := H.2.2.1
  split
  · omega
  · exact pq_g_le H
theorem pq_lf_le {a b c : Nat} {h : Nat → Nat} (H : pq_hv a b c h) {i j : Nat} : pq_lf a b c h i j ≤ 4 := by
  unfold pq_lf; have := H.2.2.1
  split
  · omega
  · exact pq_g_le H
def pq_grow (a b c : Nat) (h : Nat → Nat) (i j : Nat) : Bool := decide (pq_g a b h i j < pq_up a b c h i j ∧ pq_g a b h i j < pq_lf a b c h i j)
def pq_shr (a b : Nat) (h : Nat → Nat) (i j : Nat) : Bool := decide (pq_g a b h (i + 1) j < pq_g a b h i j ∧ pq_g a b h i (j + 1) < pq_g a b h i j)
def pq_b (x : Bool) : Int32 := if x then 1 else 0
def pq_n (x : Bool) : Nat := if x then 1 else 0
theorem pq_b_n (x : Bool) : pq_b x = nI (pq_n x) := by cases x <;> rfl
theorem pq_grows {a b c : Nat} {h : Nat → Nat} (H : pq_hv a b c h) {i j : Nat} (hi : i < 50) (hj : j < 50) : fx_growsAt (nI a) (nI b) (nI c) (lN (pq_enc h 16)) (nI i) (nI j) = some (pq_b (pq_grow a b c h i j)) := by
  have h1 := pq_g_le H (i := i) (j := j); have h2 := pq_up_le H (i := i) (j := j); have h3 := pq_lf_le H (i := i) (j := j)
  unfold fx_growsAt
  rw [pq_level H (by omega) (by omega), Option.bind_some, pq_levelU H (by omega) (by omega), Option.bind_some]
  unfold pq_grow pq_b
  simp (disch := omega) only [nI_leI]
  by_cases c1 : pq_up a b c h i j ≤ pq_g a b h i j
  · rw [if_pos c1, if_neg (by simp; omega)]
  · rw [if_neg c1, pq_levelL H (by omega) (by omega), Option.bind_some]
    simp (disch := omega) only [nI_leI]
    by_cases c2 : pq_lf a b c h i j ≤ pq_g a b h i j
    · rw [if_pos c2, if_neg (by simp; omega)]
    · rw [if_neg c2, if_pos (by simp; omega)]
theorem pq_shrinks {a b c : Nat} {h : Nat → Nat} (H : pq_hv a b c h) {i j : Nat} (hi : i < 50) (hj : j < 50) : fx_shrinksAt (nI a) (nI b) (nI c) (lN (pq_enc h 16)) (nI i) (nI j) = some (pq_b (pq_shr a b h i j)) := by
  have h1 := pq_g_le H (i := i) (j := j); have h2 := pq_g_le H (i := i + 1) (j := j); have h3 := pq_g_le H (i := i) (j := j + 1)
  unfold fx_shrinksAt
  rw [pq_level H (by omega) (by omega), Option.bind_some, nI_1, pq_level H (by omega) (by omega), Option.bind_some]
  unfold pq_shr pq_b
  simp (disch := omega) only [nI_leI]
  by_cases c1 : pq_g a b h i j ≤ pq_g a b h (i + 1) j
  · rw [if_pos c1, if_neg (by simp; omega)]
  · rw [if_neg c1, nI_1, pq_level H (by omega) (by omega), Option.bind_some]
    simp (disch := omega) only [nI_leI]
    by_cases c2 : pq_g a b h i j ≤ pq_g a b h i (j + 1)
    · rw [if_pos c2, if_neg (by simp; omega)]
    · rw [if_neg c2, if_pos (by simp; omega)]
/-- which: true grows, false shrinks -/
def pq_chg (w : Bool) (a b c : Nat) (h : Nat → Nat) (i j : Nat) : Bool := if w then pq_grow a b c h i j else pq_shr a b h i j
theorem pq_b01 (x : Bool) : pq_b x = 0 ∨ pq_b x = 1 := by cases x <;> decide
theorem pq_b0 (x : Bool) : (pq_b x = 0) ↔ x = false := by cases x <;> decide
theorem pq_changes (w : Bool) {a b c : Nat} {h : Nat → Nat} (H : pq_hv a b c h) {i j : Nat} (hi : i < 50) (hj : j < 50) : fx_changesAt (nI a) (nI b) (nI c) (lN (pq_enc h 16)) (nI i) (nI j) (pq_b w) = some (pq_b (pq_chg w a b c h i j)) := by
  unfold fx_changesAt
  cases w
  · rw [if_pos (show pq_b false = 0 from rfl), pq_shrinks H hi hj, Option.bind_some, if_pos (pq_b01 _)]; rfl
  · rw [if_neg (by decide), pq_grows H hi hj, Option.bind_some, if_pos (pq_b01 _)]; rfl
theorem pq_changing (w : Bool) {a b c : Nat} {h : Nat → Nat} (H : pq_hv a b c h) : fx_changingCells (nI a) (nI b) (nI c) (lN (pq_enc h 16)) (pq_b w) = some (nI (pq_sum a fun i => pq_sum b fun j => pq_n (pq_chg w a b c h i j))) := by
  have ha := H.1; have hb := H.2.1
  have inner : ∀ (x i : Nat), i < a → lx_changingCells_18 (nI a) (nI b) (nI c) 5000 (lN (pq_enc h 16)) (pq_b w) (nI x) (nI i) 0 = some (lN (pq_enc h 16), pq_b w, nI (x + pq_sum b fun j => pq_n (pq_chg w a b c h i j)), nI i) := by
    intro x i hi
    unfold lx_changingCells_18
    refine kq_run (fun k => (lN (pq_enc h 16), pq_b w, nI (x + pq_sum k fun j => pq_n (pq_chg w a b c h i j)), nI i, nI k)) b (by omega) (fun k hk => ?_) ?_
    · dsimp only
      unfold fx_changingCells_18
      rw [if_neg (nI_ge hk (by omega)), pq_changes w H (by omega) (by omega), Option.bind_some]
      unfold fx_changingCells_43
      simp only [pq_b0, pq_sum, nI_1]
      cases pq_chg w a b c h i k <;> simp [pq_n, Nat.add_assoc]
    · dsimp only
      unfold fx_changingCells_18
      rw [if_pos (nI_le (Nat.le_refl b) (by omega))]
  unfold fx_changingCells lx_changingCells_6
  refine kq_runb (fun k => (lN (pq_enc h 16), pq_b w, nI (pq_sum k fun i => pq_sum b fun j => pq_n (pq_chg w a b c h i j)), nI k)) a _ rfl (by omega) (fun k hk => ?_) ?_ rfl
  · dsimp only
    unfold fx_changingCells_6
    rw [if_neg (nI_ge hk (by omega)), inner _ _ hk, Option.bind_some]
    simp only [nI_1, pq_sum]
  · dsimp only
    unfold fx_changingCells_6
    rw [if_pos (nI_le (Nat.le_refl a) (by omega))]
theorem pq_trace {a b c : Nat} {h : Nat → Nat} (H : pq_hv a b c h) : fx_trace (nI a) (nI b) (nI c) (lN (pq_enc h 16)) = some (nI (pq_sum 4 fun i => h (4 * i + i))) := by
  have ha := H.1; have hb := H.2.1
  have e : pq_sum 4 (fun i => h (4 * i + i)) = pq_sum (min a b) (fun i => h (4 * i + i)) := by
    have z : ∀ i, i < 4 → min a b ≤ i → h (4 * i + i) = 0 := fun i hi hm => (H.2.2.2.2 i i hi hi).2.1 (by omega)
    have z1 : min a b ≤ 1 → h 5 = 0 := z 1 (by omega)
    have z2 : min a b ≤ 2 → h 10 = 0 := z 2 (by omega)
    have z3 : min a b ≤ 3 → h 15 = 0 := z 3 (by omega)
    have : min a b = 1 ∨ min a b = 2 ∨ min a b = 3 ∨ min a b = 4 := by omega
    rcases this with q | q | q | q <;> rw [q] at z1 z2 z3 ⊢ <;> simp [pq_sum] at z1 z2 z3 ⊢ <;> omega
  rw [e]
  unfold fx_trace lx_trace_5
  refine kq_runb (fun k => (lN (pq_enc h 16), nI (pq_sum k fun i => h (4 * i + i)), nI k)) (min a b) _ rfl (by omega) (fun k hk => ?_) ?_ rfl
  · dsimp only
    unfold fx_trace_5
    rw [if_neg (nI_ge (by omega) (by omega)), if_neg (nI_ge (by omega) (by omega)), pq_level H (by omega) (by omega), Option.bind_some, pq_g_in (by omega) (by omega), nI_1, nI_add]
    rfl
  · dsimp only
    unfold fx_trace_5
    by_cases q : a ≤ b
    · rw [if_pos (nI_le (by omega) (by omega))]
    · rw [if_neg (nI_ge (by omega) (by omega)), if_pos (nI_le (by omega) (by omega))]
theorem pq_volume {h : Nat → Nat} (H : ∀ t, t < 16 → h t ≤ 4) : fx_volume (lN (pq_enc h 16)) = some (nI (pq_sum 16 h)) := by
  have e : pq_sum 16 h = pq_sum 16 fun k => h (15 - k) := by simp [pq_sum]; omega
  rw [e]
  unfold fx_volume lx_volume_4
  refine kq_runb (fun k => (lN (pq_enc h 16), nI (pq_sum k fun i => h (15 - i)), nI (4 * k))) 16 _ rfl (by omega) (fun k hk => ?_) ?_ rfl
  · dsimp only
    unfold fx_volume_4
    rw [if_neg (show ¬ (64 : Int32) ≤ nI (4 * k) from nI_ge (b := 64) (by omega) (by omega)), pq_dig H (t := 15 - k) (by omega) (by omega), nI_add, show nI (4 * k) + 4 = nI (4 * k + 4) from nI_add _ 4]
    rfl
  · rfl
