/-! READING A HEAP: the reference, rows, diagonals, words -/
theorem pu_m_rows {T : Nat → Nat} {n a b c : Nat} {zm0 z : km_S} {s : pu_S} (tm : pu_tm T n zm0) (ha : 1 ≤ a ∧ a ≤ 4) (hb : 1 ≤ b ∧ b ≤ 4) (hc : c ≤ 4) (R : pu_R n a b c zm0 s z) (G : pu_G a b c n s) : ∃ z', fm_readsRows z = some z' ∧ pu_R n a b c zm0 (pu_seq T n c (pu_cR b) s (a * b)) z' := by
  have GG := fun k (hk : k ≤ a * b) => pu_seq_G (T := T) (s0 := s) (cell := pu_cR b) G ha.2 hb.2 (K := a * b) (fun k i j hk q => pu_cR_in hb.1 hk q) k hk
  have ab : a * b ≤ 4 * 4 := Nat.mul_le_mul ha.2 hb.2
  unfold fm_readsRows lm_readsRows_2
  obtain ⟨r, r1, r2⟩ := kq_ite0 (step := fun (s : (Int32 × km_S)) => fm_readsRows_2 (s.1) (s.2)) (fun k s' => ∃ z', s' = (nI k, z') ∧ pu_R n a b c zm0 (pu_seq T n c (pu_cR b) s k) z')
    (fun r => pu_R n a b c zm0 (pu_seq T n c (pu_cR b) s (a * b)) r) (a * b) (by omega) (by
      rintro k s' hk ⟨z', rfl, g⟩
      obtain ⟨M, B, MT⟩ := id g
      have Gk := GG k (by omega)
      dsimp only
      unfold fm_readsRows_2
      rw [show km_rd z' 4 1 = some (nI a) from pu_rd4 (k := 1) B.2.1 (by decide), Option.bind_some, show km_rd z' 4 2 = some (nI b) from pu_rd4 (k := 2) B.2.2.1 (by decide), Option.bind_some, Option.bind_some, Option.bind_some, pk_mul, if_neg (nI_ge hk (by omega))]
      by_cases q : (pu_seq T n c (pu_cR b) s k).2.2 = 0
      · have h4 : z'.1 4 = 0 := by rw [M.2.2.2, q]; rfl
        obtain ⟨z2, t1, t2⟩ := pu_m_height (i := k / b) (j := k % b) tm hc g Gk q (by have := Nat.div_lt_of_lt_mul (show k < b * a by rw [Nat.mul_comm]; exact hk); omega) (by have := Nat.mod_lt k (show 0 < b by omega); omega)
        rw [← pu_seq_s q (show pu_cR b k = some (k / b, k % b) from rfl)] at t2
        rw [if_pos h4, if_neg (nI_ne0 (by omega) (by omega)), if_neg (nI_ne0 (by omega) (by omega)), pk_rem (by omega) (by omega) (by omega), pk_div (by omega) (by omega) (by omega), t1, Option.bind_some, nI_1]
        exact Or.inl ⟨_, rfl, z2, rfl, t2⟩
      · have h4 : ¬ z'.1 4 = 0 := by rw [M.2.2.2]; exact nI_ne0 (by omega) (by have := Gk.2.2; omega)
        rw [if_neg h4]
        have e := pu_seq_b q (a * b - k)
        rw [show k + (a * b - k) = a * b by omega] at e
        exact Or.inr ⟨_, rfl, by rw [e]; exact g⟩) (by
      rintro s' ⟨z', rfl, g⟩
      obtain ⟨M, B, MT⟩ := id g
      dsimp only
      unfold fm_readsRows_2
      rw [show km_rd z' 4 1 = some (nI a) from pu_rd4 (k := 1) B.2.1 (by decide), Option.bind_some, show km_rd z' 4 2 = some (nI b) from pu_rd4 (k := 2) B.2.2.1 (by decide), Option.bind_some, pk_mul, if_pos (nI_le (Nat.le_refl _) (by omega))]
      exact ⟨_, rfl, g⟩)
    (s := (0, z)) ⟨z, rfl, R⟩
  rw [r1]
  exact ⟨r, rfl, r2⟩
theorem pu_m_diag {T : Nat → Nat} {n a b c : Nat} {zm0 z : km_S} {s : pu_S} (tm : pu_tm T n zm0) (ha : 1 ≤ a ∧ a ≤ 4) (hb : 1 ≤ b ∧ b ≤ 4) (hc : c ≤ 4) (R : pu_R n a b c zm0 s z) (G : pu_G a b c n s) : ∃ z', fm_readsDiagonals z = some z' ∧ pu_R n a b c zm0 (pu_seq T n c (pu_cD a b) s (a * (a + b - 1))) z' := by
  have GG := fun k => pu_seq_G (T := T) (s0 := s) (cell := pu_cD a b) G ha.2 hb.2 (K := k) (fun k i j _ q => pu_cD_in ha.1 q) k (Nat.le_refl k)
  have row : ∀ (d : Nat) (z : km_S), d < a + b - 1 → pu_R n a b c zm0 (pu_seq T n c (pu_cD a b) s (a * d)) z → ∃ z', lm_readsDiagonals_21 5000 (pu_xd a d) 0 z = some (pu_xd a d, z') ∧ pu_R n a b c zm0 (pu_seq T n c (pu_cD a b) s (a * (d + 1))) z' := by
    intro d z hd Rz
    unfold lm_readsDiagonals_21
    obtain ⟨r, r1, z', rfl, r2⟩ := kq_it0 (step := fun (s : (Int32 × Int32 × km_S)) => fm_readsDiagonals_21 (s.1) (s.2.1) (s.2.2)) (fun i s' => ∃ z', s' = (pu_xd a d, nI i, z') ∧ pu_R n a b c zm0 (pu_seq T n c (pu_cD a b) s (a * d + i)) z')
      (fun r => ∃ z', r = (pu_xd a d, z') ∧ pu_R n a b c zm0 (pu_seq T n c (pu_cD a b) s (a * (d + 1))) z') a (by omega) (by
        rintro i s' hi ⟨z', rfl, g⟩
        obtain ⟨M, B, MT⟩ := id g
        have Gk := GG (a * d + i)
        obtain ⟨x1, x2, x3, x4, x5⟩ := pu_xd_at (i := i) ha hb (show d < 8 by omega) (by omega)
        dsimp only
        unfold fm_readsDiagonals_21 fm_readsDiagonals_64
        rw [show km_rd z' 4 1 = some (nI a) from pu_rd4 (k := 1) B.2.1 (by decide), Option.bind_some, if_neg (nI_ge hi (by omega)), show km_rd z' 4 2 = some (nI b) from pu_rd4 (k := 2) B.2.2.1 (by decide), Option.bind_some, x4, Option.bind_some]
        by_cases q0 : a ≤ i + d + 1 ∧ i + d + 1 - a < b
        · have cell : pu_cD a b (a * d + i) = some (i, i + d + 1 - a) := by rw [pu_cD_at hi, if_pos q0]
          rw [decide_eq_true q0, if_neg (show ¬ pq_b true = 0 by decide)]
          by_cases q : (pu_seq T n c (pu_cD a b) s (a * d + i)).2.2 = 0
          · have h4 : z'.1 4 = 0 := by rw [M.2.2.2, q]; rfl
            obtain ⟨z2, t1, t2⟩ := pu_m_height (i := i) (j := i + d + 1 - a) tm hc g Gk q (by omega) (by omega)
            rw [← pu_seq_s q cell] at t2
            rw [if_pos h4, x5 q0.1, t1, Option.bind_some, nI_1]
            exact ⟨_, rfl, z2, rfl, t2⟩
          · have h4 : ¬ z'.1 4 = 0 := by rw [M.2.2.2]; exact nI_ne0 (by omega) (by have := Gk.2.2; omega)
            rw [if_neg h4, nI_1]
            refine ⟨_, rfl, z', rfl, ?_⟩
            rw [← Nat.add_assoc, pu_seq_b q 1]; exact g
        · rw [decide_eq_false q0, if_pos (show pq_b false = 0 from rfl), nI_1]
          refine ⟨_, rfl, z', rfl, ?_⟩
          rw [← Nat.add_assoc, pu_seq_n (by rw [pu_cD_at hi, if_neg q0])]; exact g) (by
        rintro s' ⟨z', rfl, g⟩
        obtain ⟨M, B, MT⟩ := id g
        refine ⟨_, ?_, z', rfl, g⟩
        dsimp only
        unfold fm_readsDiagonals_21
        rw [show km_rd z' 4 1 = some (nI a) from pu_rd4 (k := 1) B.2.1 (by decide), Option.bind_some, if_pos (nI_le (Nat.le_refl _) (by omega))])
      (s := (pu_xd a d, 0, z)) ⟨z, rfl, Rz⟩
    exact ⟨z', r1, r2⟩
  unfold fm_readsDiagonals lm_readsDiagonals_9
  rw [show km_rd z 4 1 = some (nI a) from pu_rd4 (k := 1) R.2.1.2.1 (by decide), Option.bind_some, pu_xd_0]
  obtain ⟨r, r1, r2⟩ := kq_it0 (step := fun (s : (Int32 × km_S)) => fm_readsDiagonals_9 (s.1) (s.2)) (fun d s' => ∃ z', s' = (pu_xd a d, z') ∧ pu_R n a b c zm0 (pu_seq T n c (pu_cD a b) s (a * d)) z')
    (fun r => pu_R n a b c zm0 (pu_seq T n c (pu_cD a b) s (a * (a + b - 1))) r) (a + b - 1) (by omega) (by
      rintro d s' hd ⟨z', rfl, g⟩
      obtain ⟨M, B, MT⟩ := id g
      obtain ⟨x1, _⟩ := pu_xd_at (i := 0) ha hb (show d < 8 by omega) (by omega)
      obtain ⟨z2, t1, t2⟩ := row d z' hd g
      dsimp only
      unfold fm_readsDiagonals_9
      rw [show km_rd z' 4 2 = some (nI b) from pu_rd4 (k := 2) B.2.2.1 (by decide), Option.bind_some, if_neg (mt x1.mp (by omega)), t1, Option.bind_some]
      dsimp only
      rw [pu_xd_1]
      exact ⟨_, rfl, z2, rfl, t2⟩) (by
      rintro s' ⟨z', rfl, g⟩
      obtain ⟨M, B, MT⟩ := id g
      obtain ⟨x1, _⟩ := pu_xd_at (i := 0) ha hb (show a + b - 1 < 8 by omega) (by omega)
      refine ⟨_, ?_, g⟩
      dsimp only
      unfold fm_readsDiagonals_9
      rw [show km_rd z' 4 2 = some (nI b) from pu_rd4 (k := 2) B.2.2.1 (by decide), Option.bind_some, if_pos (x1.mpr (Nat.le_refl _))])
    (s := (pu_xd a 0, z)) ⟨z, rfl, R⟩
  rw [r1]
  exact ⟨r, rfl, r2⟩
/-- words: no note of what is told -/
def pu_Rw (n a b c : Nat) (zm0 : km_S) (s : pu_S) (zm : km_S) : Prop := pu_M n zm0 s zm ∧ pu_MB a b c s.2.1 zm
theorem pu_m_134 {a b c : Nat} {τ : Nat → Option Nat} {x y : Int32} {z : km_S} (B : pu_MB a b c τ z) (h4 : ¬ z.1 4 = 0) : fm_readsWord_134 x y z = some z := by
  unfold fm_readsWord_134 fm_readsWord_154
  rw [show km_rd z 4 2 = some (nI b) from pu_rd4 (k := 2) B.2.2.1 (by decide), Option.bind_some, show km_rd z 4 3 = some (nI c) from pu_rd4 (k := 3) B.2.2.2.1 (by decide), Option.bind_some, pu_m_fails1 h4, Option.bind_some, ite_self, ite_self]
theorem pu_ok_w {b c i j d : Nat} {τ : Nat → Option Nat} (W : pu_WI b c i j d τ) (hi : i < 4) (hj : j < 4) (hjb : j < b) : pu_ok τ c i j (c - d) = decide (i = 0 ∨ c - d ≤ pu_v τ (4 * (i - 1) + j)) := by
  obtain ⟨w1, w2, w3, w4⟩ := W
  unfold pu_ok
  apply decide_eq_decide.mpr
  have L : c - d ≤ (pu_lf τ i j).getD c := by
    unfold pu_lf
    split
    · exact Nat.sub_le c d
    · obtain ⟨v, v1, v2⟩ := w1 (j - 1) (by omega)
      rw [v1]; exact v2
  have D : (pu_dn τ i j).getD 0 = 0 := by
    unfold pu_dn
    split
    · rfl
    · rw [w4 (i + 1) j (by omega) (by omega) hj]; rfl
  have Rt : (pu_rt τ i j).getD 0 = 0 := by
    unfold pu_rt
    split
    · rfl
    · rw [w2 (j + 1) (by omega) (by omega) hi]; rfl
  have U : c - d ≤ (pu_up τ i j).getD c ↔ (i = 0 ∨ c - d ≤ pu_v τ (4 * (i - 1) + j)) := by
    unfold pu_up
    by_cases e : i = 0
    · rw [if_pos e]; exact ⟨fun _ => Or.inl e, fun _ => Nat.sub_le c d⟩
    · rw [if_neg e]
      have := w3 (i - 1) j (by omega) hjb
      cases q : τ (4 * (i - 1) + j) with
      | none => rw [q] at this; cases this
      | some u =>
        have : pu_v τ (4 * (i - 1) + j) = u := by unfold pu_v; rw [q]; rfl
        rw [this]
        exact ⟨fun h => Or.inr h, fun h => h.resolve_left e⟩
  rw [D, Rt, ← U]
  exact ⟨fun h => h.1, fun h => ⟨h, L, by omega, by omega⟩⟩
theorem pu_m_word_it {T : Nat → Nat} {n a b c i : Nat} {zm0 : km_S} (tm : pu_tm T n zm0) (hi : i < a) (ha : a ≤ 4) (hb : b ≤ 4) (hc : c ≤ 4) : ∀ (m fuel p : Nat) (τ : Nat → Option Nat) (j d : Nat) (z : km_S), m + 1 < fuel → pu_Rw n a b c zm0 (p, τ, 0) z → pu_I a b c τ → j ≤ b → d ≤ c → j + d + m = b + c → pu_WI b c i j d τ → ∃ z', (kj_it (fun (s : (Int32 × Int32 × Int32 × km_S)) => fm_readsWord_4 (s.1) (s.2.1) (s.2.2.1) (s.2.2.2)) fuel (nI i, nI j, nI d, z)).bind (fun r1 => fm_readsWord_134 (r1.1) (r1.2.1) (r1.2.2)) = some z' ∧ pu_Rw n a b c zm0 (pu_w T n b c i m p τ j d) z' := by
  intro m fuel p τ j d z hfu R hI hj hd hm W
  obtain ⟨f, rfl⟩ : ∃ g, fuel = g + 1 := ⟨fuel - 1, by omega⟩
  obtain ⟨M, B⟩ := id R
  have tm' := pu_tm_M tm M
  have h4 : z.1 4 = 0 := M.2.2.2
  have e1 := pu_s_eq (k := 101) (pu_tm_lo (p := p) tm') (by decide)
  have e2 := pu_s_eq (k := 110) (pu_tm_lo (p := p) tm') (by decide)
  have step : ∀ s', fm_readsWord_4 (nI i) (nI j) (nI d) z = some (.inl s') → kj_it (fun (s : (Int32 × Int32 × Int32 × km_S)) => fm_readsWord_4 (s.1) (s.2.1) (s.2.2.1) (s.2.2.2)) (f + 1) (nI i, nI j, nI d, z) = kj_it (fun (s : (Int32 × Int32 × Int32 × km_S)) => fm_readsWord_4 (s.1) (s.2.1) (s.2.2.1) (s.2.2.2)) f s' := fun s' e => by
    rw [kj_it]; dsimp only; rw [e]; rfl
  have stop : ∀ r, fm_readsWord_4 (nI i) (nI j) (nI d) z = some (.inr r) → kj_it (fun (s : (Int32 × Int32 × Int32 × km_S)) => fm_readsWord_4 (s.1) (s.2.1) (s.2.2.1) (s.2.2.2)) (f + 1) (nI i, nI j, nI d, z) = some r := fun r e => by
    rw [kj_it]; dsimp only; rw [e]; rfl
  have base : fm_readsWord_4 (nI i) (nI j) (nI d) z = if pu_s (pu_sg T n p) = (101 : Int32) then fm_readsWord_29 (nI i) (nI j) (nI d) z else if pu_s (pu_sg T n p) = (110 : Int32) then fm_readsWord_29 (nI i) (nI j) (nI d) z else some (.inr (nI j, nI d, z)) := by
    unfold fm_readsWord_4
    rw [if_pos h4, pu_m_here tm' M.2.2.1 M.2.1, Option.bind_some]
    dsimp only
    rw [pu_m_here tm' M.2.2.1 M.2.1, Option.bind_some]
  -- a fault: the loop ends
  have w2 : ¬ ((va_up z.1 4 (nI 2), z.2) : km_S).1 4 = 0 := by dsimp only; rw [va_up_self]; decide
  have fault : ∀ x y, fm_readsWord_4 (nI i) (nI j) (nI d) z = some (.inl (nI i, x, y, (va_up z.1 4 (nI 2), z.2))) → (kj_it (fun (s : (Int32 × Int32 × Int32 × km_S)) => fm_readsWord_4 (s.1) (s.2.1) (s.2.2.1) (s.2.2.2)) (f + 1) (nI i, nI j, nI d, z)).bind (fun r1 => fm_readsWord_134 (r1.1) (r1.2.1) (r1.2.2)) = some (va_up z.1 4 (nI 2), z.2) := fun x y e => by
    obtain ⟨g, rfl⟩ : ∃ g, f = g + 1 := ⟨f - 1, by omega⟩
    rw [step _ e, kj_it]
    dsimp only
    have : fm_readsWord_4 (nI i) x y (va_up z.1 4 (nI 2), z.2) = some (.inr (x, y, (va_up z.1 4 (nI 2), z.2))) := by
      unfold fm_readsWord_4; rw [if_neg w2]
    rw [this, Option.bind_some]
    dsimp only
    rw [Option.bind_some]
    exact pu_m_134 (z := (va_up z.1 4 (nI 2), z.2)) B w2
  have Rf : pu_Rw n a b c zm0 (p, τ, 2) (va_up z.1 4 (nI 2), z.2) := ⟨pu_M_fail (k := 2) M, B⟩
  have ft : fm_fails 2 z = some (va_up z.1 4 (nI 2), z.2) := pu_m_fails0 h4
  -- an n
  have onN : pu_sg T n p = some 110 → fm_readsWord_4 (nI i) (nI j) (nI d) z = if d < c then some (.inl (nI i, nI j, nI (d + 1), (va_up z.1 3 (nI (p + 1)), z.2))) else some (.inl (nI i, nI j, nI (d + 1), (va_up z.1 4 (nI 2), z.2))) := by
    intro q
    rw [base, if_pos (show pu_s (pu_sg T n p) = 110 from e2.mpr q), ite_self]
    unfold fm_readsWord_29 fm_readsWord_127
    rw [pu_m_here tm' M.2.2.1 M.2.1, Option.bind_some]
    dsimp only
    rw [if_pos (show pu_s (pu_sg T n p) = 110 from e2.mpr q), show km_rd z 4 3 = some (nI c) from pu_rd4 (k := 3) B.2.2.2.1 (by decide), Option.bind_some, nI_1, ft, Option.bind_some, pu_m_goes0 h4 M.2.2.1, pu_m_goes1 w2, Option.bind_some, Option.bind_some]
    by_cases c1 : d < c
    · rw [if_pos (nI_le (by omega) (by omega)), if_pos c1]
    · rw [if_neg (nI_ge (by omega) (by omega)), if_neg c1]
  -- an e
  have onE : pu_sg T n p = some 101 → (b ≤ j → fm_readsWord_4 (nI i) (nI j) (nI d) z = some (.inl (nI i, nI (j + 1), nI d, (va_up z.1 4 (nI 2), z.2)))) ∧ (j < b → fm_readsWord_4 (nI i) (nI j) (nI d) z = if pu_ok τ c i j (c - d) then some (.inl (nI i, nI (j + 1), nI d, (va_up z.1 3 (nI (p + 1)), va_up z.2.1 4 (upd (z.2.1 4) (4 + 4 * i + j) (nI (c - d))), z.2.2))) else some (.inl (nI i, nI (j + 1), nI d, (va_up z.1 4 (nI 2), z.2)))) := by
    intro q
    have n110 : ¬ pu_s (pu_sg T n p) = 110 := fun e => by have := e2.mp e; rw [q] at this; cases this
    have e29 : fm_readsWord_4 (nI i) (nI j) (nI d) z = fm_readsWord_29 (nI i) (nI j) (nI d) z := by rw [base, if_pos (show pu_s (pu_sg T n p) = 101 from e1.mpr q)]
    have e105 : fm_readsWord_105 (nI i) (nI (j + 1)) (nI d) z = some (.inl (nI i, nI (j + 1), nI d, (va_up z.1 4 (nI 2), z.2))) := by
      unfold fm_readsWord_105 fm_readsWord_127
      rw [ft, Option.bind_some, pu_m_goes1 w2]; rfl
    have e29' : fm_readsWord_29 (nI i) (nI j) (nI d) z = if nI b < nI (j + 1) then fm_readsWord_105 (nI i) (nI (j + 1)) (nI d) z else if nI i ≤ 0 then fm_readsWord_113 (nI i) (nI (j + 1)) (nI d) (nI (c - d)) z else (fm_at (nI i - 1) (nI j)).bind fun o6 => (km_rd z 4 o6).bind fun v7 => if nI (c - d) ≤ v7 then fm_readsWord_113 (nI i) (nI (j + 1)) (nI d) (nI (c - d)) z else fm_readsWord_105 (nI i) (nI (j + 1)) (nI d) z := by
      unfold fm_readsWord_29
      rw [pu_m_here tm' M.2.2.1 M.2.1, Option.bind_some]
      dsimp only
      rw [if_neg n110, show km_rd z 4 3 = some (nI c) from pu_rd4 (k := 3) B.2.2.2.1 (by decide), Option.bind_some, show km_rd z 4 2 = some (nI b) from pu_rd4 (k := 2) B.2.2.1 (by decide), Option.bind_some, nI_1, pk_sub hd, nI_pred]
    rw [e29, e29', e105]
    refine ⟨fun c1 => by rw [if_pos (nI_lt (by omega) (by omega))], fun c1 => ?_⟩
    have e113 : fm_readsWord_113 (nI i) (nI (j + 1)) (nI d) (nI (c - d)) z = some (.inl (nI i, nI (j + 1), nI d, (va_up z.1 3 (nI (p + 1)), va_up z.2.1 4 (upd (z.2.1 4) (4 + 4 * i + j) (nI (c - d))), z.2.2))) := by
      unfold fm_readsWord_113 fm_readsWord_127 fm_at
      rw [Option.bind_some, nI_pred, show (4 : Int32) * nI i = nI (4 * i) from pk_mul 4 i, show (4 : Int32) + nI (4 * i) = nI (4 + 4 * i) from nI_add 4 _, nI_add, kq_wr (show 4 + 4 * i + j < 20 by omega) kq_km, Option.bind_some, pu_m_goes0 (z := (z.1, va_up z.2.1 4 (upd (z.2.1 4) (4 + 4 * i + j) (nI (c - d))), z.2.2)) h4 M.2.2.1]; rfl
    rw [if_neg (nI_nlt (by omega) (by omega)), e113, pu_ok_w W (by omega) (by omega) c1]
    by_cases c2 : i = 0
    · rw [if_pos (show nI i ≤ 0 by rw [c2]; decide), if_pos (decide_eq_true (Or.inl c2))]
    · have pv : pu_v τ (4 * (i - 1) + j) ≤ 4 := by
        unfold pu_v
        cases q : τ (4 * (i - 1) + j) with
        | none => exact Nat.zero_le 4
        | some u => have := pu_I_9 hI (show 4 * (i - 1) + j < 16 by omega) q; exact Nat.le_trans this hc
      rw [if_neg (nI_nle (by omega) (by omega))]
      unfold fm_at
      rw [Option.bind_some, show nI i - 1 = nI (i - 1) from pk_sub (b := 1) (by omega), show (4 : Int32) * nI (i - 1) = nI (4 * (i - 1)) from pk_mul 4 _, show (4 : Int32) + nI (4 * (i - 1)) = nI (4 + 4 * (i - 1)) from nI_add 4 _, nI_add, Nat.add_assoc, pu_rd4 (B.2.2.2.2 (4 * (i - 1) + j) (by omega)) (by omega), Option.bind_some]
      dsimp only
      by_cases c3 : c - d ≤ pu_v τ (4 * (i - 1) + j)
      · rw [if_pos (nI_le c3 (by omega)), if_pos (decide_eq_true (Or.inr c3))]
      · rw [if_neg (nI_ge (by omega) (by omega)), if_neg (by rw [decide_eq_false (not_or.mpr ⟨c2, c3⟩)]; decide)]
  cases m with
  | zero =>
    have ej : j = b := by omega
    have ed : d = c := by omega
    subst ej ed
    rw [pu_w]
    by_cases q1 : pu_sg T n p = some 101
    · rw [if_pos (show pu_let (pu_sg T n p) = true from decide_eq_true (Or.inl q1)), fault _ _ ((onE q1).1 (Nat.le_refl _))]
      exact ⟨_, rfl, Rf⟩
    · by_cases q2 : pu_sg T n p = some 110
      · rw [if_pos (show pu_let (pu_sg T n p) = true from decide_eq_true (Or.inr q2)), fault _ _ ((onN q2).trans (if_neg (Nat.lt_irrefl d)))]
        exact ⟨_, rfl, Rf⟩
      · rw [if_neg (show ¬ pu_let (pu_sg T n p) = true by unfold pu_let; rw [decide_eq_false (not_or.mpr ⟨q1, q2⟩)]; decide)]
        rw [if_neg (show ¬ pu_s (pu_sg T n p) = 101 from mt e1.mp q1), if_neg (show ¬ pu_s (pu_sg T n p) = 110 from mt e2.mp q2)] at base
        rw [stop _ base, Option.bind_some]
        dsimp only
        unfold fm_readsWord_134
        rw [show km_rd z 4 2 = some (nI j) from pu_rd4 (k := 2) B.2.2.1 (by decide), Option.bind_some, if_neg (nI_nlt (Nat.le_refl _) (by omega)), show km_rd z 4 3 = some (nI d) from pu_rd4 (k := 3) B.2.2.2.1 (by decide), Option.bind_some, if_pos (nI_le (Nat.le_refl _) (by omega))]
        exact ⟨_, rfl, R⟩
  | succ m =>
    rw [pu_w]
    by_cases q1 : pu_sg T n p = some 101
    · have lt := pu_sg_lt q1
      rw [if_pos q1]
      by_cases q2 : b ≤ j
      · rw [if_pos q2, fault _ _ ((onE q1).1 q2)]
        exact ⟨_, rfl, Rf⟩
      · rw [if_neg q2]
        have st := (onE q1).2 (by omega)
        rcases (show pu_ok τ c i j (c - d) = false ∨ pu_ok τ c i j (c - d) = true by cases pu_ok τ c i j (c - d) <;> simp) with o | o
        · rw [if_neg (show ¬ pu_ok τ c i j (c - d) = true by rw [o]; decide)] at st ⊢
          rw [fault _ _ st]
          exact ⟨_, rfl, Rf⟩
        · rw [if_pos o] at st ⊢
          rw [step _ st]
          refine pu_m_word_it tm hi ha hb hc m f (p + 1) _ (j + 1) d _ (by omega) ⟨?_, ?_⟩ (pu_I_set hI hi (by omega) ha hb o) (by omega) hd (by omega) (pu_WI_e W (by omega))
          · exact pu_M_go (pu_M_arr (A := va_up z.2.1 4 (upd (z.2.1 4) (4 + 4 * i + j) (nI (c - d)))) M (fun k q1 _ => va_up_ne _ _ q1)) lt
          · obtain ⟨B0, B1, B2, B3, B4⟩ := B
            refine ⟨?_, ?_, ?_, ?_, fun t ht => ?_⟩
            · dsimp only; rw [va_up_self, pk_un (by omega)]; exact B0
            · dsimp only; rw [va_up_self, pk_un (by omega)]; exact B1
            · dsimp only; rw [va_up_self, pk_un (by omega)]; exact B2
            · dsimp only; rw [va_up_self, pk_un (by omega)]; exact B3
            · dsimp only
              rw [va_up_self]
              unfold pu_v pu_set
              by_cases q : t = 4 * i + j
              · rw [if_pos q, q, ← Nat.add_assoc, pk_us]; rfl
              · rw [if_neg q, pk_un (by omega)]; exact B4 t ht
    · rw [if_neg q1]
      by_cases q2 : pu_sg T n p = some 110
      · have lt := pu_sg_lt q2
        have st := onN q2
        rw [if_pos q2]
        by_cases q3 : d < c
        · rw [if_pos q3] at st ⊢
          rw [step _ st]
          exact pu_m_word_it tm hi ha hb hc m f (p + 1) τ j (d + 1) _ (by omega) ⟨pu_M_go M lt, B⟩ hI hj (by omega) (by omega) (pu_WI_n W)
        · rw [if_neg q3] at st ⊢
          rw [fault _ _ st]
          exact ⟨_, rfl, Rf⟩
      · rw [if_neg q2]
        rw [if_neg (show ¬ pu_s (pu_sg T n p) = 101 from mt e1.mp q1), if_neg (show ¬ pu_s (pu_sg T n p) = 110 from mt e2.mp q2)] at base
        rw [stop _ base, Option.bind_some]
        dsimp only
        unfold fm_readsWord_134 fm_readsWord_154
        rw [show km_rd z 4 2 = some (nI b) from pu_rd4 (k := 2) B.2.2.1 (by decide), Option.bind_some, show km_rd z 4 3 = some (nI c) from pu_rd4 (k := 3) B.2.2.2.1 (by decide), Option.bind_some, pu_m_fails0 h4, Option.bind_some]
        have R1 : pu_Rw n a b c zm0 (p, τ, 1) (va_up z.1 4 1, z.2) := ⟨pu_M_fail (k := 1) M, B⟩
        by_cases q3 : j < b
        · rw [if_pos (nI_lt q3 (by omega))]; exact ⟨_, rfl, R1⟩
        · rw [if_neg (nI_nlt (by omega) (by omega)), if_neg (nI_ge (by omega) (by omega))]; exact ⟨_, rfl, R1⟩
theorem pu_m_word {T : Nat → Nat} {n a b c i p : Nat} {τ : Nat → Option Nat} {zm0 z : km_S} (tm : pu_tm T n zm0) (hi : i < a) (ha : a ≤ 4) (hb : b ≤ 4) (hc : c ≤ 4) (R : pu_Rw n a b c zm0 (p, τ, 0) z) (hI : pu_I a b c τ) (W : pu_WI b c i 0 0 τ) : ∃ z', fm_readsWord (nI i) z = some z' ∧ pu_Rw n a b c zm0 (pu_w T n b c i (b + c) p τ 0 0) z' := by
  unfold fm_readsWord lm_readsWord_4
  exact pu_m_word_it tm hi ha hb hc (b + c) 5000 p τ 0 0 z (by omega) R hI (by omega) (by omega) (by omega) W
theorem pu_m_words {T : Nat → Nat} {n a b c : Nat} {zm0 z : km_S} {s : pu_S} (tm : pu_tm T n zm0) (ha : 1 ≤ a ∧ a ≤ 4) (hb : 1 ≤ b ∧ b ≤ 4) (hc : c ≤ 4) (R : pu_Rw n a b c zm0 s z) (G : pu_G a b c n s) (h0 : s.2.2 = 0) (hn : ∀ t, t < 16 → s.2.1 t = none) : ∃ z', fm_readsWords z = some z' ∧ pu_Rw n a b c zm0 (pu_wq T n b c s a) z' := by
  unfold fm_readsWords lm_readsWords_2
  obtain ⟨r, r1, r2⟩ := kq_ite0 (step := fun (s : (Int32 × km_S)) => fm_readsWords_2 (s.1) (s.2)) (fun i s' => ∃ z', s' = (nI i, z') ∧ pu_Rw n a b c zm0 (pu_wq T n b c s i) z')
    (fun r => pu_Rw n a b c zm0 (pu_wq T n b c s a) r) a (by omega) (by
      rintro i s' hi ⟨z', rfl, g⟩
      obtain ⟨M, B⟩ := id g
      have tm' := pu_tm_M tm M
      obtain ⟨Gi, Wi⟩ := pu_wq_G (T := T) G ha.2 hb.2 h0 hn i (by omega)
      dsimp only
      unfold fm_readsWords_2
      rw [show km_rd z' 4 1 = some (nI a) from pu_rd4 (k := 1) B.2.1 (by decide), Option.bind_some, if_neg (nI_ge hi (by omega))]
      by_cases q : (pu_wq T n b c s i).2.2 = 0
      · have h4 : z'.1 4 = 0 := by rw [M.2.2.2, q]; rfl
        have Mz : pu_M n zm0 ((pu_wq T n b c s i).1, (pu_wq T n b c s i).2.1, 0) z' := by rw [← q]; exact M
        refine Or.inl ?_
        have word : ∀ p z1, z1.1 4 = 0 → pu_Rw n a b c zm0 (p, (pu_wq T n b c s i).2.1, 0) z1 → pu_wq T n b c s (i + 1) = pu_w T n b c i (b + c) p (pu_wq T n b c s i).2.1 0 0 → ∃ s', fm_readsWords_29 (nI i) z1 = some (.inl s') ∧ ∃ z', s' = (nI (i + 1), z') ∧ pu_Rw n a b c zm0 (pu_wq T n b c s (i + 1)) z' := by
          intro p z1 w4 R1 e1
          obtain ⟨z2, w1, w2⟩ := pu_m_word (i := i) tm hi ha.2 hb.2 hc R1 Gi.2.1 (Wi q)
          rw [← e1] at w2
          unfold fm_readsWords_29 fm_readsWords_41
          rw [if_pos w4, w1, Option.bind_some, nI_1]
          exact ⟨_, rfl, z2, rfl, w2⟩
        rw [if_pos h4]
        by_cases c0 : i = 0
        · rw [if_pos (show nI i ≤ 0 by rw [c0]; decide)]
          exact word _ _ h4 ⟨Mz, B⟩ (by rw [pu_wq, if_pos q, if_pos c0])
        · rw [if_neg (nI_nle (by omega) (by omega))]
          obtain ⟨t1, t2⟩ := pu_m_takes0 (k := 44) tm' M q (by decide)
          by_cases c1 : pu_sg T n (pu_wq T n b c s i).1 = some 44
          · have lt := pu_sg_lt c1
            rw [show fm_takes 44 z' = _ from t1 c1, Option.bind_some]
            exact word _ _ (by dsimp only; rw [va_up_ne _ _ (by decide)]; exact h4) ⟨pu_M_go Mz lt, B⟩ (by rw [pu_wq, if_pos q, if_neg c0, if_pos c1])
          · have e : pu_wq T n b c s (i + 1) = ((pu_wq T n b c s i).1, (pu_wq T n b c s i).2.1, 1) := by rw [pu_wq, if_pos q, if_neg c0, if_neg c1]
            rw [show fm_takes 44 z' = _ from t2 c1, Option.bind_some]
            unfold fm_readsWords_29 fm_readsWords_41
            rw [if_neg (show ¬ ((va_up z'.1 4 (nI 1), z'.2) : km_S).1 4 = 0 by dsimp only; rw [va_up_self]; decide), nI_1]
            exact ⟨_, rfl, _, rfl, by rw [e]; exact ⟨pu_M_fail M, B⟩⟩
      · have h4 : ¬ z'.1 4 = 0 := by rw [M.2.2.2]; exact nI_ne0 (by omega) (by have := Gi.2.2; omega)
        rw [if_neg h4]
        have e := pu_wq_b q (a - i)
        rw [show i + (a - i) = a by omega] at e
        exact Or.inr ⟨_, rfl, by rw [e]; exact g⟩) (by
      rintro s' ⟨z', rfl, g⟩
      obtain ⟨M, B⟩ := id g
      refine ⟨_, ?_, g⟩
      dsimp only
      unfold fm_readsWords_2
      rw [show km_rd z' 4 1 = some (nI a) from pu_rd4 (k := 1) B.2.1 (by decide), Option.bind_some, if_pos (nI_le (Nat.le_refl a) (by omega))])
    (s := (0, z)) ⟨z, rfl, R⟩
  rw [r1]
  exact ⟨r, rfl, r2⟩
