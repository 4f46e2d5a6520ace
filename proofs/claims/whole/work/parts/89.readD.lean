/-! READING A HEAP: the class, diagonals and words -/
def pu_xd (a d : Nat) : Int32 := (1 : Int32) - nI a + nI d
def pu_xdc (a b d i : Nat) : Bool := decide ((nI b ≤ pu_xd a d ↔ a + b - 1 ≤ d) ∧ (if (0 : Int32) < (-(pu_xd a d)) then (-(pu_xd a d)) else 0) = nI (a - 1 - d) ∧ (nI b ≤ nI i + pu_xd a d ↔ a + b ≤ i + d + 1)) && decide (fm_in (nI i + pu_xd a d) 0 (nI b - 1) = some (pq_b (decide (a ≤ i + d + 1 ∧ i + d + 1 - a < b)))) && decide (i + d + 1 < a ∨ nI i + pu_xd a d = nI (i + d + 1 - a))
theorem pu_xd_all : (pq_all 4 fun a => pq_all 4 fun b => pq_all 8 fun d => pq_all 5 fun i => pu_xdc (a + 1) (b + 1) d i) = true := by decide +kernel
theorem pu_xd_at {a b d i : Nat} (ha : 1 ≤ a ∧ a ≤ 4) (hb : 1 ≤ b ∧ b ≤ 4) (hd : d < 8) (hi : i < 5) : (nI b ≤ pu_xd a d ↔ a + b - 1 ≤ d) ∧ (if (0 : Int32) < (-(pu_xd a d)) then (-(pu_xd a d)) else 0) = nI (a - 1 - d) ∧ (nI b ≤ nI i + pu_xd a d ↔ a + b ≤ i + d + 1) ∧ fm_in (nI i + pu_xd a d) 0 (nI b - 1) = some (pq_b (decide (a ≤ i + d + 1 ∧ i + d + 1 - a < b))) ∧ (a ≤ i + d + 1 → nI i + pu_xd a d = nI (i + d + 1 - a)) := by
  have q := pq_all_iff.mp (pq_all_iff.mp (pq_all_iff.mp (pq_all_iff.mp pu_xd_all (a - 1) (by omega)) (b - 1) (by omega)) d hd) i hi
  rw [show a - 1 + 1 = a by omega, show b - 1 + 1 = b by omega] at q
  unfold pu_xdc at q
  rw [Bool.and_eq_true, Bool.and_eq_true] at q
  obtain ⟨⟨q1, q2⟩, q3⟩ := q
  have q1 := of_decide_eq_true q1
  exact ⟨q1.1, q1.2.1, q1.2.2, of_decide_eq_true q2, fun h => (of_decide_eq_true q3).resolve_left (by omega)⟩
theorem pu_xd_1 (a d : Nat) : pu_xd a d + 1 = pu_xd a (d + 1) := by
  unfold pu_xd
  rw [Int32.add_assoc, nI_1]
theorem pu_xd_0 (a : Nat) : (1 : Int32) - nI a = pu_xd a 0 := (Int32.add_zero _).symm
/-- readDiagonals -/
theorem pu_c_diag {T : Nat → Nat} {n a b c : Nat} {zx0 zx : kx_S} {s : pu_S} (tp : pu_tp T n zx0) (h1 : zx0.1 1 = nI a) (h2 : zx0.1 2 = nI b) (h3 : zx0.1 3 = nI c) (ha : 1 ≤ a ∧ a ≤ 4) (hb : 1 ≤ b ∧ b ≤ 4) (hc : c ≤ 4) (C : pu_C n zx0 s zx) (G : pu_G a b c n s) (h0 : s.2.2 = 0) : ∃ zx', ft_readDiagonals zx = some (pq_b (decide ((pu_seq T n c (pu_cD a b) s (a * (a + b - 1))).2.2 = 0)), zx') ∧ pu_C n zx0 (pu_seq T n c (pu_cD a b) s (a * (a + b - 1))) zx' := by
  have GG := fun k => pu_seq_G (T := T) (s0 := s) (cell := pu_cD a b) G ha.2 hb.2 (K := k) (fun k i j _ q => pu_cD_in ha.1 q) k (Nat.le_refl k)
  have f1 : ∀ {S z}, pu_C n zx0 S z → z.1 1 = nI a := fun q => by rw [q.1 1 (by decide) (by decide)]; exact h1
  have f2 : ∀ {S z}, pu_C n zx0 S z → z.1 2 = nI b := fun q => by rw [q.1 2 (by decide) (by decide)]; exact h2
  have le : ∀ d, d < a + b - 1 → a * d + a ≤ a * (a + b - 1) := fun d hd => by rw [← Nat.mul_succ]; exact Nat.mul_le_mul_left a (by omega)
  generalize hK : a * (a + b - 1) = K at *
  -- one diagonal
  have row : ∀ (d : Nat) (z : kx_S), d < a + b - 1 → pu_C n zx0 (pu_seq T n c (pu_cD a b) s (a * d)) z → (pu_seq T n c (pu_cD a b) s (a * d)).2.2 = 0 → ∃ r, lt_readDiagonals_22 5000 (pu_xd a d) (nI (a - 1 - d)) z = some r ∧ ((∃ z', r = .inl z' ∧ pu_C n zx0 (pu_seq T n c (pu_cD a b) s K) z' ∧ (pu_seq T n c (pu_cD a b) s K).2.2 ≠ 0) ∨ ∃ z', r = .inr (pu_xd a d, z') ∧ pu_C n zx0 (pu_seq T n c (pu_cD a b) s (a * (d + 1))) z' ∧ (pu_seq T n c (pu_cD a b) s (a * (d + 1))).2.2 = 0) := by
    intro d z hd Cz hz
    have led := le d hd
    have skip0 : pu_seq T n c (pu_cD a b) s (a * d + (a - 1 - d)) = pu_seq T n c (pu_cD a b) s (a * d) := pu_seq_skip _ fun x hx => by
      rw [pu_cD_at (by omega), if_neg (by omega)]
    rw [← skip0] at Cz hz
    unfold lt_readDiagonals_22
    refine kq_ite0 (fun k s' => ∃ z', s' = (pu_xd a d, nI (a - 1 - d + k), z') ∧ pu_C n zx0 (pu_seq T n c (pu_cD a b) s (a * d + (a - 1 - d + k))) z' ∧ (pu_seq T n c (pu_cD a b) s (a * d + (a - 1 - d + k))).2.2 = 0) _ (a - (a - 1 - d)) (by omega) ?_ ?_ ⟨z, rfl, Cz, hz⟩
    · rintro k s' hk ⟨z', rfl, g1, g2⟩
      generalize hi : a - 1 - d + k = i at *
      have hia : i < a := by omega
      obtain ⟨x1, x2, x3, x4, x5⟩ := pu_xd_at (i := i) ha hb (show d < 8 by omega) (by omega)
      dsimp only
      unfold ft_readDiagonals_22
      rw [f1 g1, f2 g1, if_neg (nI_ge hia (by omega))]
      by_cases q0 : a + b ≤ i + d + 1
      · rw [if_pos (x3.mpr q0)]
        have e : pu_seq T n c (pu_cD a b) s (a * d + i + (a - i)) = pu_seq T n c (pu_cD a b) s (a * d + i) := pu_seq_skip _ fun x hx => by
          rw [Nat.add_assoc, pu_cD_at (by omega), if_neg (by omega)]
        rw [show a * d + i + (a - i) = a * (d + 1) by rw [Nat.mul_succ]; omega] at e
        exact Or.inr ⟨_, rfl, Or.inr ⟨z', rfl, by rw [e]; exact g1, by rw [e]; exact g2⟩⟩
      · rw [if_neg (mt x3.mp q0), x5 (by omega)]
        have cell : pu_cD a b (a * d + i) = some (i, i + d + 1 - a) := by rw [pu_cD_at hia, if_pos ⟨by omega, by omega⟩]
        obtain ⟨z2, r1, r2⟩ := pu_c_height (i := i) (j := i + d + 1 - a) tp h3 hc g1 (GG _) g2 (by omega) (by omega)
        rw [← pu_seq_s g2 cell] at r1 r2
        rw [r1, Option.bind_some, nI_1]
        dsimp only
        by_cases q : (pu_seq T n c (pu_cD a b) s (a * d + i + 1)).2.2 = 0
        · rw [decide_eq_true q, if_neg (show ¬ pq_b true = 0 by decide)]
          exact Or.inl ⟨_, rfl, z2, by rw [← hi]; rfl, by rw [show a - 1 - d + (k + 1) = i + 1 by omega]; exact r2, by rw [show a - 1 - d + (k + 1) = i + 1 by omega]; exact q⟩
        · rw [decide_eq_false q, if_pos (show pq_b false = 0 from rfl)]
          have e := pu_seq_b q (K - (a * d + i + 1))
          rw [show a * d + i + 1 + (K - (a * d + i + 1)) = K by omega] at e
          exact Or.inr ⟨_, rfl, Or.inl ⟨z2, rfl, by rw [e]; exact r2, by rw [e]; exact q⟩⟩
    · rintro s' ⟨z', rfl, g1, g2⟩
      rw [show a - 1 - d + (a - (a - 1 - d)) = a by omega] at g1 g2 ⊢
      refine ⟨_, ?_, Or.inr ⟨z', rfl, g1, g2⟩⟩
      dsimp only
      unfold ft_readDiagonals_22
      rw [f1 g1, if_pos (nI_le (Nat.le_refl a) (by omega))]
  unfold ft_readDiagonals lt_readDiagonals_7
  rw [f1 C, pu_xd_0]
  obtain ⟨r, r1, r2⟩ := kq_ite0 (step := fun (s : (Int32 × kx_S)) => ft_readDiagonals_7 (s.1) (s.2)) (fun d s' => ∃ z', s' = (pu_xd a d, z') ∧ pu_C n zx0 (pu_seq T n c (pu_cD a b) s (a * d)) z' ∧ (pu_seq T n c (pu_cD a b) s (a * d)).2.2 = 0)
    (fun r => (∃ z', r = .inl z' ∧ pu_C n zx0 (pu_seq T n c (pu_cD a b) s K) z' ∧ (pu_seq T n c (pu_cD a b) s K).2.2 ≠ 0) ∨ ∃ z', r = .inr z' ∧ pu_C n zx0 (pu_seq T n c (pu_cD a b) s K) z' ∧ (pu_seq T n c (pu_cD a b) s K).2.2 = 0) (a + b - 1) (by omega) (by
      rintro d s' hd ⟨z', rfl, g1, g2⟩
      obtain ⟨x1, x2, x3, x4, x5⟩ := pu_xd_at (i := 0) ha hb (show d < 8 by omega) (by omega)
      dsimp only
      unfold ft_readDiagonals_7 ft_readDiagonals_59
      obtain ⟨r, r1, r2⟩ := row d z' hd g1 g2
      rw [f2 g1, if_neg (mt x1.mp (by omega)), x2, r1, Option.bind_some]
      rcases r2 with ⟨z2, rfl, q1, q2⟩ | ⟨z2, rfl, q1, q2⟩
      · exact Or.inr ⟨_, rfl, Or.inl ⟨z2, rfl, q1, q2⟩⟩
      · refine Or.inl ⟨_, rfl, z2, ?_, q1, q2⟩
        dsimp only
        rw [pu_xd_1]) (by
      rintro s' ⟨z', rfl, g1, g2⟩
      obtain ⟨x1, _⟩ := pu_xd_at (i := 0) ha hb (show a + b - 1 < 8 by omega) (by omega)
      rw [hK] at g1 g2
      refine ⟨_, ?_, Or.inr ⟨z', rfl, g1, g2⟩⟩
      dsimp only
      unfold ft_readDiagonals_7
      rw [f2 g1, if_pos (x1.mpr (Nat.le_refl _))])
    (s := (pu_xd a 0, zx)) ⟨zx, rfl, C, h0⟩
  rw [r1, Option.bind_some]
  rcases r2 with ⟨z2, rfl, q1, q2⟩ | ⟨z2, rfl, q1, q2⟩
  · exact ⟨z2, by rw [decide_eq_false q2]; rfl, q1⟩
  · exact ⟨z2, by rw [decide_eq_true q2]; rfl, q1⟩
/-- readWord -/
def pu_wc (r1 : kx_S ⊕ (kx_S ⊕ (kx_S ⊕ kx_S))) : Option (Int32 × kx_S) := kj_se r1 (fun a2 => ft_readWord_55 (a2)) (fun b3 => kj_se b3 (fun a4 => (ft_failed (2 : Int32) (a4)).bind fun o6 =>
  if (o6.1) = 0 ∨ (o6.1) = 1 then some ((o6.1), (o6.2)) else none) (fun b5 => kj_se b5 (fun a7 => (ft_failed (1 : Int32) (a7)).bind fun o9 =>
  if (o9.1) = 0 ∨ (o9.1) = 1 then some ((o9.1), (o9.2)) else none) (fun b8 => (ft_isLetter (b8)).bind fun o10 =>
  if (o10.1) = 0 then
  some ((1 : Int32), (o10.2))
  else
  (ft_failed (2 : Int32) (o10.2)).bind fun o11 =>
  if (o11.1) = 0 then
  some ((0 : Int32), (o11.2))
  else
  some ((1 : Int32), (o11.2)))))
theorem pu_c_word_it {T : Nat → Nat} {n a b c i : Nat} {zx0 : kx_S} (tp : pu_tp T n zx0) (h2 : zx0.1 2 = nI b) (h3 : zx0.1 3 = nI c) (hi : i < a) (ha : a ≤ 4) (hb : b ≤ 4) (hc : c ≤ 4) : ∀ (m fuel p : Nat) (τ : Nat → Option Nat) (j d : Nat) (zx : kx_S), m < fuel → pu_C n zx0 (p, τ, 0) zx → pu_I a b c τ → j ≤ b → d ≤ c → j + d + m = b + c → ∃ zx', (kj_it (fun (s : (Int32 × Int32 × Int32 × Int32 × kx_S)) => ft_readWord_10 (s.1) (s.2.1) (s.2.2.1) (s.2.2.2.1) (s.2.2.2.2)) fuel (nI i, nI j, nI (c - d), nI (j + d), zx)).bind pu_wc = some (pq_b (decide ((pu_w T n b c i m p τ j d).2.2 = 0)), zx') ∧ pu_C n zx0 (pu_w T n b c i m p τ j d) zx'
  | 0, fuel, p, τ, j, d, zx, hfu, C, hI, hj, hd, hm => by
    obtain ⟨f, rfl⟩ : ∃ g, fuel = g + 1 := ⟨fuel - 1, by omega⟩
    have tp' := pu_tp_C tp C
    have f2 : zx.1 2 = nI b := by rw [C.1 2 (by decide) (by decide)]; exact h2
    have f3 : zx.1 3 = nI c := by rw [C.1 3 (by decide) (by decide)]; exact h3
    have stp : ft_readWord_10 (nI i) (nI j) (nI (c - d)) (nI (j + d)) zx = some (.inr (.inr (.inr (.inr zx)))) := by
      unfold ft_readWord_10
      rw [f2, f3, nI_add, if_pos (nI_le (by omega) (by omega))]
    rw [kj_it]
    dsimp only
    rw [stp, Option.bind_some]
    dsimp only
    rw [Option.bind_some]
    unfold pu_wc
    dsimp only [kj_se]
    rw [pu_c_letter tp' C.2.2.2.2.1 C.2.2.2.1, Option.bind_some, pu_w]
    dsimp only
    rcases (show pu_let (pu_sg T n p) = false ∨ pu_let (pu_sg T n p) = true by cases pu_let (pu_sg T n p) <;> simp) with q | q
    · rw [if_pos (show pq_b (pu_let (pu_sg T n p)) = 0 by rw [q]; rfl), if_neg (by rw [q]; decide)]
      exact ⟨_, rfl, C⟩
    · rw [if_neg (show ¬ pq_b (pu_let (pu_sg T n p)) = 0 by rw [q]; decide), if_pos q]
      exact ⟨_, rfl, pu_C_fail (k := 2) C⟩
  | m + 1, fuel, p, τ, j, d, zx, hfu, C, hI, hj, hd, hm => by
    obtain ⟨f, rfl⟩ : ∃ g, fuel = g + 1 := ⟨fuel - 1, by omega⟩
    have tp' := pu_tp_C tp C
    have f2 : zx.1 2 = nI b := by rw [C.1 2 (by decide) (by decide)]; exact h2
    have f3 : zx.1 3 = nI c := by rw [C.1 3 (by decide) (by decide)]; exact h3
    have e1 := pu_s_eq (k := 101) (pu_tp_lo (p := p) tp') (by decide)
    have e2 := pu_s_eq (k := 110) (pu_tp_lo (p := p) tp') (by decide)
    have c5 : zx.1 5 = nI p := C.2.2.2.2.1
    have step : ∀ s', ft_readWord_10 (nI i) (nI j) (nI (c - d)) (nI (j + d)) zx = some (.inl s') → kj_it (fun (s : (Int32 × Int32 × Int32 × Int32 × kx_S)) => ft_readWord_10 (s.1) (s.2.1) (s.2.2.1) (s.2.2.2.1) (s.2.2.2.2)) (f + 1) (nI i, nI j, nI (c - d), nI (j + d), zx) = kj_it (fun (s : (Int32 × Int32 × Int32 × Int32 × kx_S)) => ft_readWord_10 (s.1) (s.2.1) (s.2.2.1) (s.2.2.2.1) (s.2.2.2.2)) f s' := fun s' e => by
      rw [kj_it]; dsimp only; rw [e]; rfl
    have stop : ∀ r, ft_readWord_10 (nI i) (nI j) (nI (c - d)) (nI (j + d)) zx = some (.inr r) → kj_it (fun (s : (Int32 × Int32 × Int32 × Int32 × kx_S)) => ft_readWord_10 (s.1) (s.2.1) (s.2.2.1) (s.2.2.2.1) (s.2.2.2.2)) (f + 1) (nI i, nI j, nI (c - d), nI (j + d), zx) = some r := fun r e => by
      rw [kj_it]; dsimp only; rw [e]; rfl
    have base : ft_readWord_10 (nI i) (nI j) (nI (c - d)) (nI (j + d)) zx = if pu_s (pu_sg T n p) = (101 : Int32) then
        (if nI b ≤ nI j then some (.inr (.inl zx)) else (ft_tell (nI i) (nI j) (nI (c - d)) zx).bind fun o2 => if (o2.1) = 0 then some (.inr (.inl (o2.2))) else ft_readWord_96 (nI i) (nI j + 1) (nI (c - d)) (nI (j + d)) (o2.2))
        else if pu_s (pu_sg T n p) = (110 : Int32) then (if 0 < nI (c - d) then ft_readWord_96 (nI i) (nI j) (nI (c - d) + (-1)) (nI (j + d)) zx else some (.inr (.inr (.inl zx)))) else some (.inr (.inr (.inr (.inl zx)))) := by
      unfold ft_readWord_10
      rw [f2, f3, nI_add, if_neg (nI_ge (by omega) (by omega)), pu_c_sign tp' c5 C.2.2.2.1, Option.bind_some]
      dsimp only
      rw [f2]
    rw [pu_w]
    by_cases q1 : pu_sg T n p = some 101
    · have lt := pu_sg_lt q1
      rw [if_pos q1]
      rw [if_pos (show pu_s (pu_sg T n p) = 101 from e1.mpr q1)] at base
      by_cases q2 : b ≤ j
      · rw [if_pos (nI_le q2 (by omega))] at base
        rw [stop _ base, if_pos q2]
        exact ⟨_, rfl, pu_C_fail (k := 2) C⟩
      · rw [if_neg q2]
        rw [if_neg (nI_ge (by omega) (by omega)), pu_c_tell C.2.2.2.2.2.2 (fun t v ht e => by have := pu_I_9 hI ht e; omega) (by omega) (by omega) f3 hc (by omega)] at base
        dsimp only at base
        rcases (show pu_ok τ c i j (c - d) = false ∨ pu_ok τ c i j (c - d) = true by cases pu_ok τ c i j (c - d) <;> simp) with o | o
        · rw [if_neg (by rw [o]; decide), Option.bind_some] at base
          dsimp only at base
          rw [if_pos rfl] at base
          rw [stop _ base, if_neg (by rw [o]; decide)]
          exact ⟨_, rfl, pu_C_fail (k := 2) C⟩
        · rw [if_pos o, Option.bind_some] at base
          dsimp only at base
          rw [if_neg kq_10] at base
          unfold ft_readWord_96 at base
          dsimp only at base
          rw [c5, nI_1, nI_1, nI_1] at base
          rw [step _ base, if_pos o]
          have Cn := pu_C_go (pu_C_set (t := 4 * i + j) (v := c - d) C) lt
          have ih := pu_c_word_it tp h2 h3 hi ha hb hc m f (p + 1) (pu_set τ (4 * i + j) (c - d)) (j + 1) d _ (by omega) Cn (pu_I_set hI hi (by omega) ha hb o) (by omega) hd (by omega)
          rw [show j + 1 + d = j + d + 1 by omega] at ih
          exact ih
    · rw [if_neg q1]
      rw [if_neg (show ¬ pu_s (pu_sg T n p) = 101 from mt e1.mp q1)] at base
      by_cases q2 : pu_sg T n p = some 110
      · have lt := pu_sg_lt q2
        rw [if_pos q2]
        rw [if_pos (show pu_s (pu_sg T n p) = 110 from e2.mpr q2)] at base
        by_cases q3 : d < c
        · rw [if_pos q3]
          rw [if_pos (show (0 : Int32) < nI (c - d) from nI_lt (a := 0) (by omega) (by omega)), show nI (c - d) + (-1) = nI (c - (d + 1)) from (Int32.sub_eq_add_neg (nI (c - d)) 1).symm.trans ((pk_sub (a := c - d) (b := 1) (by omega)).trans (by rw [Nat.sub_sub]))] at base
          unfold ft_readWord_96 at base
          rw [c5, nI_1, nI_1] at base
          rw [step _ base]
          have Cn := pu_C_go C lt
          exact pu_c_word_it tp h2 h3 hi ha hb hc m f (p + 1) τ j (d + 1) _ (by omega) Cn hI hj (by omega) (by omega)
        · rw [if_neg q3]
          rw [if_neg (show ¬ (0 : Int32) < nI (c - d) from nI_nlt (b := c - d) (a := 0) (by omega) (by omega))] at base
          rw [stop _ base]
          exact ⟨_, rfl, pu_C_fail (k := 2) C⟩
      · rw [if_neg q2]
        rw [if_neg (show ¬ pu_s (pu_sg T n p) = 110 from mt e2.mp q2)] at base
        rw [stop _ base]
        exact ⟨_, rfl, pu_C_fail (k := 1) C⟩
