/-! READING A HEAP: the class, all of it -/
theorem pu_c_word {T : Nat → Nat} {n a b c i p : Nat} {τ : Nat → Option Nat} {zx0 zx : kx_S} (tp : pu_tp T n zx0) (h2 : zx0.1 2 = nI b) (h3 : zx0.1 3 = nI c) (hi : i < a) (ha : a ≤ 4) (hb : b ≤ 4) (hc : c ≤ 4) (C : pu_C n zx0 (p, τ, 0) zx) (hI : pu_I a b c τ) : ∃ zx', ft_readWord (nI i) zx = some (pq_b (decide ((pu_w T n b c i (b + c) p τ 0 0).2.2 = 0)), zx') ∧ pu_C n zx0 (pu_w T n b c i (b + c) p τ 0 0) zx' := by
  have f3 : zx.1 3 = nI c := by rw [C.1 3 (by decide) (by decide)]; exact h3
  unfold ft_readWord lt_readWord_10
  rw [f3]
  exact pu_c_word_it tp h2 h3 hi ha hb hc (b + c) 5000 p τ 0 0 zx (by omega) C hI (by omega) (by omega) (by omega)
/-- readWords -/
theorem pu_c_words {T : Nat → Nat} {n a b c : Nat} {zx0 zx : kx_S} {s : pu_S} (tp : pu_tp T n zx0) (h1 : zx0.1 1 = nI a) (h2 : zx0.1 2 = nI b) (h3 : zx0.1 3 = nI c) (ha : 1 ≤ a ∧ a ≤ 4) (hb : 1 ≤ b ∧ b ≤ 4) (hc : c ≤ 4) (C : pu_C n zx0 s zx) (G : pu_G a b c n s) (h0 : s.2.2 = 0) (hn : ∀ t, t < 16 → s.2.1 t = none) : ∃ zx', ft_readWords zx = some (pq_b (decide ((pu_wq T n b c s a).2.2 = 0)), zx') ∧ pu_C n zx0 (pu_wq T n b c s a) zx' := by
  have GG := fun i hi => (pu_wq_G (T := T) G ha.2 hb.2 h0 hn i hi).1
  have f1 : ∀ {S z}, pu_C n zx0 S z → z.1 1 = nI a := fun q => by rw [q.1 1 (by decide) (by decide)]; exact h1
  unfold ft_readWords lt_readWords_2
  obtain ⟨r, r1, r2⟩ := kq_ite0 (step := fun (s : (Int32 × kx_S)) => ft_readWords_2 (s.1) (s.2)) (fun i s' => ∃ z', s' = (nI i, z') ∧ pu_C n zx0 (pu_wq T n b c s i) z' ∧ (pu_wq T n b c s i).2.2 = 0)
    (fun r => (∃ z', (r = .inl z' ∨ r = .inr (.inl z')) ∧ pu_C n zx0 (pu_wq T n b c s a) z' ∧ (pu_wq T n b c s a).2.2 ≠ 0) ∨ ∃ z', r = .inr (.inr z') ∧ pu_C n zx0 (pu_wq T n b c s a) z' ∧ (pu_wq T n b c s a).2.2 = 0) a (by omega) (by
      rintro i s' hi ⟨z', rfl, g1, g2⟩
      have Gi := GG i (by omega)
      have Cz : pu_C n zx0 ((pu_wq T n b c s i).1, (pu_wq T n b c s i).2.1, 0) z' := by rw [← g2]; exact g1
      have tp' := pu_tp_C tp g1
      have bad : (pu_wq T n b c s (i + 1)).2.2 ≠ 0 → pu_wq T n b c s a = pu_wq T n b c s (i + 1) := fun q => by
        have e := pu_wq_b q (a - (i + 1))
        rw [show i + 1 + (a - (i + 1)) = a by omega] at e
        exact e
      -- the word itself
      have word : ∀ p z1, pu_C n zx0 (p, (pu_wq T n b c s i).2.1, 0) z1 → pu_wq T n b c s (i + 1) = pu_w T n b c i (b + c) p (pu_wq T n b c s i).2.1 0 0 → (∃ s', ft_readWords_25 (nI i) z1 = some (.inl s') ∧ ∃ z', s' = (nI (i + 1), z') ∧ pu_C n zx0 (pu_wq T n b c s (i + 1)) z' ∧ (pu_wq T n b c s (i + 1)).2.2 = 0) ∨ (∃ r, ft_readWords_25 (nI i) z1 = some (.inr r) ∧ ((∃ z', (r = .inl z' ∨ r = .inr (.inl z')) ∧ pu_C n zx0 (pu_wq T n b c s a) z' ∧ (pu_wq T n b c s a).2.2 ≠ 0) ∨ ∃ z', r = .inr (.inr z') ∧ pu_C n zx0 (pu_wq T n b c s a) z' ∧ (pu_wq T n b c s a).2.2 = 0)) := by
        intro p z1 C1 e1
        obtain ⟨z2, w1, w2⟩ := pu_c_word (i := i) tp h2 h3 hi ha.2 hb.2 hc C1 Gi.2.1
        rw [← e1] at w1 w2
        unfold ft_readWords_25
        rw [w1, Option.bind_some, nI_1]
        dsimp only
        by_cases q : (pu_wq T n b c s (i + 1)).2.2 = 0
        · rw [decide_eq_true q, if_neg (show ¬ pq_b true = 0 by decide)]
          exact Or.inl ⟨_, rfl, z2, rfl, w2, q⟩
        · rw [decide_eq_false q, if_pos (show pq_b false = 0 from rfl)]
          exact Or.inr ⟨_, rfl, Or.inl ⟨z2, Or.inr rfl, by rw [bad q]; exact w2, by rw [bad q]; exact q⟩⟩
      dsimp only
      unfold ft_readWords_2
      rw [f1 g1, if_neg (nI_ge hi (by omega))]
      by_cases c0 : i = 0
      · rw [if_pos (show nI i ≤ 0 by rw [c0]; decide)]
        exact word _ _ Cz (by rw [pu_wq, if_pos g2, if_pos c0])
      · rw [if_neg (nI_nle (by omega) (by omega))]
        obtain ⟨r1, r2⟩ := pu_c_readSign (k := 44) tp' g1 (by decide)
        by_cases c1 : pu_sg T n (pu_wq T n b c s i).1 = some 44
        · have lt := pu_sg_lt c1
          rw [show ft_readSign 44 z' = _ from r1 c1, Option.bind_some]
          dsimp only
          rw [if_neg kq_10]
          exact word _ _ (pu_C_go Cz lt) (by rw [pu_wq, if_pos g2, if_neg c0, if_pos c1])
        · have e : pu_wq T n b c s (i + 1) = ((pu_wq T n b c s i).1, (pu_wq T n b c s i).2.1, 1) := by rw [pu_wq, if_pos g2, if_neg c0, if_neg c1]
          have q : (pu_wq T n b c s (i + 1)).2.2 ≠ 0 := by rw [e]; exact Nat.one_ne_zero
          rw [show ft_readSign 44 z' = _ from r2 c1, Option.bind_some]
          dsimp only
          rw [if_pos rfl]
          exact Or.inr ⟨_, rfl, Or.inl ⟨_, Or.inl rfl, by rw [bad q, e]; exact pu_C_fail (k := 1) g1, by rw [bad q]; exact q⟩⟩) (by
      rintro s' ⟨z', rfl, g1, g2⟩
      refine ⟨_, ?_, Or.inr ⟨z', rfl, g1, g2⟩⟩
      dsimp only
      unfold ft_readWords_2
      rw [f1 g1, if_pos (nI_le (Nat.le_refl a) (by omega))])
    (s := (0, zx)) ⟨zx, rfl, C, h0⟩
  rw [r1, Option.bind_some]
  rcases r2 with ⟨z2, rfl | rfl, q1, q2⟩ | ⟨z2, rfl, q1, q2⟩
  · exact ⟨z2, by rw [decide_eq_false q2]; rfl, q1⟩
  · exact ⟨z2, by rw [decide_eq_false q2]; rfl, q1⟩
  · exact ⟨z2, by rw [decide_eq_true q2]; rfl, q1⟩
theorem pu_b01 (x : Bool) (z : kx_S) : (if pq_b x = 0 ∨ pq_b x = 1 then some (pq_b x, z) else none) = some (pq_b x, z) := if_pos (pq_b01 x)
/-- readHeights -/
theorem pu_c_heights {T : Nat → Nat} {n a b c : Nat} {zx0 zx : kx_S} {s : pu_S} (tp : pu_tp T n zx0) (h1 : zx0.1 1 = nI a) (h2 : zx0.1 2 = nI b) (h3 : zx0.1 3 = nI c) (ha : 1 ≤ a ∧ a ≤ 4) (hb : 1 ≤ b ∧ b ≤ 4) (hc : c ≤ 4) (C : pu_C n zx0 s zx) (G : pu_G a b c n s) (h0 : s.2.2 = 0) (hn : ∀ t, t < 16 → s.2.1 t = none) : ∃ zx', ft_readHeights zx = some (pq_b (decide ((pu_hs T n a b c s).2.2 = 0)), zx') ∧ pu_C n zx0 (pu_hs T n a b c s) zx' := by
  have tp' := pu_tp_C tp C
  have c5 := C.2.2.2.2.1
  have e1 := pu_s_eq (k := 100) (pu_tp_lo (p := s.1) tp') (by decide)
  have e2 := pu_s_eq (k := 112) (pu_tp_lo (p := s.1) tp') (by decide)
  have e3 := pu_s_eq (k := 114) (pu_tp_lo (p := s.1) tp') (by decide)
  have go : ∀ {x}, pu_sg T n s.1 = some x → pu_C n zx0 (s.1 + 1, s.2.1, 0) (va_up zx.1 5 (nI (s.1 + 1)), zx.2) ∧ pu_G a b c n (s.1 + 1, s.2.1, 0) := fun e => ⟨by rw [← h0]; exact pu_C_go C (pu_sg_lt e), pu_sg_lt e, G.2.1, by dsimp only; omega⟩
  unfold ft_readHeights pu_hs
  rw [pu_c_sign tp' c5 C.2.2.2.1, Option.bind_some]
  dsimp only
  rw [c5, nI_1]
  by_cases q1 : pu_sg T n s.1 = some 100
  · obtain ⟨g1, g2⟩ := go q1
    obtain ⟨z2, r1, r2⟩ := pu_c_diag tp h1 h2 h3 ha hb hc g1 g2 rfl
    rw [if_pos (show pu_s (pu_sg T n s.1) = 100 from e1.mpr q1), if_pos q1, show kx_pI zx 5 (nI (s.1 + 1)) = some (va_up zx.1 5 (nI (s.1 + 1)), zx.2) from rfl, Option.bind_some, r1, Option.bind_some]
    exact ⟨z2, pu_b01 _ _, r2⟩
  · rw [if_neg (show ¬ pu_s (pu_sg T n s.1) = 100 from mt e1.mp q1), if_neg q1]
    by_cases q2 : pu_sg T n s.1 = some 112
    · obtain ⟨g1, g2⟩ := go q2
      obtain ⟨z2, r1, r2⟩ := pu_c_words tp h1 h2 h3 ha hb hc g1 g2 rfl hn
      rw [if_pos (show pu_s (pu_sg T n s.1) = 112 from e2.mpr q2), if_pos q2, show kx_pI zx 5 (nI (s.1 + 1)) = some (va_up zx.1 5 (nI (s.1 + 1)), zx.2) from rfl, Option.bind_some, r1, Option.bind_some]
      exact ⟨z2, pu_b01 _ _, r2⟩
    · rw [if_neg (show ¬ pu_s (pu_sg T n s.1) = 112 from mt e2.mp q2), if_neg q2]
      by_cases q3 : pu_sg T n s.1 = some 114
      · obtain ⟨g1, g2⟩ := go q3
        obtain ⟨z2, r1, r2⟩ := pu_c_rows tp h1 h2 h3 ha hb hc g1 g2 rfl
        rw [if_pos (show pu_s (pu_sg T n s.1) = 114 from e3.mpr q3), if_pos q3, show kx_pI zx 5 (nI (s.1 + 1)) = some (va_up zx.1 5 (nI (s.1 + 1)), zx.2) from rfl, Option.bind_some, r1, Option.bind_some]
        exact ⟨z2, pu_b01 _ _, r2⟩
      · rw [if_neg (show ¬ pu_s (pu_sg T n s.1) = 114 from mt e3.mp q3), if_neg q3]
        exact ⟨_, rfl, pu_C_fail (k := 1) C⟩
/-- toldCubes -/
theorem pu_c_cubes {n a b c : Nat} {zx0 zx : kx_S} {s : pu_S} (h1 : zx0.1 1 = nI a) (h2 : zx0.1 2 = nI b) (hv : pq_hv a b c (pu_v s.2.1)) (C : pu_C n zx0 s zx) (hI : pu_I a b c s.2.1) : ft_toldCubes zx = some (lN (pq_enc (pu_v s.2.1) 16), zx) := by
  have ha := hv.1; have hb := hv.2.1; have hc := hv.2.2.1
  have f1 : zx.1 1 = nI a := by rw [C.1 1 (by decide) (by decide)]; exact h1
  have f2 : zx.1 2 = nI b := by rw [C.1 2 (by decide) (by decide)]; exact h2
  have inner : ∀ (x i : Nat), i < a → lt_toldCubes_15 5000 (lN x) (nI i) 0 zx = some (lN (x + pq_sum b fun j => 16 ^ (15 - (4 * i + j)) * pu_v s.2.1 (4 * i + j)), nI i, zx) := by
    intro x i hi
    unfold lt_toldCubes_15
    refine kq_run0 (fun k => (lN (x + pq_sum k fun j => 16 ^ (15 - (4 * i + j)) * pu_v s.2.1 (4 * i + j)), nI i, nI k, zx)) b rfl (by omega) (fun k hk => ?_) ?_
    · dsimp only
      unfold ft_toldCubes_15
      have := pq_hv_h hv (4 * i + k) (by omega)
      rw [f2, if_neg (nI_ge hk (by omega)), pq_cube (by omega) (by omega), Option.bind_some, pu_c_told C.2.2.2.2.2.2 (fun t v ht e => by have := pu_I_9 hI ht e; omega) (by omega) (by omega), Option.bind_some, show (0 : Int32) = nI 0 from rfl, pu_elim]
      dsimp only
      rw [show (s.2.1 (4 * i + k)).getD 0 = pu_v s.2.1 (4 * i + k) from rfl, nI_l (by omega), lN_mul, lN_add, nI_1, pq_sum, Nat.add_assoc]
    · dsimp only
      unfold ft_toldCubes_15
      rw [f2, if_pos (nI_le (Nat.le_refl b) (by omega))]
  unfold ft_toldCubes lt_toldCubes_4
  refine kq_runb (fun k => (lN (pq_sum k fun i => pq_sum b fun j => 16 ^ (15 - (4 * i + j)) * pu_v s.2.1 (4 * i + j)), nI k, zx)) a (h0 := rfl) (hn := by omega) (hs := fun k hk => ?_) (r := (lN (pq_sum a fun i => pq_sum b fun j => 16 ^ (15 - (4 * i + j)) * pu_v s.2.1 (4 * i + j)), zx)) ?_ ?_
  · dsimp only
    unfold ft_toldCubes_4
    rw [f1, if_neg (nI_ge hk (by omega)), inner _ _ hk, Option.bind_some]
    simp only [nI_1, pq_sum]
  · dsimp only
    unfold ft_toldCubes_4
    rw [f1, if_pos (nI_le (Nat.le_refl a) (by omega))]
  · rw [pq_enc_sum ha.2 hb.2 fun i j hi hj n => (hv.2.2.2.2 i j hi hj).2.1 n]
