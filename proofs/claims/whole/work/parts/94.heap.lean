/-! READING A HEAP: heap(place) -/
def pu_end (T : Nat → Nat) (n : Nat) (s : pu_S) : pu_S := if s.2.2 = 0 then (if pu_sg T n s.1 = some 59 then (if n ≤ s.1 + 1 then (s.1 + 1, s.2.1, 0) else (s.1 + 1, s.2.1, 1)) else (s.1, s.2.1, 1)) else s
theorem pu_m_end {T : Nat → Nat} {n : Nat} {zm0 z : km_S} {s : pu_S} (tm : pu_tm T n zm0) (M : pu_M n zm0 s z) (hs : s.2.2 ≤ 2) : ∃ z', fm_readsAll_124 z = some z' ∧ pu_M n zm0 (pu_end T n s) z' ∧ z'.2 = z.2 := by
  have tm' := pu_tm_M tm M
  have n60 := tm.1
  unfold fm_readsAll_124 pu_end
  by_cases q : s.2.2 = 0
  · have h4 : z.1 4 = 0 := by rw [M.2.2.2, q]; rfl
    obtain ⟨t1, t2⟩ := pu_m_takes0 (k := 59) tm' M q (by decide)
    rw [if_pos q]
    by_cases c1 : pu_sg T n s.1 = some 59
    · have lt := pu_sg_lt c1
      have Mg := pu_M_go M lt
      have g4 : (va_up z.1 3 (nI (s.1 + 1))) 4 = 0 := by rw [va_up_ne _ _ (by decide)]; exact h4
      have g1 : (va_up z.1 3 (nI (s.1 + 1))) 1 = nI n := by rw [va_up_ne _ _ (by decide)]; exact tm'.2.1
      rw [show fm_takes 59 z = _ from t1 c1, Option.bind_some, if_pos c1]
      dsimp only
      rw [if_pos g4]
      by_cases c2 : n ≤ s.1 + 1
      · rw [if_pos (show va_up z.1 3 (nI (s.1 + 1)) 1 ≤ va_up z.1 3 (nI (s.1 + 1)) 3 by rw [g1, va_up_self]; exact nI_le c2 (by omega)), if_pos c2]
        exact ⟨_, rfl, by rw [← q]; exact Mg, rfl⟩
      · rw [if_neg (show ¬ va_up z.1 3 (nI (s.1 + 1)) 1 ≤ va_up z.1 3 (nI (s.1 + 1)) 3 by rw [g1, va_up_self]; exact nI_ge (by omega) (by omega)), if_neg c2, pu_m_fails0 (z := (va_up z.1 3 (nI (s.1 + 1)), z.2)) g4]
        exact ⟨_, rfl, pu_M_fail (k := 1) Mg, rfl⟩
    · rw [show fm_takes 59 z = _ from t2 c1, Option.bind_some, if_neg c1, if_neg (show ¬ ((va_up z.1 4 (nI 1), z.2) : km_S).1 4 = 0 by dsimp only; rw [va_up_self]; decide)]
      exact ⟨_, rfl, pu_M_fail (k := 1) M, rfl⟩
  · have h4 : ¬ z.1 4 = 0 := by rw [M.2.2.2]; exact nI_ne0 (by omega) (by omega)
    rw [if_neg q, pu_m_takes1 tm' M h4, Option.bind_some, if_neg h4]
    exact ⟨_, rfl, M, rfl⟩
def pu_mr (o5 : km_S) : Option km_S :=
  (fm_here o5).bind fun o6 =>
  if (o6.1) = (114 : Int32) then
  fm_readsAll_69 (o6.1) (o6.2)
  else
  if (o6.1) = (112 : Int32) then
  fm_readsAll_69 (o6.1) (o6.2)
  else
  if (o6.1) = (100 : Int32) then
  fm_readsAll_69 (o6.1) (o6.2)
  else
  (fm_fails (1 : Int32) (o6.2)).bind fun o7 =>
  fm_readsAll_69 (o6.1) o7
theorem pu_m_69 {T : Nat → Nat} {n : Nat} {x : Int32} {zm0 z : km_S} {s : pu_S} (tm : pu_tm T n zm0) (M : pu_M n zm0 s z) (hs : 0 < s.2.2 ∧ s.2.2 ≤ 2) : fm_readsAll_69 x z = some z := by
  have tm' := pu_tm_M tm M
  have h4 : ¬ z.1 4 = 0 := by rw [M.2.2.2]; exact nI_ne0 hs.1 (by omega)
  unfold fm_readsAll_69 fm_readsAll_93 fm_readsAll_113 fm_readsAll_124
  rw [pu_m_goes1 h4, Option.bind_some, if_neg h4, if_neg h4, if_neg h4, pu_m_takes1 tm' M h4, Option.bind_some, if_neg h4]
theorem pu_m_r1 {T : Nat → Nat} {n : Nat} {zm0 z : km_S} {s : pu_S} (tm : pu_tm T n zm0) (M : pu_M n zm0 s z) (hs : 0 < s.2.2 ∧ s.2.2 ≤ 2) : pu_mr z = some z := by
  have tm' := pu_tm_M tm M
  have h4 : ¬ z.1 4 = 0 := by rw [M.2.2.2]; exact nI_ne0 hs.1 (by omega)
  unfold pu_mr
  rw [pu_m_here tm' M.2.2.1 M.2.1, Option.bind_some]
  dsimp only
  rw [pu_m_fails1 h4, Option.bind_some, pu_m_69 tm M hs, ite_self, ite_self, ite_self]
theorem pu_m_r0 {T : Nat → Nat} {n a b c : Nat} {zm0 z : km_S} {s : pu_S} (tm : pu_tm T n zm0) (ha : 1 ≤ a ∧ a ≤ 4) (hb : 1 ≤ b ∧ b ≤ 4) (hc : c ≤ 4) (R : pu_R n a b c zm0 s z) (G : pu_G a b c n s) (h0 : s.2.2 = 0) (hn : ∀ t, t < 16 → s.2.1 t = none) : ∃ z', pu_mr z = some z' ∧ pu_M n zm0 (pu_end T n (pu_hs T n a b c s)) z' ∧ ((pu_hs T n a b c s).2.2 = 0 → pu_MB a b c (pu_hs T n a b c s).2.1 z') := by
  obtain ⟨M, B, MT⟩ := id R
  have tm' := pu_tm_M tm M
  have h4 : z.1 4 = 0 := by rw [M.2.2.2, h0]; rfl
  have e1 := pu_s_eq (k := 100) (pu_tm_lo (p := s.1) tm') (by decide)
  have e2 := pu_s_eq (k := 112) (pu_tm_lo (p := s.1) tm') (by decide)
  have e3 := pu_s_eq (k := 114) (pu_tm_lo (p := s.1) tm') (by decide)
  have HG := (pu_hs_G (T := T) G ha hb hn).1
  have go : ∀ {x}, pu_sg T n s.1 = some x → pu_R n a b c zm0 (s.1 + 1, s.2.1, 0) (va_up z.1 3 (nI (s.1 + 1)), z.2) ∧ pu_G a b c n (s.1 + 1, s.2.1, 0) := fun e => ⟨⟨by rw [← h0]; exact pu_M_go M (pu_sg_lt e), B, MT⟩, pu_sg_lt e, G.2.1, by dsimp only; omega⟩
  have g4 : (va_up z.1 3 (nI (s.1 + 1))) 4 = 0 := by rw [va_up_ne _ _ (by decide)]; exact h4
  unfold pu_mr
  rw [pu_m_here tm' M.2.2.1 M.2.1, Option.bind_some]
  dsimp only
  have fin : ∀ z2, pu_M n zm0 (pu_hs T n a b c s) z2 → pu_MB a b c (pu_hs T n a b c s).2.1 z2 → ∃ z', fm_readsAll_124 z2 = some z' ∧ pu_M n zm0 (pu_end T n (pu_hs T n a b c s)) z' ∧ ((pu_hs T n a b c s).2.2 = 0 → pu_MB a b c (pu_hs T n a b c s).2.1 z') := fun z2 M2 B2 => by
    obtain ⟨z3, w1, w2, w3⟩ := pu_m_end tm M2 HG.2.2
    exact ⟨z3, w1, w2, fun _ => by unfold pu_MB; rw [w3]; exact B2⟩
  have go69 : ∀ x, fm_readsAll_69 x z = if x = (114 : Int32) then (fm_readsRows (va_up z.1 3 (nI (s.1 + 1)), z.2)).bind fun o2 => fm_readsAll_124 o2 else if x = (112 : Int32) then (fm_readsWords (va_up z.1 3 (nI (s.1 + 1)), z.2)).bind fun o1 => fm_readsAll_124 o1 else (fm_readsDiagonals (va_up z.1 3 (nI (s.1 + 1)), z.2)).bind fun o1 => fm_readsAll_124 o1 := fun x => by
    unfold fm_readsAll_69 fm_readsAll_93 fm_readsAll_113
    rw [pu_m_goes0 h4 M.2.2.1, Option.bind_some, if_pos g4, if_pos g4, if_pos g4]
  by_cases q3 : pu_sg T n s.1 = some 114
  · obtain ⟨g1, g2⟩ := go q3
    obtain ⟨z2, r1, r2⟩ := pu_m_rows tm ha hb hc g1 g2
    have eh : pu_hs T n a b c s = pu_seq T n c (pu_cR b) (s.1 + 1, s.2.1, 0) (a * b) := by
      unfold pu_hs; rw [if_neg (by rw [q3]; decide), if_neg (by rw [q3]; decide), if_pos q3]
    rw [← eh] at r2
    rw [if_pos (show pu_s (pu_sg T n s.1) = 114 from e3.mpr q3), go69, if_pos (show pu_s (pu_sg T n s.1) = 114 from e3.mpr q3), r1, Option.bind_some]
    exact fin z2 r2.1 r2.2.1
  · rw [if_neg (show ¬ pu_s (pu_sg T n s.1) = 114 from mt e3.mp q3)]
    by_cases q2 : pu_sg T n s.1 = some 112
    · obtain ⟨g1, g2⟩ := go q2
      obtain ⟨z2, r1, r2⟩ := pu_m_words tm ha hb hc ⟨g1.1, g1.2.1⟩ g2 rfl hn
      have eh : pu_hs T n a b c s = pu_wq T n b c (s.1 + 1, s.2.1, 0) a := by
        unfold pu_hs; rw [if_neg (by rw [q2]; decide), if_pos q2]
      rw [← eh] at r2
      rw [if_pos (show pu_s (pu_sg T n s.1) = 112 from e2.mpr q2), go69, if_neg (show ¬ pu_s (pu_sg T n s.1) = 114 from mt e3.mp q3), if_pos (show pu_s (pu_sg T n s.1) = 112 from e2.mpr q2), r1, Option.bind_some]
      exact fin z2 r2.1 r2.2
    · rw [if_neg (show ¬ pu_s (pu_sg T n s.1) = 112 from mt e2.mp q2)]
      by_cases q1 : pu_sg T n s.1 = some 100
      · obtain ⟨g1, g2⟩ := go q1
        obtain ⟨z2, r1, r2⟩ := pu_m_diag tm ha hb hc g1 g2
        have eh : pu_hs T n a b c s = pu_seq T n c (pu_cD a b) (s.1 + 1, s.2.1, 0) (a * (a + b - 1)) := by
          unfold pu_hs; rw [if_pos q1]
        rw [← eh] at r2
        rw [if_pos (show pu_s (pu_sg T n s.1) = 100 from e1.mpr q1), go69, if_neg (show ¬ pu_s (pu_sg T n s.1) = 114 from mt e3.mp q3), if_neg (show ¬ pu_s (pu_sg T n s.1) = 112 from mt e2.mp q2), r1, Option.bind_some]
        exact fin z2 r2.1 r2.2.1
      · have eh : pu_hs T n a b c s = (s.1, s.2.1, 1) := by
          unfold pu_hs; rw [if_neg q1, if_neg q2, if_neg q3]
        rw [if_neg (show ¬ pu_s (pu_sg T n s.1) = 100 from mt e1.mp q1), pu_m_fails0 h4, Option.bind_some]
        have M1 : pu_M n zm0 (s.1, s.2.1, 1) (va_up z.1 4 1, z.2) := pu_M_fail (k := 1) M
        rw [pu_m_69 tm M1 (by dsimp only; omega), eh]
        refine ⟨_, rfl, ?_, fun e => by cases e⟩
        unfold pu_end
        rw [if_neg (by dsimp only; omega)]; exact M1
/-- readHeap and readsAll -/
theorem pu_read {cA : Nat → ClassId} {zx : kx_S} {P : va_W} {zm : km_S} (hI : pq_Inv cA zx P zm) {K : Option Nat → kx_S → va_W → Prop}
    (hbad : ∀ zx' zm' p k, pu_F zx zx' → zx'.1 5 = nI p → zx'.1 6 = nI k → (0 < k ∧ k ≤ 2) → fm_readsAll zm = some zm' → pr_fq [3, 4] [4, 19] zm zm' → zm'.1 3 = nI p → zm'.1 4 = nI k → K none zx' P)
    (hgood : ∀ zx' zm' a b c h q13 q15 Q, pu_F zx zx' → fm_readsAll zm = some zm' → pr_fq [3, 4] [4, 19] zm zm' → zm'.1 4 = 0 → pq_hv a b c h → pq_mb (zm'.2.1 4) 0 a b c h → kx_hp (P ++ Q) q13 = some (q15, lN (pq_enc h 16)) → kx_bx (P ++ Q) q15 = some (nI a, nI b, nI c) → K (some q13) zx' (P ++ Q)) :
    vt_readHeap cA zx P K := by
  obtain ⟨_, ⟨n, n60, t1, t2, t3⟩, _⟩ := id hI
  obtain ⟨T, hT⟩ : ∃ T : Nat → Nat, ∀ i, i < n → T i < 256 ∧ zx.2.1 0 i = nI (T i) ∧ zm.2.1 3 i = nI (T i) := ⟨fun i => (zx.2.1 0 i).toNatClampNeg, fun i hi => by
    obtain ⟨v, v1, v2, v3⟩ := t3 i hi
    dsimp only
    rw [v2, nI_clamp (by omega)]
    exact ⟨v1, rfl, v3⟩⟩
  obtain ⟨g, g1, g2, _⟩ := pr_fillI (n := 16) (v := -1) (f := zx.2.1 1) (by omega)
  have tm : pu_tm T n zm := ⟨n60, t2, fun i hi => ⟨(hT i hi).1, (hT i hi).2.2⟩⟩
  have tpA : pu_tp T n (va_up (va_up zx.1 5 0) 6 0, va_up zx.2.1 1 g, zx.2.2) := ⟨n60, t1, fun i hi => ⟨(hT i hi).1, (hT i hi).2.1⟩⟩
  have CA : pu_C n (va_up (va_up zx.1 5 0) 6 0, va_up zx.2.1 1 g, zx.2.2) (0, fun _ => none, 0) (va_up (va_up zx.1 5 0) 6 0, va_up zx.2.1 1 g, zx.2.2) := ⟨fun _ _ _ => rfl, fun _ _ => rfl, rfl, Nat.zero_le n, rfl, rfl, fun t ht => g2 t ht⟩
  have FA : pu_F zx (va_up (va_up zx.1 5 0) 6 0, va_up zx.2.1 1 g, zx.2.2) := ⟨fun k hk => by rcases hk with rfl | rfl | rfl | rfl <;> rfl, fun k hk => va_up_ne _ _ hk, rfl⟩
  -- the reference begins
  obtain ⟨zmA, a1, MA, a3⟩ : ∃ zmA, lm_readsAll_12 5000 0 (va_up (va_up zm.1 3 0) 4 0, zm.2) = some zmA ∧ pu_M n zm (0, fun _ => none, 0) zmA ∧ ∀ t, t < 16 → zmA.2.1 19 t = 0 := by
    unfold lm_readsAll_12
    obtain ⟨r, r1, r2⟩ := kq_it0 (step := fun (s : (Int32 × km_S)) => fm_readsAll_12 (s.1) (s.2)) (fun k s => ∃ z', s = (nI k, z') ∧ pu_M n zm (0, fun _ => none, 0) z' ∧ ∀ t, t < k → z'.2.1 19 t = 0)
      (fun z' => pu_M n zm (0, fun _ => none, 0) z' ∧ ∀ t, t < 16 → z'.2.1 19 t = 0) 16 (by omega) (by
        rintro k s hk ⟨z', rfl, g1, g2⟩
        dsimp only
        unfold fm_readsAll_12 km_wz
        rw [if_neg (show ¬ (16 : Int32) ≤ nI k from nI_ge (b := 16) hk (by omega)), if_neg (kq_c (show k < km_len 19 from hk) kq_km), nI_clamp (by omega), Option.bind_some, nI_1, show vp_nar .boolean 0 = 0 by decide]
        refine ⟨_, rfl, _, rfl, pu_M_arr g1 fun i _ q2 => va_up_ne _ _ q2, fun t ht => ?_⟩
        dsimp only
        rw [va_up_self]
        by_cases e : t = k
        · subst e; rw [pk_us]
        · rw [pk_un e]; exact g2 t (by omega)) (by
        rintro s ⟨z', rfl, g1, g2⟩
        refine ⟨z', ?_, g1, g2⟩
        dsimp only
        unfold fm_readsAll_12
        rw [if_pos (by decide)])
      (s := (0, (va_up (va_up zm.1 3 0) 4 0, zm.2))) ⟨_, rfl, ⟨⟨fun k hk => by
        dsimp only
        rw [va_up_ne _ _ (by simp at hk; omega), va_up_ne _ _ (by simp at hk; omega)], fun _ _ => rfl⟩, Nat.zero_le n, rfl, rfl⟩, fun t ht => absurd ht (by omega)⟩
    exact ⟨r, r1, r2.1, r2.2⟩
  have all : fm_readsAll zm = (fm_takes 120 zmA).bind fun o4 => (fm_readsBox o4).bind fun o5 => pu_mr o5 := by
    unfold fm_readsAll
    rw [show km_pI zm 3 0 = some (va_up zm.1 3 0, zm.2) from rfl, Option.bind_some, show km_pI (va_up zm.1 3 0, zm.2) 4 0 = some (va_up (va_up zm.1 3 0) 4 0, zm.2) from rfl, Option.bind_some, a1, Option.bind_some]; rfl
  obtain ⟨k1, k2⟩ := pu_m_takes0 (k := 120) (pu_tm_M tm MA) MA rfl (by decide)
  obtain ⟨c1, c2⟩ := pu_c_readSign (k := 120) tpA CA (by decide)
  unfold vt_readHeap
  refine ⟨_, rfl, _, rfl, g, g1, ?_⟩
  by_cases c0 : pu_sg T n 0 = some 120
  case neg =>
    refine ⟨_, c2 c0, fun _ => ?_, fun n => absurd rfl n⟩
    have M1 := pu_M_fail (k := 1) MA
    have M2 : pu_M n zm (0, fun _ => none, 1) (va_up zmA.1 4 (nI 1), va_up zmA.2.1 4 (pq_bg (zmA.2.1 4) 0 0 0), zmA.2.2) := pu_M_arr (zm := (va_up zmA.1 4 (nI 1), zmA.2)) M1 fun k q1 _ => va_up_ne _ _ q1
    obtain ⟨zm3, b1, b2⟩ := pu_m_box1 (s := (0, fun _ => none, 1)) tm (by dsimp only; omega) 3 5000 1 _ rfl (by omega) (by omega) M2
    have bx : fm_readsBox (va_up zmA.1 4 (nI 1), zmA.2) = some zm3 := by
      unfold fm_readsBox lm_readsBox_12
      rw [pm_begins (k := 4) (by decide), Option.bind_some, show kj_it (fun (s : (Int32 × km_S)) => fm_readsBox_12 (s.1) (s.2)) 5000 (1, _) = some zm3 from b1]; rfl
    refine hbad _ zm3 0 1 (pu_F_t FA ⟨fun k hk => va_up_ne _ _ (by omega), fun _ _ => rfl, rfl⟩) rfl rfl (by omega) ?_ b2.1 b2.2.2.1 b2.2.2.2
    rw [all, show fm_takes 120 zmA = _ from k2 c0, Option.bind_some, bx, Option.bind_some, pu_m_r1 tm b2 (by dsimp only; omega)]
  have lt0 := pu_sg_lt c0
  refine ⟨_, c1 c0, fun n => absurd n kq_10, fun _ => ?_⟩
  have CB := pu_C_go CA lt0
  have tpB := pu_tp_C tpA CB
  have MB := pu_M_go MA lt0
  have FB : pu_F zx (va_up (va_up (va_up zx.1 5 0) 6 0) 5 (nI (0 + 1)), va_up zx.2.1 1 g, zx.2.2) := pu_F_t FA (pu_F_C CB)
  have allB : fm_readsAll zm = (fm_readsBox (va_up zmA.1 3 (nI (0 + 1)), zmA.2)).bind fun o5 => pu_mr o5 := by
    rw [all, show fm_takes 120 zmA = _ from k1 c0, Option.bind_some]
  rcases pu_sides tpB CB.2.2.2.2.1 CB.2.2.2.1 CB.2.2.2.2.2.1 tm MB with ⟨zx', zm', p', k, s1, s2, s3, s4, s5, s6, s7⟩ | ⟨zxC, zmC, a, b, c, s1, s2, s3, s4, ⟨ha, hb, hc, hm⟩, s5, s6, s7, s8, s9, s10, s11, s12⟩
  · refine ⟨_, s1, fun _ => ?_, fun n => absurd rfl n⟩
    refine hbad zx' zm' p' k (pu_F_t FB s3) s4 s5 s7 ?_ s6.1 s6.2.2.1 s6.2.2.2
    rw [allB, s2, Option.bind_some, pu_m_r1 tm s6 s7]
  refine ⟨_, s1, fun n => absurd n kq_10, fun _ => ?_⟩
  have FC := pu_F_t FB s3
  have tpC : pu_tp T n zxC := ⟨n60, (s3.1 4 (by omega)).trans tpB.2.1, by rw [s3.2.1 0 (by decide)]; exact tpB.2.2⟩
  have CC : pu_C n zxC (0 + 1 + 3, fun _ => none, 0) zxC := ⟨fun _ _ _ => rfl, fun _ _ => rfl, rfl, s10.2.1, s8, s9, fun t ht => by rw [s4]; exact g2 t ht⟩
  have GC : pu_G a b c n (0 + 1 + 3, fun _ => none, 0) := ⟨s10.2.1, (fun i j _ _ v e => by cases e), by dsimp only; omega⟩
  have RC : pu_R n a b c zm (0 + 1 + 3, fun _ => none, 0) zmC := ⟨s10, s11, fun t ht => by rw [s12]; exact a3 t ht⟩
  obtain ⟨zxD, d1, CD⟩ := pu_c_heights (T := T) tpC s5 s6 s7 ha hb hc.2 CC GC rfl fun _ _ => rfl
  obtain ⟨zmE, r1, ME, r3⟩ := pu_m_r0 (T := T) tm ha hb hc.2 RC GC rfl fun _ _ => rfl
  obtain ⟨HG, HT⟩ := pu_hs_G (T := T) GC ha hb fun _ _ => rfl
  have allE : fm_readsAll zm = some zmE := by rw [allB, s2, Option.bind_some, r1]
  generalize pu_hs T n a b c (0 + 1 + 3, fun _ => none, 0) = S at *
  have FD := pu_F_t FC (pu_F_C CD)
  have tpD := pu_tp_C tpC CD
  by_cases q : S.2.2 = 0
  case neg =>
    rw [decide_eq_false q] at d1
    refine ⟨_, d1, fun _ => ?_, fun n => absurd rfl n⟩
    have eE : pu_end T n S = S := by unfold pu_end; rw [if_neg q]
    rw [eE] at ME
    exact hbad zxD zmE S.1 S.2.2 FD CD.2.2.2.2.1 CD.2.2.2.2.2.1 ⟨by omega, HG.2.2⟩ allE ME.1 ME.2.2.1 ME.2.2.2
  rw [decide_eq_true q] at d1
  refine ⟨_, d1, fun n => absurd n (show ¬ pq_b true = 0 by decide), fun _ => ?_⟩
  obtain ⟨c1, c2⟩ := pu_c_readSign (k := 59) tpD CD (by decide)
  by_cases q1 : pu_sg T n S.1 = some 59
  case neg =>
    have eE : pu_end T n S = (S.1, S.2.1, 1) := by unfold pu_end; rw [if_pos q, if_neg q1]
    rw [eE] at ME
    have CE := pu_C_fail (k := 1) CD
    refine ⟨_, c2 q1, fun _ => ?_, fun n => absurd rfl n⟩
    exact hbad _ zmE S.1 1 (pu_F_t FC (pu_F_C CE)) CE.2.2.2.2.1 CE.2.2.2.2.2.1 (by omega) allE ME.1 ME.2.2.1 ME.2.2.2
  have lt1 := pu_sg_lt q1
  have CE := pu_C_go CD lt1
  refine ⟨_, c1 q1, fun n => absurd n kq_10, fun _ => ⟨fun q2 q13 hq13 q15 hq15 => ?_, fun q2 => ?_⟩⟩
  · have f4 : (va_up zxD.1 5 (nI (S.1 + 1))) 4 = nI n := by rw [va_up_ne _ _ (by decide)]; exact tpD.2.1
    dsimp only at q2
    rw [f4, va_up_self] at q2
    have q2' : n ≤ S.1 + 1 := (nI_leI (by omega) (by omega)).mp q2
    have eE : pu_end T n S = (S.1 + 1, S.2.1, 0) := by unfold pu_end; rw [if_pos q, if_pos q1, if_pos q2']
    rw [eE] at ME
    have hv := pu_hv ha hb hc hm HG.2.1 (HT q)
    refine ⟨_, pu_c_cubes (s := (S.1 + 1, S.2)) s5 s6 hv CE HG.2.1, ?_⟩
    have B := r3 q
    obtain ⟨n1, n2⟩ := pq_new2 (E := lN (pq_enc (pu_v S.2.1) 16)) (A := nI a) (B := nI b) (C := nI c) hq13 hq15
    have v1 : (va_up zxD.1 5 (nI (S.1 + 1))) 1 = nI a := by rw [va_up_ne _ _ (by decide), CD.1 1 (by decide) (by decide)]; exact s5
    have v2 : (va_up zxD.1 5 (nI (S.1 + 1))) 2 = nI b := by rw [va_up_ne _ _ (by decide), CD.1 2 (by decide) (by decide)]; exact s6
    have v3 : (va_up zxD.1 5 (nI (S.1 + 1))) 3 = nI c := by rw [va_up_ne _ _ (by decide), CD.1 3 (by decide) (by decide)]; exact s7
    dsimp only
    rw [v1, v2, v3]
    exact hgood _ zmE a b c (pu_v S.2.1) q13 q15 _ (pu_F_t FC (pu_F_C CE)) allE ME.1 ME.2.2.2 hv ⟨B.1, B.2.1, B.2.2.1, B.2.2.2.1, fun t ht => by rw [Nat.zero_add]; exact B.2.2.2.2 t ht⟩ n1 n2
  · have f4 : (va_up zxD.1 5 (nI (S.1 + 1))) 4 = nI n := by rw [va_up_ne _ _ (by decide)]; exact tpD.2.1
    dsimp only at q2
    rw [f4, va_up_self] at q2
    have q2' : ¬ n ≤ S.1 + 1 := fun h => q2 (nI_le h (by omega))
    have eE : pu_end T n S = (S.1 + 1, S.2.1, 1) := by unfold pu_end; rw [if_pos q, if_pos q1, if_neg q2']
    rw [eE] at ME
    have CF := pu_C_fail (k := 1) CE
    exact ⟨_, rfl, hbad _ zmE (S.1 + 1) 1 (pu_F_t FC (pu_F_C CF)) CF.2.2.2.2.1 CF.2.2.2.2.2.1 (by omega) allE ME.1 ME.2.2.1 ME.2.2.2⟩
/-- heap(place) -/
theorem pq_s1 (cA : Nat → ClassId) : kl_s1 cA (pq_Inv cA) := by
  intro zx P zm hI a1
  unfold vc_heap fm_heap
  rcases pq_isPlace a1 with ⟨s1, s2⟩ | ⟨to, hto, rfl, s1, s2⟩
  · refine ⟨_, s1, fun _ => ?_, fun n => absurd rfl n⟩
    rw [s2]; exact ⟨_, rfl, rfl, hI⟩
  refine ⟨_, s1, fun n => absurd n kq_10, fun _ => ?_⟩
  rw [s2, Option.bind_some, if_neg kq_10]
  -- the state behind, with another tape and another fault
  have inv : ∀ (zx' : kx_S) (zm' : km_S) (fx fm : Nat → Int32), pu_F zx zx' → pr_fq [3, 4] [4, 19] zm zm' → fx 4 = 0 → fm 1 = 0 → fx 0 = fm 2 → fx 7 = zx'.1 7 → fx 8 = zx'.1 8 → fm 0 = zm'.1 0 → pq_Inv cA (fx, zx'.2) P (fm, zm'.2) := by
    intro zx' zm' fx fm F fq e1 e2 e3 e4 e5 e6
    obtain ⟨hg, _, _, hp, hpast, him⟩ := hI
    refine ⟨?_, ⟨0, by omega, e1, e2, fun i hi => absurd hi (by omega)⟩, e3, ?_, ?_, ?_⟩
    · dsimp only; rw [F.2.2]; exact hg
    · dsimp only; rw [F.2.2, fq.2 0 (by decide)]; exact hp
    · dsimp only; rw [F.2.2, e4, e5, F.1 7 (by omega), F.1 8 (by omega), e6, fq.1 0 (by decide), fq.2 1 (by decide)]; exact hpast
    · dsimp only; rw [F.2.2, F.2.1 4 (by decide), fq.2 18 (by decide), fq.2 2 (by decide)]; exact him
  refine pu_read hI (fun zx' zm' p k F h5 h6 hk hall fq m3 m4 => ?_) fun zx' zm' a b c h q13 q15 Q F hall fq m4 hv hb e1 e2 => ?_
  · refine ⟨_, rfl, fun _ => ⟨_, rfl, ?_⟩, fun a6 e => by cases e⟩
    have g4 : (va_up zm'.1 1 0) 4 = nI k := by rw [va_up_ne _ _ (by decide)]; exact m4
    rw [hall, Option.bind_some, show km_pI zm' 1 0 = some (va_up zm'.1 1 0, zm'.2) from rfl, Option.bind_some]
    dsimp only
    rw [if_neg (show ¬ va_up zm'.1 1 0 4 ≤ 0 by rw [g4]; exact nI_nle hk.1 (by omega)), g4, show km_pI (va_up zm'.1 1 0, zm'.2) 2 (nI k) = some (va_up (va_up zm'.1 1 0) 2 (nI k), zm'.2) from rfl, Option.bind_some]
    refine ⟨_, rfl, ?_, inv zx' zm' _ _ F fq rfl rfl h6 rfl rfl rfl⟩
    show (-1000100 : Int32) - zx'.1 5 = -1000100 - zm'.1 3
    rw [h5, m3]
  · refine ⟨_, rfl, fun e => (by cases e), fun a6 e => ?_⟩
    cases e
    have g4 : (va_up zm'.1 1 0) 4 ≤ 0 := by rw [va_up_ne _ _ (by decide), m4]; decide
    have hI2 : pq_Inv cA (va_up zx'.1 4 0, zx'.2) P (va_up zm'.1 1 0, zm'.2) := inv zx' zm' _ _ F fq rfl rfl (by
      show zx'.1 0 = zm'.1 2
      rw [F.1 0 (by omega), fq.1 2 (by decide)]; exact hI.2.2.1) rfl rfl rfl
    refine pq_comes (pq_Inv_app Q hI2) hto hv e1 e2 hb fun zx2 zm2 c1 c2 _ => ?_
    rw [hall, Option.bind_some, show km_pI zm' 1 0 = some (va_up zm'.1 1 0, zm'.2) from rfl, Option.bind_some]
    dsimp only
    rw [if_pos g4, c1, Option.bind_some]
    exact ⟨_, rfl, rfl, c2⟩
