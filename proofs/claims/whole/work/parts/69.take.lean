/-! boxes; many, take, drawn -/
theorem pr_side (x : Int32) : (fx_isSide x = some 0 ∧ fm_in x 1 4 = some 0) ∨ ∃ a, (1 ≤ a ∧ a ≤ 4) ∧ x = nI a ∧ fx_isSide x = some 1 ∧ fm_in x 1 4 = some 1 := by
  unfold fx_isSide fm_in
  by_cases c1 : x < 1
  · rw [if_pos c1]; exact Or.inl ⟨rfl, rfl⟩
  rw [if_neg c1]
  by_cases c2 : (4 : Int32) < x
  · rw [if_pos c2]; exact Or.inl ⟨rfl, rfl⟩
  rw [if_neg c2]
  have c0 : ¬ x < 0 := fun q => c1 (Int32.lt_of_lt_of_le q (by decide))
  obtain ⟨j, hj, rfl⟩ := nI_of2 (x := x) (M := 4) (n := 4) rfl c0 (Int32.not_lt.mp c2)
  refine Or.inr ⟨j, ⟨?_, hj⟩, rfl, rfl, rfl⟩
  rcases Nat.eq_zero_or_pos j with e | e
  · subst e; exact absurd (by decide) c1
  · exact e
theorem pr_box (x1 x2 x3 : Int32) : (fx_inRange x1 x2 x3 = some 0 ∧ fm_isBox x1 x2 x3 = some 0) ∨ ∃ a b c, (1 ≤ a ∧ a ≤ 4) ∧ pr_ok b c ∧ a * b * c ≤ 48 ∧ x1 = nI a ∧ x2 = nI b ∧ x3 = nI c ∧ fx_inRange x1 x2 x3 = some 1 ∧ fm_isBox x1 x2 x3 = some 1 := by
  unfold fx_inRange fm_isBox
  rcases pr_side x1 with ⟨p1, p2⟩ | ⟨a, ha, rfl, p1, p2⟩
  · rw [p1, p2]; exact Or.inl ⟨rfl, rfl⟩
  rw [p1, p2]
  rcases pr_side x2 with ⟨q1, q2⟩ | ⟨b, hb, rfl, q1, q2⟩
  · rw [q1, q2]; exact Or.inl ⟨rfl, rfl⟩
  rw [q1, q2]
  rcases pr_side x3 with ⟨r1, r2⟩ | ⟨c, hc, rfl, r1, r2⟩
  · rw [r1, r2]; exact Or.inl ⟨rfl, rfl⟩
  rw [r1, r2]
  simp only [Option.bind_some, if_neg kq_10]
  rw [pk_mul, pk_mul]
  have hle : a * b * c ≤ 64 := by
    have h1 : a * b ≤ 4 * 4 := Nat.mul_le_mul ha.2 hb.2
    exact Nat.mul_le_mul h1 hc.2
  by_cases c1 : 48 < a * b * c
  · rw [if_pos (show (48 : Int32) < nI (a * b * c) from nI_lt (a := 48) c1 (by omega))]
    exact Or.inl ⟨rfl, rfl⟩
  · rw [if_neg (show ¬ (48 : Int32) < nI (a * b * c) from nI_nlt (a := 48) (b := a * b * c) (by omega) (by omega))]
    exact Or.inr ⟨a, b, c, ha, ⟨hb.1, hb.2, hc.1, hc.2⟩, by omega, rfl, rfl, rfl, rfl, rfl⟩
/-- Box.of(a, b, c) -/
theorem pr_of {cA : Nat → ClassId} {x1 x2 x3 : Int32} {zx : kx_S} {P : va_W} {K : Option Nat → kx_S → va_W → Prop} (h0 : fm_isBox x1 x2 x3 = some 0 → K none zx P)
    (h1 : ∀ a b c q, (1 ≤ a ∧ a ≤ 4) → pr_ok b c → a * b * c ≤ 48 → x1 = nI a → x2 = nI b → x3 = nI c → fm_isBox x1 x2 x3 = some 1 → kx_bx (P ++ [((q, .inr (0, [.int (nI a), .int (nI b), .int (nI c)])) : Nat × va_E)]) q = some (nI a, nI b, nI c) → K (some q) zx (P ++ [((q, .inr (0, [.int (nI a), .int (nI b), .int (nI c)])) : Nat × va_E)])) : vx_of cA x1 x2 x3 zx P K := by
  unfold vx_of
  rcases pr_box x1 x2 x3 with ⟨q1, q2⟩ | ⟨a, b, c, ha, o, hm, rfl, rfl, rfl, q1, q2⟩
  · exact ⟨_, q1, fun _ => h0 q2, fun n => absurd rfl n⟩
  · exact ⟨_, q1, fun n => absurd n kq_10, fun _ q hq => h1 a b c q ha o hm rfl rfl rfl q2 (pq_bx_pl.mpr (pq_pl_new hq))⟩
theorem pr_heapsWith {a b c : Nat} {r : kr_S} (ha : 1 ≤ a ∧ a ≤ 4) (o : pr_ok b c) (hr : pq_rok b c (pr_N b c) r) : fr_heapsWith (pr_N b c) (nI a) r = some (nI (pq_U b c a (pr_N b c - 1)), r) := by
  have hN := pr_N_le o
  unfold fr_heapsWith
  rw [pr_ix (by omega), Option.bind_some, show nI (pr_N b c) - 1 = nI (pr_N b c - 1) from pk_sub (b := 1) (by omega), pr_ru (by omega) (by omega), Option.bind_some, hr.2.2 _ _ (by omega) (by omega)]
/-- many(a, b, c) -/
theorem pq_s18 (cA : Nat → ClassId) : kl_s18 cA (pq_Inv cA) := by
  intro zx P zm hI a1 a2 a3
  unfold vc_many fm_many
  refine pr_of (fun h0 => ⟨fun _ => ?_, fun _ e => by cases e⟩) (fun a b c q ha o hm e1 e2 e3 h1 hb => ⟨fun e => (by cases e), fun a3' e => ?_⟩)
  · rw [h0]; exact ⟨_, rfl, rfl, hI⟩
  · cases e
    subst e1 e2 e3
    refine pr_rowsOf (pq_Inv_app _ hI) hb o fun ad q r Pa Pb zx' hz hx hat hI2 => ?_
    refine ⟨ad, rfl, q, _, r, Pa, Pb, rfl, _, pr_heapsWith ha o hat.1, ?_⟩
    obtain ⟨z', l1, l2, l3, l4⟩ := pm_lays (z := zm) o ha
    rw [h1, Option.bind_some, if_neg kq_10, l1]
    exact ⟨_, rfl, rfl, pr_Inv_m hI2 l3 (by decide) (by intro k hk; simp; omega)⟩
/-- take(a, b, c, number, to) -/
theorem pq_s4 (cA : Nat → ClassId) : kl_s4 cA (pq_Inv cA) := by
  intro zx P zm hI a1 a2 a3 a4 a5
  unfold vc_take fm_take
  refine pr_of (fun h0 => ⟨fun _ => ?_, fun _ e => by cases e⟩) (fun a b c bx ha o hm e1 e2 e3 h1 hb => ⟨fun e => (by cases e), fun a3' e => ?_⟩)
  · rw [h0]; exact ⟨_, rfl, rfl, hI⟩
  cases e
  subst e1 e2 e3
  have hN := pr_N_le o
  rw [h1, Option.bind_some, if_neg kq_10]
  rcases pq_isPlace a5 with ⟨s1, s2⟩ | ⟨to, hto, rfl, s1, s2⟩
  · refine ⟨_, s1, fun _ => ?_, fun n => absurd rfl n⟩
    rw [s2]; exact ⟨_, rfl, rfl, pq_Inv_app _ hI⟩
  refine ⟨_, s1, fun n => absurd n kq_10, fun _ => ?_⟩
  obtain ⟨z', l1, l2, l3, l4⟩ := pm_lays (z := zm) o ha
  have hU := pr_U_lt o (m := a) (k := pr_N b c - 1) ha.2 (by omega)
  have hU1 := pr_U_pos o a (pr_N b c - 1) (by omega)
  rw [s2, Option.bind_some, if_neg kq_10, l1, Option.bind_some]
  dsimp only
  rw [show nI (pq_U b c a (pr_N b c - 1)) - 1 = nI (pq_U b c a (pr_N b c - 1) - 1) from pk_sub (b := 1) (by omega), pq_in0 (by omega)]
  refine ⟨fun c4 => ?_, fun c4 => ?_⟩
  · refine pr_rowsOf (pq_Inv_app _ hI) hb o fun ad q r Pa Pb zx' hz hx hat hI2 => ?_
    refine ⟨ad, rfl, q, _, r, Pa, Pb, rfl, _, pr_heapsWith ha o hat.1, fun c5 q12 hq => ?_, fun c5 => ?_⟩
    · dsimp only at c5 hq ⊢
      obtain ⟨num, hnum, rfl⟩ := nI_of (Int32.not_lt.mpr c4)
      have hlt : num < pq_U b c a (pr_N b c - 1) := (nI_ltI hnum (by omega)).mp c5
      refine ⟨q, _, r, Pa, Pb, rfl, _, pr_cubesOf ha o hm hat.1 hlt, ?_⟩
      dsimp only
      obtain ⟨z2, m1, m2, m3, m4⟩ := pm_makes ha o hm l2 hlt
      obtain ⟨n1, n2⟩ := pq_new1 (E := lN (pq_enc (pr_hn b c a num) 16)) hq (hx.2 _ _ hb)
      have hI3 : pq_Inv cA zx' (Pa ++ (kr_w cA ad q (pr_N b c) r ++ Pb)) z2 := pr_Inv_m (pr_Inv_m hI2 l3 (by decide) (by intro k hk; simp; omega)) m3 (by decide) (by intro k hk; simp; omega)
      refine pq_comes (pq_Inv_app _ hI3) hto (pr_hn_hv ha o hm hlt) n1 n2 m2 fun zx2 zm2 c1 c2 _ => ?_
      rw [if_neg (not_or.mpr ⟨nI_pos (by omega), nI_nlt (by omega) (by omega)⟩), Option.bind_some, if_neg kq_10, m1, Option.bind_some, c1]
      exact ⟨_, rfl, rfl, c2⟩
    · dsimp only at c5 ⊢
      obtain ⟨num, hnum, rfl⟩ := nI_of (Int32.not_lt.mpr c4)
      have hlt : ¬ num < pq_U b c a (pr_N b c - 1) := mt (nI_ltI hnum (by omega)).mpr c5
      rw [if_pos (Or.inr (nI_lt (by omega) hnum)), Option.bind_some, if_pos rfl]
      exact ⟨_, rfl, rfl, pr_Inv_m hI2 l3 (by decide) (by intro k hk; simp; omega)⟩
  · rw [if_pos (Or.inl (Int32.not_le.mp c4)), Option.bind_some, if_pos rfl]
    exact ⟨_, rfl, rfl, pr_Inv_m (pq_Inv_app _ hI) l3 (by decide) (by intro k hk; simp; omega)⟩
/-- drawn(a, b, c, seed, to) -/
theorem pq_s5 (cA : Nat → ClassId) : kl_s5 cA (pq_Inv cA) := by
  intro zx P zm hI a1 a2 a3 a4 a5
  unfold vc_drawn fm_drawn
  refine pr_of (fun h0 => ⟨fun _ => ?_, fun _ e => by cases e⟩) (fun a b c bx ha o hm e1 e2 e3 h1 hb => ⟨fun e => (by cases e), fun a3' e => ?_⟩)
  · rw [h0]; exact ⟨_, rfl, rfl, hI⟩
  cases e
  subst e1 e2 e3
  have hN := pr_N_le o
  have hIa := pq_Inv_app [((bx, .inr (0, [.int (nI a), .int (nI b), .int (nI c)])) : Nat × va_E)] hI
  rw [h1, Option.bind_some, if_neg kq_10]
  have hin : fm_in a4 1 999999 = if a4 < 1 ∨ (999999 : Int32) < a4 then some 0 else some 1 := by
    unfold fm_in
    by_cases c1 : a4 < 1
    · rw [if_pos c1, if_pos (Or.inl c1)]
    · rw [if_neg c1]
      by_cases c2 : (999999 : Int32) < a4
      · rw [if_pos c2, if_pos (Or.inr c2)]
      · rw [if_neg c2, if_neg (not_or.mpr ⟨c1, c2⟩)]
  rw [hin]
  refine ⟨fun c1 => ?_, fun c1 => ⟨fun c2 => ?_, fun c2 => ?_⟩⟩
  · rw [if_pos (Or.inl c1)]; exact ⟨_, rfl, rfl, hIa⟩
  · rw [if_pos (Or.inr c2)]; exact ⟨_, rfl, rfl, hIa⟩
  rw [if_neg (not_or.mpr ⟨c1, c2⟩), Option.bind_some, if_neg kq_10]
  rcases pq_isPlace a5 with ⟨s1, s2⟩ | ⟨to, hto, rfl, s1, s2⟩
  · refine ⟨_, s1, fun _ => ?_, fun n => absurd rfl n⟩
    rw [s2]; exact ⟨_, rfl, rfl, hIa⟩
  refine ⟨_, s1, fun n => absurd n kq_10, fun _ => ?_⟩
  obtain ⟨z', l1, l2, l3, l4⟩ := pm_lays (z := zm) o ha
  have hU := pr_U_lt o (m := a) (k := pr_N b c - 1) ha.2 (by omega)
  have hU1 := pr_U_pos o a (pr_N b c - 1) (by omega)
  have c0 : ¬ a4 < 0 := fun q => c1 (Int32.lt_of_lt_of_le q (by decide))
  obtain ⟨sd, hsd, rfl⟩ := nI_of2 (x := a4) (M := 999999) (n := 999999) rfl c0 (Int32.not_lt.mp c2)
  have hmax : (if (1 : Int32) < nI (pq_U b c a (pr_N b c - 1)) then nI (pq_U b c a (pr_N b c - 1)) else 1) = nI (pq_U b c a (pr_N b c - 1)) := by
    by_cases q : 1 < pq_U b c a (pr_N b c - 1)
    · rw [if_pos (show (1 : Int32) < nI _ from nI_lt (a := 1) q (by omega))]
    · rw [if_neg (show ¬ (1 : Int32) < nI _ from nI_nlt (a := 1) (b := pq_U b c a (pr_N b c - 1)) (by omega) (by omega)), show pq_U b c a (pr_N b c - 1) = 1 by omega]; rfl
  have hnum : (((nI sd).toInt64 * 16807 - (nI sd).toInt64 * 16807 / 2147483647 * 2147483647) - ((nI sd).toInt64 * 16807 - (nI sd).toInt64 * 16807 / 2147483647 * 2147483647) / (nI (pq_U b c a (pr_N b c - 1))).toInt64 * (nI (pq_U b c a (pr_N b c - 1))).toInt64).toInt32 = nI (sd * 16807 % 2147483647 % pq_U b c a (pr_N b c - 1)) := by
    have h2 : (lN (sd * 16807) - lN (sd * 16807) / 2147483647 * 2147483647) = lN (sd * 16807 % 2147483647) := pk_lRem (b := 2147483647) (by omega) (by omega) (by omega)
    have h3 := Nat.mod_lt (sd * 16807) (show 0 < 2147483647 by decide)
    rw [nI_l (by omega), nI_l (by omega), show lN sd * 16807 = lN (sd * 16807) from lN_mul sd 16807, h2, pk_lRem (by omega) (by omega) (by omega), lN_i]
  have hlt := Nat.mod_lt (sd * 16807 % 2147483647) (show 0 < pq_U b c a (pr_N b c - 1) by omega)
  have hU64 : ¬ (nI (pq_U b c a (pr_N b c - 1))).toInt64 = 0 := by
    rw [nI_l (by omega)]
    intro q
    have := (pk_lEQ (a := pq_U b c a (pr_N b c - 1)) (b := 0) (by omega) (by decide)).mp q
    omega
  rw [s2, Option.bind_some, if_neg kq_10, if_neg (by decide), l1, Option.bind_some]
  dsimp only
  rw [if_neg hU64, hnum]
  refine pr_rowsOf hIa hb o fun ad q r Pa Pb zx' hz hx hat hI2 => ?_
  refine ⟨ad, rfl, q, _, r, Pa, Pb, rfl, _, pr_heapsWith ha o hat.1, by decide, ?_, fun q12 hq => ?_⟩
  · dsimp only; rw [hmax]; exact hU64
  dsimp only at hq ⊢
  rw [hmax, hnum]
  generalize sd * 16807 % 2147483647 % pq_U b c a (pr_N b c - 1) = num at *
  refine ⟨q, _, r, Pa, Pb, rfl, _, pr_cubesOf ha o hm hat.1 hlt, ?_⟩
  dsimp only
  obtain ⟨z2, m1, m2, m3, m4⟩ := pm_makes ha o hm l2 hlt
  obtain ⟨n1, n2⟩ := pq_new1 (E := lN (pq_enc (pr_hn b c a num) 16)) hq (hx.2 _ _ hb)
  have hI3 : pq_Inv cA zx' (Pa ++ (kr_w cA ad q (pr_N b c) r ++ Pb)) z2 := pr_Inv_m (pr_Inv_m hI2 l3 (by decide) (by intro k hk; simp; omega)) m3 (by decide) (by intro k hk; simp; omega)
  refine pq_comes (pq_Inv_app _ hI3) hto (pr_hn_hv ha o hm hlt) n1 n2 m2 fun zx2 zm2 c1 c2 _ => ?_
  rw [m1, Option.bind_some, c1]
  exact ⟨_, rfl, rfl, c2⟩
