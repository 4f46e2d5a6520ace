/-! join; two places alike -/
theorem pm_alike {zm : km_S} {p q a b c a' b' c' : Nat} {h h' : Nat → Nat} (hp : p < 4) (hq : q < 4) (H : pq_hv a b c h) (H' : pq_hv a' b' c' h') (hb : pq_mb (zm.2.1 0) (20 * p) a b c h) (hb' : pq_mb (zm.2.1 0) (20 * q) a' b' c' h') : fm_areAlike (nI p) (nI q) zm = some (pq_b (decide (a = a' ∧ b = b' ∧ c = c')), zm) := by
  have ha := H.1; have hb4 := H.2.1; have hc4 := H.2.2.1
  have ha' := H'.1; have hb4' := H'.2.1; have hc4' := H'.2.2.1
  unfold fm_areAlike
  rw [show (20 : Int32) * nI p + 1 = nI (20 * p + 1) from by rw [show (20 : Int32) * nI p = nI (20 * p) from pk_mul 20 p]; exact nI_add _ 1, show (20 : Int32) * nI q + 1 = nI (20 * q + 1) from by rw [show (20 : Int32) * nI q = nI (20 * q) from pk_mul 20 q]; exact nI_add _ 1, show (3 : Int32) = nI 3 from rfl, pm_isSame (show 20 * p + 1 + 3 ≤ 80 by omega) (show 20 * q + 1 + 3 ≤ 80 by omega) (by omega), Option.bind_some, if_pos (pq_b01 _)]
  have e : (pq_all 3 fun t => decide (zm.2.1 0 (20 * p + 1 + t) = zm.2.1 0 (20 * q + 1 + t))) = decide (a = a' ∧ b = b' ∧ c = c') := by
    apply Bool.eq_iff_iff.mpr
    rw [pq_all_iff, decide_eq_true_eq]
    constructor
    · intro Q
      have q1 := of_decide_eq_true (Q 0 (by omega))
      have q2 := of_decide_eq_true (Q 1 (by omega))
      have q3 := of_decide_eq_true (Q 2 (by omega))
      rw [Nat.add_zero, Nat.add_zero, hb.2.1, hb'.2.1, nI_eq (by omega) (by omega)] at q1
      rw [show 20 * p + 1 + 1 = 20 * p + 2 from rfl, show 20 * q + 1 + 1 = 20 * q + 2 from rfl, hb.2.2.1, hb'.2.2.1, nI_eq (by omega) (by omega)] at q2
      rw [show 20 * p + 1 + 2 = 20 * p + 3 from rfl, show 20 * q + 1 + 2 = 20 * q + 3 from rfl, hb.2.2.2.1, hb'.2.2.2.1, nI_eq (by omega) (by omega)] at q3
      exact ⟨q1, q2, q3⟩
    · rintro ⟨rfl, rfl, rfl⟩ t ht
      apply decide_eq_true
      have : t = 0 ∨ t = 1 ∨ t = 2 := by omega
      rcases this with rfl | rfl | rfl
      · exact hb.2.1.trans hb'.2.1.symm
      · exact hb.2.2.1.trans hb'.2.2.1.symm
      · exact hb.2.2.2.1.trans hb'.2.2.2.1.symm
  rw [e]
theorem pq_same {a b c a' b' c' : Nat} (h1 : a ≤ 4) (h2 : b ≤ 4) (h3 : c ≤ 4) (h1' : a' ≤ 4) (h2' : b' ≤ 4) (h3' : c' ≤ 4) : fx_sameAs (nI a) (nI b) (nI c) (nI a') (nI b') (nI c') = some (pq_b (decide (a = a' ∧ b = b' ∧ c = c'))) := by
  unfold fx_sameAs
  by_cases c1 : a = a'
  · rw [if_pos (by rw [c1])]
    by_cases c2 : b = b'
    · rw [if_pos (by rw [c2])]
      by_cases c3 : c = c'
      · rw [if_pos (by rw [c3]), decide_eq_true ⟨c1, c2, c3⟩]; rfl
      · rw [if_neg (mt (nI_eq (by omega) (by omega)).mp c3), decide_eq_false fun q => c3 q.2.2]; rfl
    · rw [if_neg (mt (nI_eq (by omega) (by omega)).mp c2), decide_eq_false fun q => c2 q.2.1]; rfl
  · rw [if_neg (mt (nI_eq (by omega) (by omega)).mp c1), decide_eq_false fun q => c1 q.1]; rfl
/-- join(x, y, how, to) -/
theorem pq_s9 (cA : Nat → ClassId) : kl_s9 cA (pq_Inv cA) := by
  intro zx P zm hI a1 a2 a3 a4
  have hp := hI.2.2.2.1
  unfold vc_join fm_join
  rcases pq_place hp a1 with ⟨q1, q2⟩ | ⟨p, ad, a, b, c, h, bx, hp4, rfl, q1, q2, q3, H, e1, e2, hb⟩
  · rw [q2]
    obtain ⟨o3, ho3, ho3'⟩ : ∃ o3 : Option Nat, fc_heapAt P a2 zx = some (o3, zx) ∧ True := by
      rcases pq_place hp a2 with ⟨r1, r2⟩ | ⟨p', ad', a', b', c', h', bx', _, _, r1, _⟩
      · exact ⟨_, r1, trivial⟩
      · exact ⟨_, r1, trivial⟩
    exact ⟨_, q1, _, ho3, fun _ => ⟨_, rfl, rfl, hI⟩, fun a3 e => by cases e⟩
  rcases pq_place hp a2 with ⟨r1, r2⟩ | ⟨p', ad', a', b', c', h', bx', hp4', rfl, r1, r2, r3, H', e1', e2', hb'⟩
  · refine ⟨_, q1, _, r1, fun e => (by cases e), fun a3 e => ⟨fun _ => ?_, fun a7 e => by cases e⟩⟩
    rw [q2]
    simp only [Option.bind_some, if_neg kq_10]
    rw [r2]; exact ⟨_, rfl, rfl, hI⟩
  refine ⟨_, q1, _, r1, fun e => (by cases e), fun a5 e => ⟨fun e => (by cases e), fun a7 e' => ?_⟩⟩
  cases e; cases e'
  rw [q2, show (1 : Int32) = nI 1 from rfl, pq_in0 (by omega)]
  simp only [Option.bind_some, if_neg (show ¬ nI 1 = 0 from kq_10), r2]
  have hl : 20 * p + 20 ≤ km_len 0 := by show 20 * p + 20 ≤ 80; omega
  have hl' : 20 * p' + 20 ≤ km_len 0 := by show 20 * p' + 20 ≤ 80; omega
  rcases pq_ix a3 (n := 2) (by omega) (by omega) with q | ⟨w, hw, rfl⟩
  · rw [if_pos q.2]
    refine ⟨fun _ => ⟨_, rfl, rfl, hI⟩, fun c1 => ⟨fun _ => ⟨_, rfl, rfl, hI⟩, fun c2 => absurd (q.2.resolve_left c1) c2⟩⟩
  have w0 : ¬ nI w < 0 := nI_pos (by omega)
  have w2 : ¬ nI 1 < nI w := nI_nlt (by omega) (by omega)
  rw [if_neg (not_or.mpr ⟨w0, w2⟩)]
  refine ⟨fun c1 => absurd c1 w0, fun _ => ⟨fun c1 => absurd c1 w2, fun _ => ?_⟩⟩
  rcases pq_isPlace a4 with ⟨s1, s2⟩ | ⟨to, hto, rfl, s1, s2⟩
  · rw [s2]
    exact ⟨_, s1, fun _ => ⟨_, rfl, rfl, hI⟩, fun n => absurd rfl n⟩
  refine ⟨_, s1, fun n => absurd n kq_10, fun _ => ⟨_, e1, _, e1', _, e2, _, e2', ?_⟩⟩
  have ha := H.1; have hb4 := H.2.1; have hc4 := H.2.2.1
  have ha' := H'.1; have hb4' := H'.2.1; have hc4' := H'.2.2.1
  rw [s2]
  simp only [Option.bind_some, if_neg kq_10]
  rw [pm_alike hp4 hp4' H H' hb hb', Option.bind_some]
  refine ⟨_, pq_same ha.2 hb4.2 hc4.2 ha'.2 hb4'.2 hc4'.2, fun n => ?_, fun n => ?_⟩
  · rw [if_pos n]; exact ⟨_, rfl, rfl, hI⟩
  rw [if_neg n]
  by_cases same : a = a' ∧ b = b' ∧ c = c'
  case neg => rw [decide_eq_false same] at n; exact absurd rfl n
  obtain ⟨rfl, rfl, rfl⟩ := same
  refine ⟨_, e1, _, e1, _, e1', ?_⟩
  -- the reference makes it
  have ref : ∀ W : Bool, (W = true ↔ w = 0) → ∃ zm2, ((fm_bring 0 4 (20 * nI p) 0 20 zm).bind fun o6 => lm_join_69 5000 (nI p') (nI w) (nI to) 4 o6) = some (nI to, zm2) ∧ pq_Inv cA zx P zm2 ∧ pq_mb (zm2.2.1 4) 0 a b c (pq_J W h h') := by
    intro W hW
    rw [show (20 : Int32) * nI p = nI (20 * p) from pk_mul 20 p, show (0 : Int32) = nI 0 from rfl, show (20 : Int32) = nI 20 from rfl, kq_bring (show 20 * p + 20 ≤ 80 by omega) (by decide) (by omega) (fun h => absurd h (by decide)), Option.bind_some]
    unfold lm_join_69
    obtain ⟨r, t1, g, rfl, t2, t3⟩ := kq_it (step := fun (s : (Int32 × Int32 × Int32 × Int32 × km_S)) => fm_join_69 (s.1) (s.2.1) (s.2.2.1) (s.2.2.2.1) (s.2.2.2.2))
      (fun k s => 4 ≤ k ∧ ∃ g, s = (nI p', nI w, nI to, nI k, (zm.1, va_up zm.2.1 4 g, zm.2.2)) ∧ (∀ t, t < 4 → g t = zm.2.1 0 (20 * p + t)) ∧ ∀ t, t < 16 → g (4 + t) = if 4 + t < k then nI (pq_J W h h' t) else nI (h t))
      (fun r => ∃ g, r = (nI to, (zm.1, va_up zm.2.1 4 g, zm.2.2)) ∧ (∀ t, t < 4 → g t = zm.2.1 0 (20 * p + t)) ∧ ∀ t, t < 16 → g (4 + t) = nI (pq_J W h h' t)) 20 (by
        rintro k s hk ⟨k4, g, rfl, h1, h2⟩
        obtain ⟨u, rfl⟩ : ∃ u, k = 4 + u := ⟨k - 4, by omega⟩
        have x1 := pq_hv_h H u (by omega); have x2 := pq_hv_h H' u (by omega)
        have gu : g (4 + u) = nI (h u) := by rw [h2 u (by omega), if_neg (by omega)]
        have fin : ∀ v : Nat, v = pq_J W h h' u → ∃ s', (some (.inl (nI p', nI w, nI to, nI (4 + u) + 1, (zm.1, va_up zm.2.1 4 (upd g (4 + u) (nI v)), zm.2.2))) : Option ((Int32 × Int32 × Int32 × Int32 × km_S) ⊕ (Int32 × km_S))) = some (.inl s') ∧ 4 ≤ 4 + u + 1 ∧ ∃ g, s' = (nI p', nI w, nI to, nI (4 + u + 1), (zm.1, va_up zm.2.1 4 g, zm.2.2)) ∧ (∀ t, t < 4 → g t = zm.2.1 0 (20 * p + t)) ∧ ∀ t, t < 16 → g (4 + t) = if 4 + t < 4 + u + 1 then nI (pq_J W h h' t) else nI (h t) := by
          intro v hv
          rw [nI_1]
          refine ⟨_, rfl, by omega, _, rfl, fun t ht => by rw [pk_un (by omega)]; exact h1 t ht, fun t ht => ?_⟩
          by_cases e : t = u
          · subst e; rw [pk_us, if_pos (by omega), hv]
          · rw [pk_un (by omega), h2 t ht]
            by_cases e2 : 4 + t < 4 + u
            · rw [if_pos e2, if_pos (by omega)]
            · rw [if_neg e2, if_neg (by omega)]
        dsimp only
        unfold fm_join_69
        rw [if_neg (show ¬ (20 : Int32) ≤ nI (4 + u) from nI_ge (b := 20) hk (by omega)), show (20 : Int32) * nI p' = nI (20 * p') from pk_mul 20 p', nI_add, pq_rdn (v := nI (h' u)) (by dsimp only; rw [va_up_ne _ _ (by decide), ← Nat.add_assoc]; exact hb'.2.2.2.2 u (by omega)) (show 20 * p' + (4 + u) < 80 by omega), Option.bind_some, pq_rdn (v := nI (h u)) (by dsimp only; rw [va_up_self, gu]) (show 4 + u < 20 by omega), Option.bind_some, Option.bind_some]
        unfold fm_join_131 fm_join_156
        rw [pq_rdn (v := nI (h u)) (by dsimp only; rw [va_up_self, gu]) (show 4 + u < 20 by omega), Option.bind_some, pq_wrg (show 4 + u < 20 by omega), Option.bind_some, pq_wrg (show 4 + u < 20 by omega), Option.bind_some, if_pos (show (0 : Int32) = 0 from rfl), if_neg kq_10]
        by_cases cw : w = 0
        · have W1 : W = true := hW.mpr cw
          rw [if_pos (show nI w = 0 by rw [cw]; rfl)]
          by_cases c3 : h' u ≤ h u
          · rw [if_pos (nI_le c3 (by omega))]
            exact fin (h u) (by unfold pq_J; rw [W1, if_pos rfl]; omega)
          · rw [if_neg (nI_ge (by omega) (by omega))]
            exact fin (h' u) (by unfold pq_J; rw [W1, if_pos rfl]; omega)
        · have W1 : W = false := by cases W; rfl; exact absurd (hW.mp rfl) cw
          rw [if_neg (nI_ne0 (by omega) (by omega))]
          by_cases c3 : h u ≤ h' u
          · rw [if_pos (nI_le c3 (by omega))]
            exact fin (h u) (by unfold pq_J; rw [W1, if_neg (by decide)]; omega)
          · rw [if_neg (nI_ge (by omega) (by omega))]
            exact fin (h' u) (by unfold pq_J; rw [W1, if_neg (by decide)]; omega)) (by
        rintro s ⟨_, g, rfl, h1, h2⟩
        exact ⟨_, rfl, g, rfl, h1, fun t ht => by rw [h2 t ht, if_pos (by omega)]⟩) 16 4 (nI p', nI w, nI to, 4, (zm.1, va_up zm.2.1 4 (va_cpy (zm.2.1 0) (zm.2.1 4) (20 * p) 0 20), zm.2.2)) 5000 (by omega) (by omega) ⟨by omega, _, rfl, fun t ht => by
          have := pq_cpy_in (f := zm.2.1 0) (g := zm.2.1 4) (i := 20 * p) (j := 0) (n := 20) (t := t) (by omega)
          rw [Nat.zero_add] at this; exact this, fun t ht => by
          have := pq_cpy_in (f := zm.2.1 0) (g := zm.2.1 4) (i := 20 * p) (j := 0) (n := 20) (t := 4 + t) (by omega)
          rw [Nat.zero_add] at this
          rw [this, if_neg (by omega), ← Nat.add_assoc]; exact hb.2.2.2.2 t ht⟩
    rw [t1]
    refine ⟨_, rfl, hI, ?_⟩
    dsimp only
    rw [va_up_self]
    refine ⟨by rw [t2 0 (by omega)]; exact hb.1, by rw [Nat.zero_add, t2 1 (by omega)]; exact hb.2.1, by rw [Nat.zero_add, t2 2 (by omega)]; exact hb.2.2.1, by rw [Nat.zero_add, t2 3 (by omega)]; exact hb.2.2.2.1, fun t ht => by rw [Nat.zero_add]; exact t3 t ht⟩
  have hx : ∀ Q, pq_ext P (P ++ Q) := fun Q => pq_ext_app
  have fin : ∀ (W : Bool), (W = true ↔ w = 0) → ∀ q, (∀ x ∈ P, x.1 ≠ q) → vc_put cA (some q) (nI to) zx (P ++ [((q, .inr (1, [.ref bx, .long (lN (pq_enc (pq_J W h h') 16))])) : Nat × va_E)]) (fun r33 u32z u32p => ∃ om, ((fm_bring 0 4 (20 * nI p) 0 20 zm).bind fun o6 => (lm_join_69 5000 (nI p') (nI w) (nI to) 4 o6).bind fun r7 => (fm_comes (r7.1) (r7.2)).bind fun o8 => some ((o8.1), (o8.2))) = some om ∧ r33 = om.1 ∧ pq_Inv cA u32z u32p om.2) := by
    intro W hW q hq
    obtain ⟨zm2, m1, m2, m3⟩ := ref W hW
    obtain ⟨n1, n2⟩ := pq_new1 (E := lN (pq_enc (pq_J W h h') 16)) hq e2
    refine pq_comes (pq_Inv_app _ m2) hto (pq_hv_J H H') n1 n2 m3 fun zx2 zm3 c1 c2 _ => ?_
    have : ((fm_bring 0 4 (20 * nI p) 0 20 zm).bind fun o6 => (lm_join_69 5000 (nI p') (nI w) (nI to) 4 o6).bind fun r7 => (fm_comes (r7.1) (r7.2)).bind fun o8 => some ((o8.1), (o8.2))) = some (nI (pq_sum 16 (pq_J W h h')), zm3) := by
      rw [← Option.bind_assoc, m1, Option.bind_some]
      dsimp only
      rw [c1]; rfl
    rw [this]
    exact ⟨_, rfl, rfl, c2⟩
  refine ⟨fun x3 => ?_, fun x3 => ?_⟩
  · have w0 : w = 0 := (nI_eq (b := 0) (by omega) (by omega)).mp x3
    exact ⟨_, e2, _, pq_joined true H H', fun q hq => ⟨_, (hx _).1 _ _ e1, fin true (by simp [w0]) q hq⟩⟩
  · have w0 : w ≠ 0 := fun e => x3 (by rw [e]; rfl)
    exact ⟨_, e2, _, pq_joined false H H', fun q hq => ⟨_, (hx _).1 _ _ e1, fin false (by simp [w0]) q hq⟩⟩
