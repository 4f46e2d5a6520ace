/-! the same, and symmetries -/
def pq_all : Nat → (Nat → Bool) → Bool
  | 0, _ => true
  | n + 1, p => pq_all n p && p n
theorem pq_all_iff {n : Nat} {p : Nat → Bool} : pq_all n p = true ↔ ∀ t, t < n → p t = true := by
  induction n with
  | zero => simp [pq_all]
  | succ n ih =>
    rw [pq_all, Bool.and_eq_true, ih]
    exact ⟨fun h t ht => if e : t = n then e ▸ h.2 else h.1 t (by omega), fun h => ⟨fun t ht => h t (by omega), h n (by omega)⟩⟩
theorem pm_isSame {z : km_S} {k0 k1 i j n : Nat} (h0 : i + n ≤ km_len k0) (h1 : j + n ≤ km_len k1) (hn : n < 5000) : fm_isSame k0 k1 (nI i) (nI j) (nI n) z = some (pq_b (pq_all n fun t => decide (z.2.1 k0 (i + t) = z.2.1 k1 (j + t))), z) := by
  unfold fm_isSame lm_isSame_6
  refine kq_runb (fun k => (nI i, nI j, nI n, pq_b (pq_all k fun t => decide (z.2.1 k0 (i + t) = z.2.1 k1 (j + t))), nI k, z)) n (pq_b (pq_all n fun t => decide (z.2.1 k0 (i + t) = z.2.1 k1 (j + t))), z) rfl hn (fun k hk => ?_) ?_ (if_pos (pq_b01 _))
  · dsimp only
    unfold fm_isSame_6 fm_isSame_37 fm_isSame_38
    rw [if_neg (nI_ge hk (by omega)), pq_all, nI_1]
    cases e : (pq_all k fun t => decide (z.2.1 k0 (i + t) = z.2.1 k1 (j + t)))
    · rw [if_pos (show pq_b false = 0 from rfl)]; rfl
    · rw [if_neg (show ¬ pq_b true = 0 by decide), nI_add, kq_rd (by omega) kq_km, Option.bind_some, nI_add, kq_rd (by omega) kq_km, Option.bind_some]
      by_cases c1 : z.2.1 k0 (i + k) = z.2.1 k1 (j + k)
      · rw [if_pos c1, decide_eq_true c1]; rfl
      · rw [if_neg c1, decide_eq_false c1]; rfl
  · dsimp only
    unfold fm_isSame_6
    rw [if_pos (nI_le (Nat.le_refl n) (by omega))]
def pq_sm (a b c : Nat) (h : Nat → Nat) (a' b' c' : Nat) (h' : Nat → Nat) : Bool := decide (a = a' ∧ b = b' ∧ c = c') && pq_all 16 fun t => decide (h t = h' t)
theorem pq_sm_iff {a b c a' b' c' : Nat} {h h' : Nat → Nat} : pq_sm a b c h a' b' c' h' = true ↔ (a = a' ∧ b = b' ∧ c = c' ∧ ∀ t, t < 16 → h t = h' t) := by
  unfold pq_sm
  rw [Bool.and_eq_true, decide_eq_true_eq, pq_all_iff]
  simp only [decide_eq_true_eq]
  exact ⟨fun q => ⟨q.1.1, q.1.2.1, q.1.2.2, q.2⟩, fun q => ⟨⟨q.1, q.2.1, q.2.2.1⟩, q.2.2.2⟩⟩
theorem pq_sm_not {a b c a' b' c' : Nat} {h h' : Nat → Nat} (n : ¬ (a = a' ∧ b = b' ∧ c = c' ∧ ∀ t, t < 16 → h t = h' t)) : pq_sm a b c h a' b' c' h' = false := by
  cases e : pq_sm a b c h a' b' c' h'
  · rfl
  · exact absurd (pq_sm_iff.mp e) n
theorem pq_sm_mb {f g : Nat → Int32} {o p a b c a' b' c' : Nat} {h h' : Nat → Nat} (F : pq_mb f o a b c h) (G : pq_mb g p a' b' c' h') (H : pq_hv a b c h) (H' : pq_hv a' b' c' h') : (pq_all 20 fun t => decide (f (o + t) = g (p + t))) = pq_sm a b c h a' b' c' h' := by
  have ha := H.1; have hb := H.2.1; have hc := H.2.2.1; have ha' := H'.1; have hb' := H'.2.1; have hc' := H'.2.2.1
  apply Bool.eq_iff_iff.mpr
  rw [pq_all_iff]
  rw [pq_sm_iff]
  constructor
  · intro Q
    have q1 := of_decide_eq_true (Q 1 (by omega))
    have q2 := of_decide_eq_true (Q 2 (by omega))
    have q3 := of_decide_eq_true (Q 3 (by omega))
    rw [F.2.1, G.2.1, nI_eq (by omega) (by omega)] at q1
    rw [F.2.2.1, G.2.2.1, nI_eq (by omega) (by omega)] at q2
    rw [F.2.2.2.1, G.2.2.2.1, nI_eq (by omega) (by omega)] at q3
    refine ⟨q1, q2, q3, fun t ht => ?_⟩
    have q4 := of_decide_eq_true (Q (4 + t) (by omega))
    have := pq_hv_h H t ht; have := pq_hv_h H' t ht
    rw [← Nat.add_assoc, ← Nat.add_assoc, F.2.2.2.2 t ht, G.2.2.2.2 t ht, nI_eq (by omega) (by omega)] at q4
    exact q4
  · rintro ⟨q1, q2, q3, q4⟩ t ht
    apply decide_eq_true
    by_cases e0 : t = 0
    · subst e0; exact F.1.trans G.1.symm
    by_cases e1 : t = 1
    · subst e1; rw [F.2.1, G.2.1, q1]
    by_cases e2 : t = 2
    · subst e2; rw [F.2.2.1, G.2.2.1, q2]
    by_cases e3 : t = 3
    · subst e3; rw [F.2.2.2.1, G.2.2.2.1, q3]
    obtain ⟨u, rfl⟩ : ∃ u, t = 4 + u := ⟨t - 4, by omega⟩
    rw [← Nat.add_assoc, ← Nat.add_assoc, F.2.2.2.2 u (by omega), G.2.2.2.2 u (by omega), q4 u (by omega)]
theorem pq_enc_inj {h g : Nat → Nat} (Hh : ∀ t, t < 16 → h t ≤ 4) (Hg : ∀ t, t < 16 → g t ≤ 4) (e : pq_enc h 16 = pq_enc g 16) : ∀ t, t < 16 → h t = g t := by
  intro t ht
  have h1 := pq_enc_dig (h := h) (n := 16) (fun t ht => Nat.lt_of_le_of_lt (Hh t ht) (by decide)) t ht
  have h2 := pq_enc_dig (h := g) (n := 16) (fun t ht => Nat.lt_of_le_of_lt (Hg t ht) (by decide)) t ht
  rw [← h1, ← h2, e]
theorem pq_enc_3 {h : Nat → Nat} : ∀ {n : Nat}, (∀ t, t < n → h t ≤ 4) → 3 * pq_enc h n < 16 ^ n
  | 0, _ => by simp [pq_enc]
  | n + 1, H => by
    have h1 := pq_enc_3 (n := n) fun t ht => H t (by omega)
    have h2 := H n (by omega)
    rw [pq_enc, Nat.pow_succ]; omega
theorem pq_enc_lt63 {h : Nat → Nat} (Hh : ∀ t, t < 16 → h t ≤ 4) : pq_enc h 16 < 2 ^ 63 := by
  have h1 := pq_enc_3 Hh
  have h2 : 16 ^ 16 < 3 * 2 ^ 63 := by decide
  omega
theorem pq_cmp {h g : Nat → Nat} (Hh : ∀ t, t < 16 → h t ≤ 4) (Hg : ∀ t, t < 16 → g t ≤ 4) : (lg_cmp (lN (pq_enc h 16)) (lN (pq_enc g 16)) = 0) ↔ ∀ t, t < 16 → h t = g t := by
  rw [lg_cmp_eq, pk_lEQ (pq_enc_lt63 Hh) (pq_enc_lt63 Hg)]
  exact ⟨pq_enc_inj Hh Hg, fun q => pq_enc_eq q⟩
def pq_sy (w a b c : Nat) (h : Nat → Nat) : Bool := if w < 3 then pq_sm a b c h (pq_ta w a b) (pq_tb w a b c) (pq_tc w a c) (pq_th w a b c h) else pq_sm a b c h b a c (pq_C b a c (pq_T h))
theorem pq_hasSym {w a b c : Nat} {h : Nat → Nat} (hw : w < 4) (H : pq_hv a b c h) : fx_hasSymmetry (nI a) (nI b) (nI c) (lN (pq_enc h 16)) (nI w) = some (pq_b (pq_sy w a b c h)) := by
  have ha := H.1; have hb := H.2.1; have hc := H.2.2.1
  have P1 : ∀ {p : Bool} {z : Option Int32}, p = true → some 1 = z → z = some (pq_b p) := fun e1 e2 => by rw [e1, ← e2]; rfl
  have P0 : ∀ {p : Bool} {z : Option Int32}, p = false → some 0 = z → z = some (pq_b p) := fun e1 e2 => by rw [e1, ← e2]; rfl
  unfold fx_hasSymmetry
  have : w = 0 ∨ w = 1 ∨ w = 2 ∨ w = 3 := by omega
  have eab : nI a = nI b ↔ a = b := nI_eq (by omega) (by omega)
  have ebc : nI b = nI c ↔ b = c := nI_eq (by omega) (by omega)
  rcases this with rfl | rfl | rfl | rfl
  · rw [if_pos (show nI 0 = 0 from rfl), pq_transposed H, Option.bind_some]
    have e := pq_cmp (pq_hv_h H) (pq_hv_h (pq_hv_T H))
    by_cases c1 : a = b
    · rw [if_pos (eab.mpr c1)]
      by_cases c2 : ∀ t, t < 16 → h t = pq_T h t
      · rw [if_pos (e.mpr c2)]
        exact P1 (pq_sm_iff.mpr ⟨c1, c1.symm, rfl, c2⟩) rfl
      · rw [if_neg (mt e.mp c2)]
        exact P0 (pq_sm_not fun q => c2 q.2.2.2) rfl
    · rw [if_neg (mt eab.mp c1)]
      exact P0 (pq_sm_not fun q => c1 q.1) rfl
  · rw [if_neg (show ¬ nI 1 = 0 by decide), if_pos (show nI 1 = 1 from rfl), pq_rotated H, Option.bind_some]
    have e := pq_cmp (pq_hv_h H) (pq_hv_h (pq_hv_R H))
    by_cases c1 : a = b
    · rw [if_pos (eab.mpr c1)]
      by_cases c3 : b = c
      · rw [if_pos (ebc.mpr c3)]
        by_cases c2 : ∀ t, t < 16 → h t = pq_R a h t
        · rw [if_pos (e.mpr c2)]
          exact P1 (pq_sm_iff.mpr ⟨c1, c3, (c1.trans c3).symm, c2⟩) rfl
        · rw [if_neg (mt e.mp c2)]
          exact P0 (pq_sm_not fun q => c2 q.2.2.2) rfl
      · rw [if_neg (mt ebc.mp c3)]
        exact P0 (pq_sm_not fun q => c3 q.2.1) rfl
    · rw [if_neg (mt eab.mp c1)]
      exact P0 (pq_sm_not fun q => c1 q.1) rfl
  · rw [if_neg (show ¬ nI 2 = 0 by decide), if_neg (show ¬ nI 2 = 1 by decide), if_pos (show nI 2 = 2 from rfl), pq_complemented H, Option.bind_some]
    have e := pq_cmp (pq_hv_h H) (pq_hv_h (pq_hv_C H))
    by_cases c2 : ∀ t, t < 16 → h t = pq_C a b c h t
    · rw [if_pos (e.mpr c2)]
      exact P1 (pq_sm_iff.mpr ⟨rfl, rfl, rfl, c2⟩) rfl
    · rw [if_neg (mt e.mp c2)]
      exact P0 (pq_sm_not fun q => c2 q.2.2.2) rfl
  · rw [if_neg (show ¬ nI 3 = 0 by decide), if_neg (show ¬ nI 3 = 1 by decide), if_neg (show ¬ nI 3 = 2 by decide)]
    by_cases c1 : a = b
    · subst c1
      rw [if_pos rfl, pq_transposed H, Option.bind_some, pq_complemented (pq_hv_T H), Option.bind_some]
      have e := pq_cmp (pq_hv_h H) (pq_hv_h (pq_hv_C (pq_hv_T H)))
      by_cases c2 : ∀ t, t < 16 → h t = pq_C a a c (pq_T h) t
      · rw [if_pos (e.mpr c2)]
        exact P1 (pq_sm_iff.mpr ⟨rfl, rfl, rfl, c2⟩) rfl
      · rw [if_neg (mt e.mp c2)]
        exact P0 (pq_sm_not fun q => c2 q.2.2.2) rfl
    · rw [if_neg (mt eab.mp c1)]
      exact P0 (pq_sm_not fun q => c1 q.1) rfl
def pq_acc (s : Nat → Bool) : Nat → Int32
  | 0 => 0
  | k + 1 => if s k then pq_acc s k ||| (1 : Int32) <<< (nI k &&& 31) else pq_acc s k
theorem pq_symmetries {a b c : Nat} {h : Nat → Nat} (H : pq_hv a b c h) : fx_symmetries (nI a) (nI b) (nI c) (lN (pq_enc h 16)) = some (pq_acc (fun w => pq_sy w a b c h) 4) := by
  unfold fx_symmetries lx_symmetries_5
  refine kq_runb (fun k => (lN (pq_enc h 16), pq_acc (fun w => pq_sy w a b c h) k, nI k)) 4 _ rfl (by omega) (fun k hk => ?_) rfl rfl
  dsimp only
  unfold fx_symmetries_5 fx_symmetries_28
  rw [if_neg (show ¬ (4 : Int32) ≤ nI k from nI_ge (b := 4) hk (by omega)), pq_hasSym hk H, Option.bind_some, nI_1, pq_acc]
  cases pq_sy k a b c h
  · rw [if_pos (show pq_b false = 0 from rfl)]; rfl
  · rw [if_neg (show ¬ pq_b true = 0 by decide)]; rfl
/-- only these arrays may differ -/
def pq_fr (L : List Nat) (z z' : km_S) : Prop := z'.1 = z.1 ∧ z'.2.2 = z.2.2 ∧ ∀ k, k ∉ L → z'.2.1 k = z.2.1 k
theorem pq_fr_r {L : List Nat} {z : km_S} : pq_fr L z z := ⟨rfl, rfl, fun _ _ => rfl⟩
theorem pq_fr_t {L : List Nat} {z z' z'' : km_S} (h : pq_fr L z z') (h' : pq_fr L z' z'') : pq_fr L z z'' := ⟨h'.1.trans h.1, h'.2.1.trans h.2.1, fun k hk => (h'.2.2 k hk).trans (h.2.2 k hk)⟩
theorem pq_fr_u {L : List Nat} {z : km_S} {k : Nat} {g : Nat → Int32} (h : k ∈ L) : pq_fr L z (z.1, va_up z.2.1 k g, z.2.2) := ⟨rfl, rfl, fun j hj => va_up_ne _ _ fun e => hj (e ▸ h)⟩
theorem pm_symmetries {z : km_S} {k0 o a b c : Nat} {h : Nat → Nat} (H : pq_hv a b c h) (hb : pq_mb (z.2.1 k0) o a b c h) (hl0 : o + 20 ≤ km_len k0) (h5 : k0 ≠ 5) (h8 : k0 ≠ 8) :
    ∃ z', fm_symmetries k0 (nI o) z = some (pq_acc (fun w => pq_sy w a b c h) 4, z') ∧ pq_fr [5, 8] z z' := by
  have keep : ∀ {z' : km_S}, pq_fr [5, 8] z z' → pq_mb (z'.2.1 k0) o a b c h := fun f => by rw [f.2.2 k0 (by simp [h5, h8])]; exact hb
  unfold fm_symmetries lm_symmetries_5
  obtain ⟨r, p1, z1, rfl, p2⟩ := kq_it0 (step := fun (s : (Int32 × Int32 × Int32 × km_S)) => fm_symmetries_5 k0 (s.1) (s.2.1) (s.2.2.1) (s.2.2.2))
    (fun k s => ∃ z', s = (nI o, pq_acc (fun w => pq_sy w a b c h) k, nI k, z') ∧ pq_fr [5, 8] z z')
    (fun r => ∃ z', r = (nI o, pq_acc (fun w => pq_sy w a b c h) 3, z') ∧ pq_fr [5, 8] z z') 3 (by omega) (by
      rintro k s hk ⟨z', rfl, f⟩
      obtain ⟨g, q1, q2, q3⟩ := pm_turns hk H (keep f) hl0 (k1 := 5) (by decide) h5
      have f2 : pq_fr [5, 8] z (z'.1, va_up z'.2.1 5 g, z'.2.2) := pq_fr_t f (pq_fr_u (by decide))
      have m5 : pq_mb (((z'.1, va_up z'.2.1 5 g, z'.2.2) : km_S).2.1 5) 0 (pq_ta k a b) (pq_tb k a b c) (pq_tc k a c) (pq_th k a b c h) := by
        show pq_mb (va_up z'.2.1 5 g 5) 0 _ _ _ _
        rw [va_up_self]; exact q2
      refine ⟨(nI o, pq_acc (fun w => pq_sy w a b c h) (k + 1), nI (k + 1), (z'.1, va_up z'.2.1 5 g, z'.2.2)), ?_, _, rfl, f2⟩
      dsimp only
      unfold fm_symmetries_5 fm_symmetries_46
      rw [if_neg (show ¬ (3 : Int32) ≤ nI k from nI_ge (b := 3) hk (by omega)), q1, Option.bind_some, show (0 : Int32) = nI 0 from rfl, show (20 : Int32) = nI 20 from rfl, pm_isSame hl0 (by decide) (by omega), Option.bind_some, pq_sm_mb (keep f2) m5 H (pq_hv_t hk H), pq_acc, nI_1]
      have e : pq_sy k a b c h = pq_sm a b c h (pq_ta k a b) (pq_tb k a b c) (pq_tc k a c) (pq_th k a b c h) := by unfold pq_sy; rw [if_pos hk]
      rw [← e]
      cases pq_sy k a b c h
      · rw [if_pos (show pq_b false = nI 0 from rfl)]
        rw [show pq_acc (fun w => pq_sy w a b c h) k ||| nI 0 = pq_acc (fun w => pq_sy w a b c h) k from Int32.or_zero]; rfl
      · rw [if_neg (show ¬ pq_b true = nI 0 by decide)]; rfl) (by
      rintro s ⟨z', rfl, f⟩
      exact ⟨_, rfl, z', rfl, f⟩)
    (s := (nI o, 0, 0, z)) ⟨z, rfl, pq_fr_r⟩
  rw [p1, Option.bind_some]
  dsimp only
  obtain ⟨g, q1, q2, q3⟩ := pm_turns (w := 0) (by decide) H (keep p2) hl0 (k1 := 5) (by decide) h5
  have f2 : pq_fr [5, 8] z (z1.1, va_up z1.2.1 5 g, z1.2.2) := pq_fr_t p2 (pq_fr_u (by decide))
  have m5 : pq_mb (((z1.1, va_up z1.2.1 5 g, z1.2.2) : km_S).2.1 5) 0 b a c (pq_T h) := by
    show pq_mb (va_up z1.2.1 5 g 5) 0 _ _ _ _
    rw [va_up_self]; exact q2
  rw [show (0 : Int32) = nI 0 from rfl, q1, Option.bind_some]
  obtain ⟨g8, r1, r2, r3⟩ := pm_turns (w := 2) (by decide) (pq_hv_T H) m5 (by decide) (k1 := 8) (by decide) (by decide)
  have f3 := pq_fr_t f2 (pq_fr_u (L := [5, 8]) (k := 8) (g := g8) (by decide))
  rw [show (2 : Int32) = nI 2 from rfl, r1, Option.bind_some, show (20 : Int32) = nI 20 from rfl, pm_isSame hl0 (by decide) (by omega), Option.bind_some]
  have m8 : pq_mb (va_up (va_up z1.2.1 5 g) 8 g8 8) 0 b a c (pq_C b a c (pq_T h)) := by
    rw [va_up_self]; exact r2
  rw [pq_sm_mb (keep f3) m8 H (pq_hv_C (pq_hv_T H))]
  refine ⟨_, ?_, f3⟩
  rw [show pq_acc (fun w => pq_sy w a b c h) 4 = if pq_sy 3 a b c h then pq_acc (fun w => pq_sy w a b c h) 3 ||| 8 else pq_acc (fun w => pq_sy w a b c h) 3 from rfl]
  unfold fm_symmetries_99
  have e : pq_sy 3 a b c h = pq_sm a b c h b a c (pq_C b a c (pq_T h)) := by unfold pq_sy; rw [if_neg (by decide)]
  rw [← e]
  cases pq_sy 3 a b c h
  · rw [if_pos (show pq_b false = nI 0 from rfl)]
    rw [show pq_acc (fun w => pq_sy w a b c h) 3 ||| nI 0 = pq_acc (fun w => pq_sy w a b c h) 3 from Int32.or_zero]; rfl
  · rw [if_neg (show ¬ pq_b true = nI 0 by decide)]; rfl
