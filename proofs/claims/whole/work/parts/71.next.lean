/-! THE NEXT HEAP -/
theorem pr_neg {x : Nat} (h0 : 0 < x) (hx : x < 2 ^ 64) : -(lN x) = lN (2 ^ 64 - x) := by
  apply wb_inj
  rw [Int64.toBitVec_neg, wb_tb, wb_tb]
  apply BitVec.eq_of_toNat_eq
  rw [BitVec.toNat_neg, BitVec.toNat_ofNat, BitVec.toNat_ofNat, Nat.mod_eq_of_lt hx]
theorem pr_andneg {E s : Nat} (hE : E < 2 ^ 64) (hs : s < 64) : lN E &&& -(lN (2 ^ s)) = lN (E / 2 ^ s * 2 ^ s) := by
  have h1 : 2 ^ s < 2 ^ 64 := Nat.pow_lt_pow_right (by decide) hs
  have h0 := Nat.two_pow_pos s
  rw [pr_neg h0 h1, wb_and hE (by omega)]
  congr 1
  apply Nat.eq_of_testBit_eq
  intro i
  have e2 : 2 ^ 64 - 2 ^ s = 2 ^ 64 - (2 ^ s - 1 + 1) := by omega
  rw [← Nat.shiftRight_eq_div_pow, ← Nat.shiftLeft_eq, Nat.testBit_shiftLeft, Nat.testBit_shiftRight, Nat.testBit_and, e2, Nat.testBit_two_pow_sub_succ (by omega), Nat.testBit_two_pow_sub_one]
  by_cases c1 : s ≤ i
  · rw [show s + (i - s) = i by omega, decide_eq_false (show ¬ i < s by omega), decide_eq_true (show i ≥ s from c1)]
    by_cases c2 : i < 64
    · rw [decide_eq_true c2]; simp
    · have : E.testBit i = false := Nat.testBit_lt_two_pow (Nat.lt_of_lt_of_le hE (Nat.pow_le_pow_right (by decide) (by omega)))
      rw [this]; simp
  · rw [decide_eq_true (show i < s by omega), decide_eq_false (show ¬ i ≥ s by omega)]; simp
/-- where two numbers of heights differ first -/
theorem pr_enc_inj {h g : Nat → Nat} : ∀ {n : Nat}, (∀ t, t < n → h t < 16) → (∀ t, t < n → g t < 16) → pq_enc h n = pq_enc g n → ∀ t, t < n → h t = g t
  | 0, _, _, _, t, ht => absurd ht (by omega)
  | n + 1, H, G, e, t, ht => by
    have h1 := H n (by omega); have g1 := G n (by omega)
    rw [pq_enc, pq_enc] at e
    by_cases c : t = n
    · subst c; omega
    · exact pr_enc_inj (n := n) (fun t ht => H t (by omega)) (fun t ht => G t (by omega)) (by omega) t (by omega)
theorem pr_enc_first {h f : Nat → Nat} : ∀ {n : Nat}, (∀ t, t < n → h t < 16) → (∀ t, t < n → f t < 16) → pq_enc h n < pq_enc f n → ∃ t, t < n ∧ (∀ s, s < t → f s = h s) ∧ h t < f t
  | 0, _, _, e => by simp [pq_enc] at e
  | n + 1, H, F, e => by
    have h1 := H n (by omega); have f1 := F n (by omega)
    rw [pq_enc, pq_enc] at e
    rcases Nat.lt_trichotomy (pq_enc h n) (pq_enc f n) with c | c | c
    · obtain ⟨t, q1, q2, q3⟩ := pr_enc_first (n := n) (fun t ht => H t (by omega)) (fun t ht => F t (by omega)) c
      exact ⟨t, by omega, q2, q3⟩
    · exact ⟨n, by omega, fun s hs => (pr_enc_inj (n := n) (fun t ht => H t (by omega)) (fun t ht => F t (by omega)) c s hs).symm, by omega⟩
    · omega
theorem pr_enc_less {h f : Nat → Nat} : ∀ {n t : Nat}, (∀ t, t < n → h t < 16) → t < n → (∀ s, s < t → f s = h s) → h t < f t → pq_enc h n < pq_enc f n
  | 0, t, _, ht, _, _ => absurd ht (by omega)
  | n + 1, t, H, ht, e, l => by
    have h1 := H n (by omega)
    rw [pq_enc, pq_enc]
    by_cases c : t = n
    · subst c
      have := pq_enc_eq (h := f) (g := h) (n := t) e
      omega
    · have := pr_enc_less (n := n) (fun t ht => H t (by omega)) (show t < n by omega) e l
      omega
def pr_nx (h : Nat → Nat) (t0 s : Nat) : Nat := if s < t0 then h s else if s = t0 then h s + 1 else 0
theorem pr_nx_enc {h : Nat → Nat} (H : ∀ t, t < 16 → h t < 16) {t0 : Nat} (ht : t0 < 16) : pq_enc (pr_nx h t0) (t0 + 1) = pq_enc h (t0 + 1) + 1 ∧ pq_enc (pr_nx h t0) 16 = (pq_enc h (t0 + 1) + 1) * 16 ^ (15 - t0) ∧ pq_enc h 16 / 16 ^ (15 - t0) = pq_enc h (t0 + 1) := by
  have e1 : pq_enc (pr_nx h t0) (t0 + 1) = pq_enc h (t0 + 1) + 1 := by
    rw [pq_enc, pq_enc, pq_enc_eq (h := pr_nx h t0) (g := h) (n := t0) fun s hs => if_pos hs, show pr_nx h t0 t0 = h t0 + 1 by unfold pr_nx; rw [if_neg (by omega), if_pos rfl]]; omega
  refine ⟨e1, ?_, ?_⟩
  · have e := pr_enc_split (pr_nx h t0) (t0 + 1) (15 - t0)
    rw [show t0 + 1 + (15 - t0) = 16 by omega, e1] at e
    have z : pq_enc (fun t => pr_nx h t0 (t0 + 1 + t)) (15 - t0) = 0 := by
      have q : ∀ n, pq_enc (fun _ => 0) n = 0 := fun n => by
        induction n with
        | zero => rfl
        | succ n ih => rw [pq_enc, ih]
      rw [pq_enc_eq (g := fun _ => 0) fun t _ => by unfold pr_nx; rw [if_neg (by omega), if_neg (by omega)]]
      exact q _
    rw [e, z, Nat.add_zero]
  · have e := pr_enc_split h (t0 + 1) (15 - t0)
    rw [show t0 + 1 + (15 - t0) = 16 by omega] at e
    have l := pq_enc_lt (h := fun t => h (t0 + 1 + t)) (n := 15 - t0) fun t ht => H _ (by omega)
    rw [e, Nat.mul_comm, Nat.mul_add_div (Nat.pow_pos (by decide)), Nat.div_eq_of_lt l, Nat.add_zero]
/-- following(cubes) -/
theorem pr_following {a b c : Nat} {h : Nat → Nat} (H : pq_hv a b c h) :
    (∃ i j, i < a ∧ j < b ∧ pq_grow a b c h i j = true ∧ (∀ i' j', i' < a → j' < b → 4 * i + j < 4 * i' + j' → pq_grow a b c h i' j' = false) ∧ fx_following (nI a) (nI b) (nI c) (lN (pq_enc h 16)) = some (lN (pq_enc (pr_nx h (4 * i + j)) 16))) ∨
    ((∀ i j, i < a → j < b → pq_grow a b c h i j = false) ∧ fx_following (nI a) (nI b) (nI c) (lN (pq_enc h 16)) = some (lN (pq_enc h 16))) := by
  have ha := H.1; have hb := H.2.1
  have H16 : ∀ t, t < 16 → h t < 16 := fun t ht => Nat.lt_of_le_of_lt (pq_hv_h H t ht) (by decide)
  generalize hX : lN (pq_enc h 16) = X
  have gr : ∀ i j, i < a → j < b → fx_growsAt (nI a) (nI b) (nI c) X (nI i) (nI j) = some (pq_b (pq_grow a b c h i j)) := fun i j hi hj => by
    rw [← hX]; exact pq_grows H (by omega) (by omega)
  have inner : ∀ i, i < a → ∃ r, lx_following_19 (nI a) (nI b) (nI c) 5000 X (nI i) (nI b - 1) = some r ∧ ((∃ j, j < b ∧ pq_grow a b c h i j = true ∧ (∀ j', j < j' → j' < b → pq_grow a b c h i j' = false) ∧ r = .inl (X, nI i, nI j)) ∨ ((∀ j, j < b → pq_grow a b c h i j = false) ∧ r = .inr (X, nI i))) := by
    intro i hi
    unfold lx_following_19
    refine kq_ite0 (fun t s => s = (X, nI i, nI (b - t) - 1) ∧ ∀ j', b - t ≤ j' → j' < b → pq_grow a b c h i j' = false) _ b (by omega) ?_ ?_ ⟨rfl, fun j' h1 h2 => absurd h2 (by omega)⟩
    · rintro t s ht ⟨rfl, g1⟩
      dsimp only
      unfold fx_following_19
      rw [show nI (b - t) - 1 = nI (b - 1 - t) by rw [show b - t = (b - 1 - t) + 1 by omega, nI_pred], if_neg (nI_pos (by omega)), gr i _ hi (by omega), Option.bind_some]
      cases e : pq_grow a b c h i (b - 1 - t)
      · rw [if_pos (show pq_b false = 0 from rfl)]
        refine Or.inl ⟨_, rfl, ?_, fun j' h1 h2 => ?_⟩
        · rw [pr_m1, show b - 1 - t = b - (t + 1) by omega]
        · by_cases c1 : j' = b - 1 - t
          · rw [c1]; exact e
          · exact g1 j' (by omega) h2
      · rw [if_neg (show ¬ pq_b true = 0 by decide)]
        exact Or.inr ⟨_, rfl, Or.inl ⟨b - 1 - t, by omega, e, fun j' h1 h2 => g1 j' (by omega) h2, rfl⟩⟩
    · rintro s ⟨rfl, g1⟩
      dsimp only
      unfold fx_following_19
      rw [Nat.sub_self, if_pos (by decide)]
      exact ⟨_, rfl, Or.inr ⟨fun j hj => g1 j (by omega) hj, rfl⟩⟩
  have outer : ∃ r, lx_following_7 (nI a) (nI b) (nI c) 5000 X (nI a - 1) = some r ∧ ((∃ i j, i < a ∧ j < b ∧ pq_grow a b c h i j = true ∧ (∀ j', j < j' → j' < b → pq_grow a b c h i j' = false) ∧ (∀ i', i < i' → i' < a → ∀ j', j' < b → pq_grow a b c h i' j' = false) ∧ r = .inl (X, nI i, nI j)) ∨ ((∀ i, i < a → ∀ j, j < b → pq_grow a b c h i j = false) ∧ r = .inr X)) := by
    unfold lx_following_7
    refine kq_ite0 (fun t s => s = (X, nI (a - t) - 1) ∧ ∀ i', a - t ≤ i' → i' < a → ∀ j', j' < b → pq_grow a b c h i' j' = false) _ a (by omega) ?_ ?_ ⟨rfl, fun j' h1 h2 => absurd h2 (by omega)⟩
    · rintro t s ht ⟨rfl, g1⟩
      dsimp only
      unfold fx_following_7
      rw [show nI (a - t) - 1 = nI (a - 1 - t) by rw [show a - t = (a - 1 - t) + 1 by omega, nI_pred], if_neg (nI_pos (by omega))]
      obtain ⟨r, r1, r2⟩ := inner (a - 1 - t) (by omega)
      rw [r1, Option.bind_some]
      rcases r2 with ⟨j, j1, j2, j3, rfl⟩ | ⟨j1, rfl⟩
      · exact Or.inr ⟨_, rfl, Or.inl ⟨a - 1 - t, j, by omega, j1, j2, j3, fun i' h1 h2 => g1 i' (by omega) h2, rfl⟩⟩
      · refine Or.inl ⟨_, rfl, ?_, fun i' h1 h2 => ?_⟩
        · dsimp only
          rw [pr_m1, show a - 1 - t = a - (t + 1) by omega]
        · by_cases c1 : i' = a - 1 - t
          · rw [c1]; exact j1
          · exact g1 i' (by omega) h2
    · rintro s ⟨rfl, g1⟩
      dsimp only
      unfold fx_following_7
      rw [Nat.sub_self, if_pos (by decide)]
      exact ⟨_, rfl, Or.inr ⟨fun i hi => g1 i (by omega) hi, rfl⟩⟩
  obtain ⟨r, r1, r2⟩ := outer
  unfold fx_following
  rw [r1, Option.bind_some]
  rcases r2 with ⟨i, j, i1, j1, g, g1, g2, rfl⟩ | ⟨g, rfl⟩
  · refine Or.inl ⟨i, j, i1, j1, g, fun i' j' h1 h2 h3 => ?_, ?_⟩
    · by_cases c1 : i' = i
      · subst c1; exact g1 j' (by omega) h2
      · exact g2 i' (by omega) h1 j' h2
    · dsimp only [kj_se]
      rw [pq_cube (by omega) (by omega), Option.bind_some, ← hX]
      have p : (16 : Nat) ^ (15 - (4 * i + j)) = 2 ^ (4 * (15 - (4 * i + j))) := by
        rw [show (16 : Nat) = 2 ^ 4 from rfl, ← Nat.pow_mul]
      obtain ⟨_, n2, n3⟩ := pr_nx_enc H16 (show 4 * i + j < 16 by omega)
      rw [n2, p, pr_andneg (pq_hv_E H) (by omega), ← p, n3, lN_add, Nat.add_mul, Nat.one_mul]
  · exact Or.inr ⟨fun i j hi hj => g i hi j hj, rfl⟩
/-- a heap that grows at its last place that can, with nothing behind it, is a heap -/
theorem pr_nx_hv {a b c : Nat} {h : Nat → Nat} (H : pq_hv a b c h) {i j : Nat} (hi : i < a) (hj : j < b) (hg : pq_grow a b c h i j = true) : pq_hv a b c (pr_nx h (4 * i + j)) := by
  have U := (pq_hv_u (w := true) H hi hj hg).2
  obtain ⟨ha, hb, hc, hm, hh⟩ := U
  refine ⟨ha, hb, hc, hm, fun i' j' hi' hj' => ?_⟩
  have q := hh i' j' hi' hj'
  have e : ∀ s, s ≤ 4 * i + j → pr_nx h (4 * i + j) s = pq_u h (4 * i + j) (pq_cv true (h (4 * i + j))) s := fun s hs => by
    unfold pr_nx pq_u pq_cv
    by_cases c1 : s = 4 * i + j
    · rw [if_neg (by omega), if_pos c1, if_pos c1, if_pos rfl, c1]
    · rw [if_pos (by omega), if_neg c1]
  have z : ∀ s, 4 * i + j < s → pr_nx h (4 * i + j) s = 0 := fun s hs => by
    unfold pr_nx; rw [if_neg (by omega), if_neg (by omega)]
  by_cases c1 : 4 * i' + j' ≤ 4 * i + j
  · rw [e _ c1]
    refine ⟨q.1, q.2.1, fun n => ?_, fun n => ?_⟩
    · by_cases c2 : 4 * (i' + 1) + j' ≤ 4 * i + j
      · rw [e _ c2]; exact q.2.2.1 n
      · rw [z _ (by omega)]; omega
    · by_cases c2 : 4 * i' + (j' + 1) ≤ 4 * i + j
      · rw [e _ c2]; exact q.2.2.2 n
      · rw [z _ (by omega)]; omega
  · rw [z _ (by omega), z _ (by omega), z _ (by omega)]
    exact ⟨by omega, fun _ => rfl, fun _ => by omega, fun _ => by omega⟩
/-- the heap with the next number follows -/
theorem pr_hn_next {a b c n : Nat} (ha : 1 ≤ a ∧ a ≤ 4) (o : pr_ok b c) (hm : a * b * c ≤ 48) (hn : n + 1 < pq_U b c a (pr_N b c - 1)) : fx_following (nI a) (nI b) (nI c) (lN (pq_enc (pr_hn b c a n) 16)) = some (lN (pq_enc (pr_hn b c a (n + 1)) 16)) := by
  have H := pr_hn_hv ha o hm (show n < pq_U b c a (pr_N b c - 1) by omega)
  have F := pr_hn_hv ha o hm hn
  have lt := pr_hn_lt ha o hm (show n < n + 1 by omega) hn
  have H16 : ∀ t, t < 16 → pr_hn b c a n t < 16 := fun t ht => Nat.lt_of_le_of_lt (pq_hv_h H t ht) (by decide)
  have F16 : ∀ t, t < 16 → pr_hn b c a (n + 1) t < 16 := fun t ht => Nat.lt_of_le_of_lt (pq_hv_h F t ht) (by decide)
  generalize hh : pr_hn b c a n = h at *
  generalize hf : pr_hn b c a (n + 1) = f at *
  obtain ⟨t, t1, t2, t3⟩ := pr_enc_first H16 F16 lt
  have ti : t / 4 < a ∧ t % 4 < b := by
    by_cases q : t / 4 < a ∧ t % 4 < b
    · exact q
    · have := (F.2.2.2.2 (t / 4) (t % 4) (by omega) (by omega)).2.1 q
      rw [show 4 * (t / 4) + t % 4 = t by omega] at this
      omega
  have tg : pq_grow a b c h (t / 4) (t % 4) = true := by
    have et : 4 * (t / 4) + t % 4 = t := by omega
    have Ft := F.2.2.2.2 (t / 4) (t % 4) (by omega) (by omega)
    unfold pq_grow
    rw [pq_g_in ti.1 ti.2, et]
    apply decide_eq_true
    rw [et] at Ft
    refine ⟨?_, ?_⟩
    · unfold pq_up
      split
      · omega
      · rename_i c0
        rw [pq_g_in (by omega) ti.2]
        have q := (F.2.2.2.2 (t / 4 - 1) (t % 4) (by omega) (by omega)).2.2.1 (by omega)
        rw [show 4 * (t / 4 - 1 + 1) + t % 4 = t by omega, t2 (4 * (t / 4 - 1) + t % 4) (by omega)] at q
        omega
    · unfold pq_lf
      split
      · omega
      · rename_i c0
        rw [pq_g_in ti.1 (by omega)]
        have q := (F.2.2.2.2 (t / 4) (t % 4 - 1) (by omega) (by omega)).2.2.2 (by omega)
        rw [show 4 * (t / 4) + (t % 4 - 1 + 1) = t by omega, t2 (4 * (t / 4) + (t % 4 - 1)) (by omega)] at q
        omega
  rcases pr_following H with ⟨i, j, i1, j1, g, g1, e⟩ | ⟨g, _⟩
  · rw [e]
    have le0 : t ≤ 4 * i + j := by
      by_cases q : 4 * i + j < 4 * (t / 4) + t % 4
      · have := g1 _ _ ti.1 ti.2 q
        rw [tg] at this; cases this
      · omega
    have ht0 : 4 * i + j < 16 := by have := o.2.1; omega
    obtain ⟨n1, n2, n3⟩ := pr_nx_enc H16 ht0
    -- not after f
    have up : pq_enc (pr_nx h (4 * i + j)) 16 ≤ pq_enc f 16 := by
      have l1 := pr_enc_less (n := 4 * i + j + 1) (fun t ht => H16 t (by omega)) (show t < 4 * i + j + 1 by omega) t2 t3
      have e2 := pr_enc_split f (4 * i + j + 1) (15 - (4 * i + j))
      rw [show 4 * i + j + 1 + (15 - (4 * i + j)) = 16 by omega] at e2
      rw [n2, e2]
      have := Nat.mul_le_mul_right (16 ^ (15 - (4 * i + j))) (show pq_enc h (4 * i + j + 1) + 1 ≤ pq_enc f (4 * i + j + 1) by omega)
      omega
    -- not before it
    have G := pr_nx_hv H i1 j1 g
    obtain ⟨K, hK⟩ := pr_kx_ex G
    have mU := pr_num_lt G hK
    have eg := pq_enc_eq (n := 16) (pr_hn_num G hK)
    have gt : pq_enc h 16 < pq_enc (pr_nx h (4 * i + j)) 16 := pr_enc_less H16 ht0 (fun s hs => if_pos hs) (by unfold pr_nx; rw [if_neg (by omega), if_pos rfl]; omega)
    have nm : n < pr_num b c a K := by
      rcases Nat.lt_trichotomy n (pr_num b c a K) with q | q | q
      · exact q
      · rw [← eg, ← q, hh] at gt; omega
      · have := pr_hn_lt ha o hm q (by omega)
        rw [eg, hh] at this; omega
    have dn : pq_enc f 16 ≤ pq_enc (pr_nx h (4 * i + j)) 16 := by
      by_cases q : n + 1 = pr_num b c a K
      · rw [← eg, ← q, hf]; exact Nat.le_refl _
      · have := pr_hn_lt ha o hm (show n + 1 < pr_num b c a K by omega) mU
        rw [eg, hf] at this; omega
    rw [show pq_enc (pr_nx h (4 * i + j)) 16 = pq_enc f 16 by omega]
  · have := g _ _ ti.1 ti.2
    rw [tg] at this; cases this
theorem pr_hn_0 {a b c : Nat} (ha : 1 ≤ a ∧ a ≤ 4) (o : pr_ok b c) (hm : a * b * c ≤ 48) : pq_enc (pr_hn b c a 0) 16 = 0 := by
  have hN := pr_N_le o
  have Z : pq_hv a b c (fun _ => 0) := ⟨ha, ⟨o.1, o.2.1⟩, ⟨o.2.2.1, o.2.2.2⟩, hm, fun _ _ _ _ => ⟨Nat.zero_le _, fun _ => rfl, fun _ => Nat.le_refl _, fun _ => Nat.le_refl _⟩⟩
  have z : pq_enc (fun _ => 0) 16 = 0 := by decide
  obtain ⟨K, hK⟩ := pr_kx_ex Z
  have eg := pq_enc_eq (n := 16) (pr_hn_num Z hK)
  rw [z] at eg
  rcases Nat.eq_zero_or_pos (pr_num b c a K) with q | q
  · rw [q] at eg; exact eg
  · have := pr_hn_lt ha o hm q (pr_num_lt Z hK)
    omega
/-- following is defined for every heap -/
theorem pr_following_some {a b c : Nat} {h : Nat → Nat} (H : pq_hv a b c h) : ∃ E, fx_following (nI a) (nI b) (nI c) (lN (pq_enc h 16)) = some E := by
  rcases pr_following H with ⟨i, j, _, _, _, _, e⟩ | ⟨_, e⟩
  · exact ⟨_, e⟩
  · exact ⟨_, e⟩
/-- the k-th of the walk over all heaps -/
theorem pr_walk {a b c n : Nat} (ha : 1 ≤ a ∧ a ≤ 4) (o : pr_ok b c) (hm : a * b * c ≤ 48) (hn : n < pq_U b c a (pr_N b c - 1)) : ∃ E, fx_following (nI a) (nI b) (nI c) (lN (pq_enc (pr_hn b c a n) 16)) = some E ∧ (n + 1 < pq_U b c a (pr_N b c - 1) → E = lN (pq_enc (pr_hn b c a (n + 1)) 16)) := by
  obtain ⟨E, e⟩ := pr_following_some (pr_hn_hv ha o hm hn)
  refine ⟨E, e, fun h => ?_⟩
  rw [pr_hn_next ha o hm h] at e
  cases e; rfl
