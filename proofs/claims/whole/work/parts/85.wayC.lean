/-! WAYS: the class's search -/
theorem pr_num_ex {a b c : Nat} {g : Nat → Nat} (G : pq_hv a b c g) : ∃ y, y < pq_U b c a (pr_N b c - 1) ∧ ∀ t, t < 16 → pr_hn b c a y t = g t := by
  obtain ⟨K, hK⟩ := pr_kx_ex G
  exact ⟨_, pr_num_lt G hK, pr_hn_num G hK⟩
theorem pr_hn_inj {a b c x y : Nat} (ha : 1 ≤ a ∧ a ≤ 4) (o : pr_ok b c) (hm : a * b * c ≤ 48) (hx : x < pq_U b c a (pr_N b c - 1)) (hy : y < pq_U b c a (pr_N b c - 1)) (e : ∀ t, t < 16 → pr_hn b c a x t = pr_hn b c a y t) : x = y := by
  have ee := pq_enc_eq e
  rcases Nat.lt_trichotomy x y with q | q | q
  · have := pr_hn_lt ha o hm q hy; omega
  · exact q
  · have := pr_hn_lt ha o hm q hx; omega
/-- only the search's fields differ -/
def pr_sf (zx zx' : kx_S) : Prop := (∀ k, k ≠ 10 → k ≠ 11 → zx'.1 k = zx.1 k) ∧ (∀ k, k ≠ 2 → k ≠ 3 → zx'.2.1 k = zx.2.1 k) ∧ zx'.2.2.2 = zx.2.2.2
theorem pr_sf_r {z : kx_S} : pr_sf z z := ⟨fun _ _ _ => rfl, fun _ _ _ => rfl, rfl⟩
theorem pr_sf_t {z z' z'' : kx_S} (h : pr_sf z z') (h' : pr_sf z' z'') : pr_sf z z'' := ⟨fun k h1 h2 => (h'.1 k h1 h2).trans (h.1 k h1 h2), fun k h1 h2 => (h'.2.1 k h1 h2).trans (h.2.1 k h1 h2), h'.2.2.trans h.2.2⟩
theorem pr_sf_Inv {cA : Nat → ClassId} {zx zx' : kx_S} {P : va_W} {zm : km_S} (h : pr_sf zx zx') (hI : pq_Inv cA zx P zm) : pq_Inv cA zx' P zm :=
  pr_Inv_x hI (fun k hk => h.1 k (by omega) (by omega)) (fun k hk => h.2.1 k (by omega) (by omega)) (fun k _ => by rw [h.2.2])
def pr_hs (a b c : Nat) (zx : kx_S) : Prop := zx.1 10 = nI (pq_U b c a (pr_N b c - 1)) ∧ ∀ n, n < pq_U b c a (pr_N b c - 1) → zx.2.2.1 0 n = lN (pq_enc (pr_hn b c a n) 16)
theorem pr_xl0 {z : kx_S} {j : Nat} (h : j < 200) : kx_rl z 0 (nI j) = some (z.2.2.1 0 j) := by
  unfold kx_rl; rw [if_neg (kq_c (show j < kx_lenJ 0 from h) (by decide)), nI_clamp (by omega)]
theorem pr_indexOf {a b c y : Nat} {zx : kx_S} (ha : 1 ≤ a ∧ a ≤ 4) (o : pr_ok b c) (hm : a * b * c ≤ 48) (hN : pq_U b c a (pr_N b c - 1) ≤ 200) (hz : pr_hs a b c zx) (hy : y < pq_U b c a (pr_N b c - 1)) : fs_indexOf (lN (pq_enc (pr_hn b c a y) 16)) zx = some (nI y, zx) := by
  have hv := fun n (hn : n < pq_U b c a (pr_N b c - 1)) => pr_hn_hv ha o hm hn
  have l63 := fun n (hn : n < pq_U b c a (pr_N b c - 1)) => pq_enc_lt63 (pq_hv_h (hv n hn))
  have lt := fun n m (h1 : n < m) (h2 : m < pq_U b c a (pr_N b c - 1)) => pr_hn_lt ha o hm h1 h2
  have loop : ∀ n low high r fuel, low ≤ y → y ≤ high → high < pq_U b c a (pr_N b c - 1) → high - low < n → r + n ≤ pq_U b c a (pr_N b c - 1) → n ≤ fuel → kj_it (fun (s : (Int64 × Int32 × Int32 × Int32 × kx_S)) => fs_indexOf_13 (s.1) (s.2.1) (s.2.2.1) (s.2.2.2.1) (s.2.2.2.2)) fuel (lN (pq_enc (pr_hn b c a y) 16), nI low, nI high, nI r, zx) = some (.inl (nI y, zx)) := by
    intro n
    induction n with
    | zero => intro low high r fuel h1 h2 h3 h4; exact absurd h4 (by omega)
    | succ n ih =>
      intro low high r fuel h1 h2 h3 h4 h6 h5
      obtain ⟨fl, rfl⟩ : ∃ g, fuel = g + 1 := ⟨fuel - 1, by omega⟩
      have hmid : (low + high) / 2 < pq_U b c a (pr_N b c - 1) := by omega
      have rd := pr_xl0 (z := zx) (j := (low + high) / 2) (by omega)
      have stp : fs_indexOf_13 (lN (pq_enc (pr_hn b c a y) 16)) (nI low) (nI high) (nI r) zx = if (low + high) / 2 = y then some (.inr (.inl (nI y, zx))) else if y < (low + high) / 2 then some (.inl (lN (pq_enc (pr_hn b c a y) 16), nI low, nI ((low + high) / 2 - 1), nI (r + 1), zx)) else some (.inl (lN (pq_enc (pr_hn b c a y) 16), nI ((low + high) / 2 + 1), nI high, nI (r + 1), zx)) := by
        unfold fs_indexOf_13 fs_indexOf_77
        rw [hz.1, if_neg (nI_ge (show r < pq_U b c a (pr_N b c - 1) by omega) (by omega)), if_neg (nI_nlt (by omega) (by omega)), nI_add, show nI (low + high) / 2 = nI ((low + high) / 2) from pk_div (d := 2) (by omega) (by omega) (by omega), rd, Option.bind_some, hz.2 _ hmid, Option.bind_some, nI_1 ((low + high) / 2), nI_1 r]
        rcases Nat.lt_trichotomy ((low + high) / 2) y with q | q | q
        · have := lt _ _ q hy
          rw [if_neg (show ¬ lg_cmp _ _ = 0 by rw [lg_cmp_eq, pk_lEQ (l63 _ hmid) (l63 _ hy)]; omega), if_neg (show ¬ 0 ≤ lg_cmp _ _ by rw [lg_cmp_ge, pk_lLE (l63 _ hy) (l63 _ hmid)]; omega), if_neg (by omega), if_neg (by omega)]
        · rw [if_pos (show lg_cmp _ _ = 0 by rw [lg_cmp_eq, pk_lEQ (l63 _ hmid) (l63 _ hy), q]), if_pos q, q]
        · have := lt _ _ q hmid
          rw [if_neg (show ¬ lg_cmp _ _ = 0 by rw [lg_cmp_eq, pk_lEQ (l63 _ hmid) (l63 _ hy)]; omega), if_pos (show 0 ≤ lg_cmp _ _ by rw [lg_cmp_ge, pk_lLE (l63 _ hy) (l63 _ hmid)]; omega), if_neg (by omega), if_pos q, show nI ((low + high) / 2) - 1 = nI ((low + high) / 2 - 1) from pk_sub (b := 1) (by omega)]
      rw [kj_it]
      dsimp only
      rw [stp]
      by_cases c1 : (low + high) / 2 = y
      · rw [if_pos c1]; rfl
      · rw [if_neg c1]
        by_cases c2 : y < (low + high) / 2
        · rw [if_pos c2]
          exact ih low _ (r + 1) fl h1 (by omega) (by omega) (by omega) (by omega) (by omega)
        · rw [if_neg c2]
          exact ih _ high (r + 1) fl (by omega) h2 h3 (by omega) (by omega) (by omega)
  unfold fs_indexOf ls_indexOf_13
  rw [hz.1, show nI (pq_U b c a (pr_N b c - 1)) - 1 = nI (pq_U b c a (pr_N b c - 1) - 1) from pk_sub (b := 1) (by omega), show (0 : Int32) = nI 0 from rfl, loop (pq_U b c a (pr_N b c - 1)) 0 _ 0 5000 (by omega) (by omega) (by omega) (by omega) (by omega) (by omega), Option.bind_some]
  rfl
def pr_fb (b c a m n : Nat) : Bool := decide (m ≠ 0 ∧ pq_sum 16 (pr_hn b c a n) % m = 0)
theorem pr_prepare {a b c m : Nat} {zx : kx_S} (ha : 1 ≤ a ∧ a ≤ 4) (o : pr_ok b c) (hm : a * b * c ≤ 48) (hN : pq_U b c a (pr_N b c - 1) ≤ 200) (hm9 : m ≤ 9) : ∃ zx', fs_prepare (nI a) (nI b) (nI c) (nI (pq_U b c a (pr_N b c - 1))) (nI m) zx = some zx' ∧ pr_hs a b c zx' ∧ zx'.1 11 = 0 ∧ (∀ n, n < pq_U b c a (pr_N b c - 1) → zx'.2.1 2 n = if pr_fb b c a m n then -2 else -1) ∧ pr_sf zx zx' := by
  have hv := fun n (hn : n < pq_U b c a (pr_N b c - 1)) => pr_hn_hv ha o hm hn
  generalize hN0 : pq_U b c a (pr_N b c - 1) = N at *
  unfold fs_prepare kx_pI
  rw [Option.bind_some, Option.bind_some, show (if (200 : Int32) < nI N then (200 : Int32) else nI N) = nI N from if_neg (nI_nlt (a := 200) hN (by omega))]
  unfold ls_prepare_22
  refine kq_itb (fun n s => ∃ z E, s = (nI m, E, nI n, z) ∧ (n < N → E = lN (pq_enc (pr_hn b c a n) 16)) ∧ z.1 10 = nI N ∧ z.1 11 = 0 ∧ (∀ k, k < n → z.2.2.1 0 k = lN (pq_enc (pr_hn b c a k) 16)) ∧ (∀ k, k < n → z.2.1 2 k = if pr_fb b c a m k then -2 else -1) ∧ pr_sf zx z)
    (fun z => z.1 10 = nI N ∧ z.1 11 = 0 ∧ (∀ k, k < N → z.2.2.1 0 k = lN (pq_enc (pr_hn b c a k) 16)) ∧ (∀ k, k < N → z.2.1 2 k = if pr_fb b c a m k then -2 else -1) ∧ pr_sf zx z) N (by omega) ⟨_, 0, rfl, fun _ => by rw [pr_hn_0 ha o hm]; rfl, ?_, ?_, fun k hk => absurd hk (by omega), fun k hk => absurd hk (by omega), ⟨fun k h1 h2 => ?_, fun _ _ _ => rfl, rfl⟩⟩ ?_ ?_ ?_
  · dsimp only; rw [va_up_ne _ _ (by decide), va_up_self]
  · dsimp only; rw [va_up_self]
  · dsimp only; rw [va_up_ne _ _ h2, va_up_ne _ _ h1]
  · rintro n s hn ⟨z, E, rfl, g0, g1, g2, g3, g4, g5⟩
    rw [g0 hn]
    obtain ⟨E', w1, w2⟩ := pr_walk ha o hm (n := n) (by omega)
    have fin : ∀ v : Int32, v = (if pr_fb b c a m n then -2 else -1) → ∃ s', fs_prepare_66 (nI a) (nI b) (nI c) (nI m) (lN (pq_enc (pr_hn b c a n) 16)) (nI n) v (nI n) (z.1, z.2.1, va_up z.2.2.1 0 (vp_updL (z.2.2.1 0) n (lN (pq_enc (pr_hn b c a n) 16))), z.2.2.2) = some (.inl s') ∧ ∃ z E, s' = (nI m, E, nI (n + 1), z) ∧ (n + 1 < N → E = lN (pq_enc (pr_hn b c a (n + 1)) 16)) ∧ z.1 10 = nI N ∧ z.1 11 = 0 ∧ (∀ k, k < n + 1 → z.2.2.1 0 k = lN (pq_enc (pr_hn b c a k) 16)) ∧ (∀ k, k < n + 1 → z.2.1 2 k = if pr_fb b c a m k then -2 else -1) ∧ pr_sf zx z := by
      intro v hv'
      unfold fs_prepare_66
      rw [kq_xwr (show n < 200 by omega) kq_kx, Option.bind_some, w1, Option.bind_some, nI_1]
      refine ⟨_, rfl, _, E', rfl, fun h => w2 (by omega), g1, g2, fun k hk => ?_, fun k hk => ?_, ⟨g5.1, fun k h1 h2 => ?_, g5.2.2⟩⟩
      · dsimp only
        rw [va_up_self]
        by_cases e : k = n
        · subst e; exact pk_uLs
        · rw [pk_uLn e]; exact g3 k (by omega)
      · dsimp only
        rw [va_up_self]
        by_cases e : k = n
        · subst e; rw [pk_us, hv']
        · rw [pk_un e]; exact g4 k (by omega)
      · dsimp only
        rw [va_up_ne _ _ h1]; exact g5.2.1 k h1 h2
    dsimp only
    unfold fs_prepare_22 fs_prepare_65
    have hw : kx_wl z 0 (nI n) (lN (pq_enc (pr_hn b c a n) 16)) = some (z.1, z.2.1, va_up z.2.2.1 0 (vp_updL (z.2.2.1 0) n (lN (pq_enc (pr_hn b c a n) 16))), z.2.2.2) := by
      unfold kx_wl; rw [if_neg (kq_c (show n < kx_lenJ 0 from (by show n < 200; omega)) (by decide)), nI_clamp (by omega)]
    rw [g1, if_neg (nI_ge hn (by omega)), hw, Option.bind_some]
    by_cases c1 : m = 0
    · rw [if_pos (show nI m = 0 by rw [c1]; rfl)]
      exact fin _ (by unfold pr_fb; rw [decide_eq_false (fun q => q.1 c1)]; rfl)
    · have m0 : ¬ nI m = 0 := nI_ne0 (by omega) (by omega)
      have vl := pq_sum_le (n := 16) (m := 4) (pq_hv_h (hv n (by omega)))
      rw [if_neg m0, pq_volume (pq_hv_h (hv n (by omega))), Option.bind_some, if_neg m0, pk_rem (by omega) (by omega) (by omega)]
      have ml := Nat.mod_lt (pq_sum 16 (pr_hn b c a n)) (show 0 < m by omega)
      by_cases c2 : pq_sum 16 (pr_hn b c a n) % m = 0
      · rw [if_pos (show nI (pq_sum 16 (pr_hn b c a n) % m) = 0 by rw [c2]; rfl)]
        exact fin _ (by unfold pr_fb; rw [decide_eq_true ⟨c1, c2⟩]; rfl)
      · rw [if_neg (nI_ne0 (by omega) (by omega))]
        exact fin _ (by unfold pr_fb; rw [decide_eq_false (fun q => c2 q.2)]; rfl)
  · rintro s ⟨z, E, rfl, g0, g1, g2, g3, g4, g5⟩
    refine ⟨z, ?_, g1, g2, g3, g4, g5⟩
    dsimp only
    unfold fs_prepare_22
    rw [g1, if_pos (nI_le (Nat.le_refl N) (by omega))]
  · rintro z ⟨g1, g2, g3, g4, g5⟩
    exact ⟨z, rfl, ⟨by rw [hN0]; exact g1, by rw [hN0]; exact g3⟩, g2, g4, g5⟩
/-- blocked: forbidden, and no end -/
def pr_bl (b c a m f t y : Nat) : Bool := pr_fb b c a m y && decide (y ≠ f ∧ y ≠ t)
def pr_cs (a b c m f t : Nat) (zx : kx_S) (Q : List Nat) (dd : Nat → Nat) : Prop :=
  pr_hs a b c zx ∧ zx.1 11 = nI Q.length ∧ (∀ i, i < Q.length → zx.2.1 3 i = nI (Q.getD i 0)) ∧ (∀ y, y < pq_U b c a (pr_N b c - 1) → zx.2.1 2 y = if y ∈ Q then nI (dd y) else if pr_bl b c a m f t y then -2 else -1) ∧ (∀ y, y ∈ Q → y < pq_U b c a (pr_N b c - 1) ∧ pr_bl b c a m f t y = false)
theorem pr_cs_len {a b c m f t : Nat} {zx : kx_S} {Q : List Nat} {dd : Nat → Nat} (h : pr_cs a b c m f t zx Q dd) (hn : Q.Nodup) : Q.length ≤ pq_U b c a (pr_N b c - 1) := by
  have := pr_php Q (List.range (pq_U b c a (pr_N b c - 1))) hn fun x hx => List.mem_range.mpr (h.2.2.2.2 x hx).1
  rwa [List.length_range] at this
theorem pr_cs_lt {a b c m f t y : Nat} {zx : kx_S} {Q : List Nat} {dd : Nat → Nat} (h : pr_cs a b c m f t zx Q dd) (hn : Q.Nodup) (hy : y < pq_U b c a (pr_N b c - 1)) (hq : y ∉ Q) : Q.length < pq_U b c a (pr_N b c - 1) := by
  have := pr_php (y :: Q) (List.range (pq_U b c a (pr_N b c - 1))) (List.nodup_cons.mpr ⟨hq, hn⟩) fun x hx => by
    rw [List.mem_range]
    rcases List.mem_cons.mp hx with rfl | hx
    · exact hy
    · exact (h.2.2.2.2 x hx).1
  rw [List.length_range, List.length_cons] at this
  omega
/-- reach(index, step) -/
theorem pr_reach {a b c m f t y d : Nat} {zx : kx_S} {Q : List Nat} {dd : Nat → Nat} (hN : pq_U b c a (pr_N b c - 1) ≤ 200) (h : pr_cs a b c m f t zx Q dd) (hn : Q.Nodup) (hdd : ∀ y, y ∈ Q → dd y < 2 ^ 31) (hy : y < pq_U b c a (pr_N b c - 1)) :
    (y ∈ Q ∨ pr_bl b c a m f t y = true → fs_reach (nI y) (nI d) zx = some zx) ∧ (y ∉ Q → pr_bl b c a m f t y = false → ∃ zx', fs_reach (nI y) (nI d) zx = some zx' ∧ pr_cs a b c m f t zx' (Q ++ [y]) (pq_u dd y d) ∧ pr_sf zx zx') := by
  obtain ⟨h1, h2, h3, h4, h5⟩ := id h
  have rd : kx_rd zx 2 (nI y) = some (if y ∈ Q then nI (dd y) else if pr_bl b c a m f t y then -2 else -1) := by
    rw [kq_xrd (show y < 200 by omega) kq_kx, h4 y hy]
  refine ⟨fun hc => ?_, fun hq hb => ?_⟩
  · unfold fs_reach
    rw [if_neg (nI_pos (by omega)), rd, Option.bind_some, if_neg]
    by_cases c1 : y ∈ Q
    · rw [if_pos c1]
      have := hdd y c1
      intro e
      exact absurd (e ▸ nI_pos this) (by decide)
    · rw [if_neg c1, hc.resolve_left c1, if_pos rfl]; decide
  · have lt := pr_cs_lt h hn hy hq
    unfold fs_reach
    have rd' : kx_rd zx 2 (nI y) = some (-1) := by rw [rd, if_neg hq, hb]; rfl
    rw [if_neg (nI_pos (by omega)), rd', Option.bind_some, if_pos rfl, h1.1, h2, if_neg (nI_ge lt (by omega)), kq_xwr (show y < 200 by omega) kq_kx, Option.bind_some]
    dsimp only
    rw [h2, kq_xwr (show Q.length < 200 by omega) kq_kx, Option.bind_some]
    unfold kx_pI
    rw [Option.bind_some]
    dsimp only
    refine ⟨_, rfl, ⟨⟨?_, h1.2⟩, ?_, fun i hi => ?_, fun u hu => ?_, fun u hu => ?_⟩, ⟨fun k q1 q2 => ?_, fun k q1 q2 => ?_, rfl⟩⟩
    · dsimp only
      rw [va_up_ne _ _ (by decide)]; exact h1.1
    · dsimp only
      rw [va_up_self, h2, nI_1, List.length_append]; rfl
    · dsimp only
      rw [va_up_self, va_up_ne _ _ (by decide)]
      rw [List.length_append] at hi
      simp only [List.length_cons, List.length_nil] at hi
      by_cases e : i < Q.length
      · rw [pk_un (by omega), h3 i e, List.getD_eq_getElem?_getD, List.getD_eq_getElem?_getD, List.getElem?_append_left e]
      · have : i = Q.length := by omega
        subst this
        rw [pk_us, List.getD_eq_getElem?_getD, List.getElem?_append_right (Nat.le_refl _), Nat.sub_self]; rfl
    · dsimp only
      rw [va_up_ne _ _ (by decide), va_up_self]
      by_cases e : u = y
      · subst e
        rw [pk_us, if_pos (by simp)]; unfold pq_u; rw [if_pos rfl]
      · rw [pk_un e, h4 u hu]
        by_cases c1 : u ∈ Q
        · rw [if_pos c1, if_pos (List.mem_append_left _ c1)]; unfold pq_u; rw [if_neg e]
        · rw [if_neg c1, if_neg (show ¬ u ∈ Q ++ [y] by rw [List.mem_append, List.mem_singleton]; exact not_or.mpr ⟨c1, e⟩)]
    · rcases List.mem_append.mp hu with q | q
      · exact h5 u q
      · rw [List.mem_singleton] at q; subst q; exact ⟨hy, hb⟩
    · dsimp only
      rw [va_up_ne _ _ q2]
    · dsimp only
      rw [va_up_ne _ _ q2, va_up_ne _ _ q1]
def pr_adj (a b c x y : Nat) : Prop := x < pq_U b c a (pr_N b c - 1) ∧ y < pq_U b c a (pr_N b c - 1) ∧ pr_df (pr_hn b c a x) (pr_hn b c a y) = 1
def pr_adjb (a b c m f t x y : Nat) : Prop := pr_adj a b c x y ∧ ¬ pr_bl b c a m f t y = true
def pr_exp (a b c m f t x : Nat) : Prop := x = f ∨ (x ≠ t ∧ pr_fb b c a m x = false)
/-- y is x with a cube laid or taken off at (i, j) -/
def pr_nb (a b c x i j : Nat) (w : Bool) (y : Nat) : Prop := pq_chg w a b c (pr_hn b c a x) i j = true ∧ y < pq_U b c a (pr_N b c - 1) ∧ ∀ s, s < 16 → pr_hn b c a y s = pq_u (pr_hn b c a x) (4 * i + j) (pq_cv w (pr_hn b c a x (4 * i + j))) s
theorem pr_inc {g : Nat → Nat} {t : Nat} (ht : t < 16) : lN (pq_enc g 16) + lN (16 ^ (15 - t)) = lN (pq_enc (pq_u g t (g t + 1)) 16) := by
  have enc := pq_enc_u (h := g) (v := g t + 1) (n := 16) (t := t) ht
  rw [show 16 - 1 - t = 15 - t by omega] at enc
  have e5 : 16 ^ (15 - t) * (g t + 1) = 16 ^ (15 - t) * g t + 16 ^ (15 - t) := by rw [Nat.mul_add, Nat.mul_one]
  rw [lN_add]; congr 1; omega
/-- how far one expansion is -/
def pr_es (a b c m f t : Nat) (zx0 : kx_S) (Q0 : List Nat) (k T : Nat) (w0 : Bool) (zx : kx_S) : Prop :=
  ∃ Q dd, pr_cs a b c m f t zx Q dd ∧ pr_BI (pr_adjb a b c m f t) (pr_exp a b c m f t) f Q dd k ∧ (∃ e, Q = Q0 ++ e) ∧ pr_sf zx0 zx ∧ ∀ i j w y, i < a → j < b → (4 * i + j < T ∨ (4 * i + j = T ∧ w0 = true ∧ w = true)) → pr_nb a b c (Q0.getD k 0) i j w y → pr_bl b c a m f t y = false → y ∈ Q
theorem pr_try {a b c m f t k i j : Nat} {zx0 zx : kx_S} {Q0 : List Nat} {w0 : Bool} (w : Bool) (ha : 1 ≤ a ∧ a ≤ 4) (o : pr_ok b c) (hm : a * b * c ≤ 48) (hN : pq_U b c a (pr_N b c - 1) ≤ 200) (hk : k < Q0.length) (hx : Q0.getD k 0 < pq_U b c a (pr_N b c - 1)) (hex : pr_exp a b c m f t (Q0.getD k 0)) (hi : i < a) (hj : j < b) (h : pr_es a b c m f t zx0 Q0 k (4 * i + j) w0 zx) (hc : pq_chg w a b c (pr_hn b c a (Q0.getD k 0)) i j = true) :
    ∃ y zx', lN (pq_enc (pq_u (pr_hn b c a (Q0.getD k 0)) (4 * i + j) (pq_cv w (pr_hn b c a (Q0.getD k 0) (4 * i + j)))) 16) = lN (pq_enc (pr_hn b c a y) 16) ∧ fs_indexOf (lN (pq_enc (pr_hn b c a y) 16)) zx = some (nI y, zx) ∧ (∃ d, kx_rd zx 2 (nI (Q0.getD k 0)) = some (nI d) ∧ fs_reach (nI y) (nI (d + 1)) zx = some zx') ∧ (∃ Q dd, pr_cs a b c m f t zx' Q dd ∧ pr_BI (pr_adjb a b c m f t) (pr_exp a b c m f t) f Q dd k ∧ (∃ e, Q = Q0 ++ e) ∧ pr_sf zx0 zx' ∧ (∀ i' j' w' y', i' < a → j' < b → (4 * i' + j' < 4 * i + j ∨ (4 * i' + j' = 4 * i + j ∧ w0 = true ∧ w' = true)) → pr_nb a b c (Q0.getD k 0) i' j' w' y' → pr_bl b c a m f t y' = false → y' ∈ Q) ∧ ∀ y', pr_nb a b c (Q0.getD k 0) i j w y' → pr_bl b c a m f t y' = false → y' ∈ Q) := by
  obtain ⟨Q, dd, s1, s2, ⟨e, s3⟩, s4, s5⟩ := h
  have Hx := pr_hn_hv ha o hm hx
  have Hu := (pq_hv_u Hx hi hj hc).2
  obtain ⟨y, y1, y2⟩ := pr_num_ex Hu
  have gk : Q.getD k 0 = Q0.getD k 0 := by
    rw [s3, List.getD_eq_getElem?_getD, List.getElem?_append_left hk, ← List.getD_eq_getElem?_getD]
  have hkQ : k < Q.length := by rw [s3, List.length_append]; omega
  have xin : Q0.getD k 0 ∈ Q := by rw [← gk]; exact pr_gDm hkQ
  have len := pr_cs_len s1 s2.1
  have ddl : ∀ u, u ∈ Q → dd u < 2 ^ 31 := fun u hu => by have := s2.2.2.2.2.2.2 u hu; omega
  have rdx : kx_rd zx 2 (nI (Q0.getD k 0)) = some (nI (dd (Q0.getD k 0))) := by
    rw [kq_xrd (show Q0.getD k 0 < 200 by omega) kq_kx, s1.2.2.2.1 _ hx, if_pos xin]
  have uniq : ∀ y', pr_nb a b c (Q0.getD k 0) i j w y' → y' = y := fun y' hy' => pr_hn_inj ha o hm hy'.2.1 y1 fun s hs => by rw [hy'.2.2 s hs, y2 s hs]
  have ady : pr_adj a b c (Q0.getD k 0) y := ⟨hx, y1, (pr_step Hx (pr_hn_hv ha o hm y1)).mpr ⟨i, j, hi, hj, w, hc, y2⟩⟩
  obtain ⟨r1, r2⟩ := pr_reach (y := y) (d := dd (Q0.getD k 0) + 1) hN s1 s2.1 ddl y1
  have ind := pr_indexOf ha o hm hN s1.1 y1
  have enc : lN (pq_enc (pq_u (pr_hn b c a (Q0.getD k 0)) (4 * i + j) (pq_cv w (pr_hn b c a (Q0.getD k 0) (4 * i + j)))) 16) = lN (pq_enc (pr_hn b c a y) 16) := by rw [pq_enc_eq y2]
  by_cases c1 : y ∈ Q ∨ pr_bl b c a m f t y = true
  · refine ⟨y, zx, enc, ind, ⟨_, rdx, r1 c1⟩, Q, dd, s1, s2, ⟨e, s3⟩, s4, s5, fun y' hy' hb => ?_⟩
    rw [uniq y' hy'] at hb ⊢
    rcases c1 with q | q
    · exact q
    · rw [hb] at q; cases q
  · have c2 := not_or.mp c1
    have hb : pr_bl b c a m f t y = false := Bool.eq_false_iff.mpr c2.2
    obtain ⟨zx', t1, t2, t3⟩ := r2 c2.1 hb
    have bi := pr_BI_add (y := y) s2 hkQ (by rw [gk]; exact hex) (by rw [gk]; exact ⟨ady, c2.2⟩) c2.1
    rw [gk] at bi
    refine ⟨y, zx', enc, ind, ⟨_, rdx, t1⟩, Q ++ [y], _, t2, bi, ⟨e ++ [y], by rw [s3, List.append_assoc]⟩, pr_sf_t s4 t3, fun i' j' w' y' h1 h2 h3 h4 h5 => List.mem_append_left _ (s5 i' j' w' y' h1 h2 h3 h4 h5), fun y' hy' _ => ?_⟩
    rw [uniq y' hy']; simp
/-- reachNeighbours(box, index) -/
theorem pr_neigh {a b c m f t k : Nat} {zx : kx_S} {Q : List Nat} {dd : Nat → Nat} (ha : 1 ≤ a ∧ a ≤ 4) (o : pr_ok b c) (hm : a * b * c ≤ 48) (hN : pq_U b c a (pr_N b c - 1) ≤ 200) (hk : k < Q.length) (hcs : pr_cs a b c m f t zx Q dd) (hbi : pr_BI (pr_adjb a b c m f t) (pr_exp a b c m f t) f Q dd k) (hex : pr_exp a b c m f t (Q.getD k 0)) :
    ∃ zx' Q' dd', fs_reachNeighbours (nI a) (nI b) (nI c) (nI (Q.getD k 0)) zx = some zx' ∧ pr_cs a b c m f t zx' Q' dd' ∧ pr_BI (pr_adjb a b c m f t) (pr_exp a b c m f t) f Q' dd' (k + 1) ∧ k + 1 ≤ Q'.length ∧ pr_sf zx zx' := by
  have hb := o.2.1
  have hx := (hcs.2.2.2.2 _ (pr_gDm hk)).1
  have Hx := pr_hn_hv ha o hm hx
  have start : pr_es a b c m f t zx Q k (4 * 0 + 0) false zx := ⟨Q, dd, hcs, hbi, ⟨[], by simp⟩, pr_sf_r, fun i j w y h1 h2 h3 => absurd h3 (by simp)⟩
  -- one cell
  have cell : ∀ (z : kx_S) (i j : Nat), i < a → j < b → pr_es a b c m f t zx Q k (4 * i + j) false z → ∃ z', fs_reachNeighbours_22 (nI a) (nI b) (nI c) (nI (Q.getD k 0)) (lN (pq_enc (pr_hn b c a (Q.getD k 0)) 16)) (nI i) (nI j) z = some (.inl (nI (Q.getD k 0), lN (pq_enc (pr_hn b c a (Q.getD k 0)) 16), nI i, nI (j + 1), z')) ∧ pr_es a b c m f t zx Q k (4 * i + (j + 1)) false z' := by
    intro z i j hi hj hs
    -- taking off
    have off : ∀ z1, pr_es a b c m f t zx Q k (4 * i + j) true z1 → ∃ z', fs_reachNeighbours_68 (nI a) (nI b) (nI c) (nI (Q.getD k 0)) (lN (pq_enc (pr_hn b c a (Q.getD k 0)) 16)) (nI i) (nI j) z1 = some (.inl (nI (Q.getD k 0), lN (pq_enc (pr_hn b c a (Q.getD k 0)) 16), nI i, nI (j + 1), z')) ∧ pr_es a b c m f t zx Q k (4 * i + (j + 1)) false z' := by
      intro z1 h1
      unfold fs_reachNeighbours_68 fs_reachNeighbours_105
      rw [pq_shrinks Hx (by omega) (by omega), Option.bind_some, nI_1]
      rcases (show pq_shr a b (pr_hn b c a (Q.getD k 0)) i j = false ∨ pq_shr a b (pr_hn b c a (Q.getD k 0)) i j = true by cases pq_shr a b (pr_hn b c a (Q.getD k 0)) i j <;> simp) with e | e
      · rw [e, if_pos (show pq_b false = 0 from rfl)]
        obtain ⟨Q1, dd1, q1, q2, q3, q4, q5⟩ := h1
        refine ⟨_, rfl, Q1, dd1, q1, q2, q3, q4, fun i' j' w y p1 p2 p3 p4 p5 => ?_⟩
        have p3' : 4 * i' + j' < 4 * i + (j + 1) := by rcases p3 with p | p; exact p; exact absurd p.2.1 (by decide)
        by_cases ce : 4 * i' + j' = 4 * i + j
        · have e1 : i' = i := by omega
          have e2 : j' = j := by omega
          subst e1 e2
          cases w
          · have := p4.1
            rw [show pq_chg false a b c (pr_hn b c a (Q.getD k 0)) i' j' = pq_shr a b (pr_hn b c a (Q.getD k 0)) i' j' from rfl, e] at this
            cases this
          · exact q5 i' j' true y p1 p2 (Or.inr ⟨rfl, rfl, rfl⟩) p4 p5
        · exact q5 i' j' w y p1 p2 (Or.inl (by omega)) p4 p5
      · rw [e, if_neg (show ¬ pq_b true = 0 by decide)]
        obtain ⟨y, z2, t1, t2, ⟨d, t3, t4⟩, Q2, dd2, t5, t6, t7, t8, t9, t10⟩ := pr_try false ha o hm hN hk hx hex hi hj h1 e
        have pos := (pq_hv_u (w := false) Hx hi hj e).1 rfl
        rw [pq_cube (by omega) (by omega), Option.bind_some, pr_dec (by omega) pos, show lN (pq_enc (pq_u (pr_hn b c a (Q.getD k 0)) (4 * i + j) (pr_hn b c a (Q.getD k 0) (4 * i + j) - 1)) 16) = lN (pq_enc (pr_hn b c a y) 16) from t1, t2, Option.bind_some]
        dsimp only
        rw [t3, Option.bind_some, nI_1, t4, Option.bind_some]
        refine ⟨_, rfl, Q2, dd2, t5, t6, t7, t8, fun i' j' w y' p1 p2 p3 p4 p5 => ?_⟩
        have p3' : 4 * i' + j' < 4 * i + (j + 1) := by rcases p3 with p | p; exact p; exact absurd p.2.1 (by decide)
        by_cases ce : 4 * i' + j' = 4 * i + j
        · have e1 : i' = i := by omega
          have e2 : j' = j := by omega
          subst e1 e2
          cases w
          · exact t10 y' p4 p5
          · exact t9 i' j' true y' p1 p2 (Or.inr ⟨rfl, rfl, rfl⟩) p4 p5
        · exact t9 i' j' w y' p1 p2 (Or.inl (by omega)) p4 p5
    unfold fs_reachNeighbours_22
    rw [if_neg (nI_ge hj (by omega)), pq_grows Hx (by omega) (by omega), Option.bind_some]
    rcases (show pq_grow a b c (pr_hn b c a (Q.getD k 0)) i j = false ∨ pq_grow a b c (pr_hn b c a (Q.getD k 0)) i j = true by cases pq_grow a b c (pr_hn b c a (Q.getD k 0)) i j <;> simp) with e | e
    · rw [e, if_pos (show pq_b false = 0 from rfl)]
      refine off z ?_
      obtain ⟨Q1, dd1, q1, q2, q3, q4, q5⟩ := hs
      refine ⟨Q1, dd1, q1, q2, q3, q4, fun i' j' w y p1 p2 p3 p4 p5 => ?_⟩
      rcases p3 with p | ⟨p, _, pw⟩
      · exact q5 i' j' w y p1 p2 (Or.inl p) p4 p5
      · have e1 : i' = i := by omega
        have e2 : j' = j := by omega
        subst e1 e2 pw
        have := p4.1
        rw [show pq_chg true a b c (pr_hn b c a (Q.getD k 0)) i' j' = pq_grow a b c (pr_hn b c a (Q.getD k 0)) i' j' from rfl, e] at this
        cases this
    · rw [e, if_neg (show ¬ pq_b true = 0 by decide)]
      obtain ⟨y, z2, t1, t2, ⟨d, t3, t4⟩, Q2, dd2, t5, t6, t7, t8, t9, t10⟩ := pr_try true ha o hm hN hk hx hex hi hj hs e
      rw [pq_cube (by omega) (by omega), Option.bind_some, pr_inc (by omega), show lN (pq_enc (pq_u (pr_hn b c a (Q.getD k 0)) (4 * i + j) (pr_hn b c a (Q.getD k 0) (4 * i + j) + 1)) 16) = lN (pq_enc (pr_hn b c a y) 16) from t1, t2, Option.bind_some]
      dsimp only
      rw [t3, Option.bind_some, nI_1, t4, Option.bind_some]
      refine off z2 ⟨Q2, dd2, t5, t6, t7, t8, fun i' j' w y' p1 p2 p3 p4 p5 => ?_⟩
      rcases p3 with p | ⟨p, _, pw⟩
      · exact t9 i' j' w y' p1 p2 (Or.inl p) p4 p5
      · have e1 : i' = i := by omega
        have e2 : j' = j := by omega
        subst e1 e2 pw
        exact t10 y' p4 p5
  have row : ∀ (z : kx_S) (i : Nat), i < a → pr_es a b c m f t zx Q k (4 * i + 0) false z → ∃ z', ls_reachNeighbours_22 (nI a) (nI b) (nI c) 5000 (nI (Q.getD k 0)) (lN (pq_enc (pr_hn b c a (Q.getD k 0)) 16)) (nI i) 0 z = some (nI (Q.getD k 0), lN (pq_enc (pr_hn b c a (Q.getD k 0)) 16), nI i, z') ∧ pr_es a b c m f t zx Q k (4 * (i + 1) + 0) false z' := by
    intro z i hi hs
    unfold ls_reachNeighbours_22
    obtain ⟨r, r1, z', rfl, r2⟩ := kq_it0 (step := fun (s : (Int32 × Int64 × Int32 × Int32 × kx_S)) => fs_reachNeighbours_22 (nI a) (nI b) (nI c) (s.1) (s.2.1) (s.2.2.1) (s.2.2.2.1) (s.2.2.2.2))
      (fun j s => ∃ z', s = (nI (Q.getD k 0), lN (pq_enc (pr_hn b c a (Q.getD k 0)) 16), nI i, nI j, z') ∧ pr_es a b c m f t zx Q k (4 * i + j) false z')
      (fun r => ∃ z', r = (nI (Q.getD k 0), lN (pq_enc (pr_hn b c a (Q.getD k 0)) 16), nI i, z') ∧ pr_es a b c m f t zx Q k (4 * i + b) false z') b (by omega) (by
        rintro j s hj ⟨z1, rfl, g⟩
        obtain ⟨z2, c1, c2⟩ := cell z1 i j hi hj g
        exact ⟨_, c1, z2, rfl, c2⟩) (by
        rintro s ⟨z1, rfl, g⟩
        refine ⟨_, ?_, z1, rfl, g⟩
        dsimp only
        unfold fs_reachNeighbours_22
        rw [if_pos (nI_le (Nat.le_refl b) (by omega))])
      (s := (nI (Q.getD k 0), lN (pq_enc (pr_hn b c a (Q.getD k 0)) 16), nI i, 0, z)) ⟨z, rfl, hs⟩
    refine ⟨z', r1, ?_⟩
    obtain ⟨Q1, dd1, q1, q2, q3, q4, q5⟩ := r2
    refine ⟨Q1, dd1, q1, q2, q3, q4, fun i' j' w y p1 p2 p3 p4 p5 => ?_⟩
    rcases p3 with p | p
    · exact q5 i' j' w y p1 p2 (Or.inl (by omega)) p4 p5
    · exact absurd p.2.1 (by decide)
  have all : ∃ z', ls_reachNeighbours_10 (nI a) (nI b) (nI c) 5000 (nI (Q.getD k 0)) (lN (pq_enc (pr_hn b c a (Q.getD k 0)) 16)) 0 zx = some z' ∧ pr_es a b c m f t zx Q k (4 * a + 0) false z' := by
    unfold ls_reachNeighbours_10
    obtain ⟨r, r1, r2⟩ := kq_it0 (step := fun (s : (Int32 × Int64 × Int32 × kx_S)) => fs_reachNeighbours_10 (nI a) (nI b) (nI c) (s.1) (s.2.1) (s.2.2.1) (s.2.2.2))
      (fun i s => ∃ z', s = (nI (Q.getD k 0), lN (pq_enc (pr_hn b c a (Q.getD k 0)) 16), nI i, z') ∧ pr_es a b c m f t zx Q k (4 * i + 0) false z')
      (fun z' => pr_es a b c m f t zx Q k (4 * a + 0) false z') a (by omega) (by
        rintro i s hi ⟨z1, rfl, g⟩
        obtain ⟨z2, c1, c2⟩ := row z1 i hi g
        dsimp only
        unfold fs_reachNeighbours_10
        rw [if_neg (nI_ge hi (by omega)), c1, Option.bind_some, nI_1]
        exact ⟨_, rfl, z2, rfl, c2⟩) (by
        rintro s ⟨z1, rfl, g⟩
        refine ⟨z1, ?_, g⟩
        dsimp only
        unfold fs_reachNeighbours_10
        rw [if_pos (nI_le (Nat.le_refl a) (by omega))])
      (s := (nI (Q.getD k 0), lN (pq_enc (pr_hn b c a (Q.getD k 0)) 16), 0, zx)) ⟨zx, rfl, start⟩
    exact ⟨r, r1, r2⟩
  obtain ⟨z', n1, Q1, dd1, q1, q2, ⟨e, q3⟩, q4, q5⟩ := all
  have hkQ : k < Q1.length := by rw [q3, List.length_append]; omega
  have gk : Q1.getD k 0 = Q.getD k 0 := by
    rw [q3, List.getD_eq_getElem?_getD, List.getElem?_append_left hk, ← List.getD_eq_getElem?_getD]
  refine ⟨z', Q1, dd1, ?_, q1, pr_BI_next q2 hkQ fun _ y hy => ?_, hkQ, q4⟩
  · unfold fs_reachNeighbours
    rw [pr_xl0 (by omega), hcs.1.2 _ hx, Option.bind_some, n1, Option.bind_some]
  · rw [gk] at hy
    obtain ⟨⟨_, y1, y2⟩, y3⟩ := hy
    obtain ⟨i, j, hi, hj, w, hw, ew⟩ := (pr_step Hx (pr_hn_hv ha o hm y1)).mp y2
    exact q5 i j w y hi hj (Or.inl (by omega)) ⟨hw, y1, ew⟩ (Bool.eq_false_iff.mpr y3)
/-- shortest(box, from, to), behind prepare -/
theorem pr_shortest {a b c m f t : Nat} {zx : kx_S} (ha : 1 ≤ a ∧ a ≤ 4) (o : pr_ok b c) (hm : a * b * c ≤ 48) (hN : pq_U b c a (pr_N b c - 1) ≤ 200) (hf : f < pq_U b c a (pr_N b c - 1)) (ht : t < pq_U b c a (pr_N b c - 1)) (hs : pr_hs a b c zx) (h11 : zx.1 11 = 0) (hst : ∀ n, n < pq_U b c a (pr_N b c - 1) → zx.2.1 2 n = if pr_fb b c a m n then -2 else -1) :
    ∃ zx' v, fs_shortest (nI a) (nI b) (nI c) (lN (pq_enc (pr_hn b c a f) 16)) (lN (pq_enc (pr_hn b c a t) 16)) zx = some (v, zx') ∧ pr_sf zx zx' ∧ ((∃ d, pr_ds (pr_adj a b c) (pr_exp a b c m f t) f d t ∧ v = nI d) ∨ ((∀ j, ¬ pr_P (pr_adj a b c) (pr_exp a b c m f t) f j t) ∧ v = -1000000)) := by
  have blf : pr_bl b c a m f t f = false := by unfold pr_bl; rw [decide_eq_false (fun q => q.1 rfl), Bool.and_false]
  have blt : pr_bl b c a m f t t = false := by unfold pr_bl; rw [decide_eq_false (fun q => q.2 rfl), Bool.and_false]
  have same : ∀ j, pr_P (pr_adjb a b c m f t) (pr_exp a b c m f t) f j t ↔ pr_P (pr_adj a b c) (pr_exp a b c m f t) f j t := by
    refine pr_P_bl (bl := fun y => pr_bl b c a m f t y = true) (fun y hy hb => ?_) (by rw [blt]; decide) fun x y => Iff.rfl
    unfold pr_bl at hb
    rw [Bool.and_eq_true, decide_eq_true_eq] at hb
    rcases hy with q | q
    · exact hb.2.1 q
    · rw [q.2] at hb; exact absurd hb.1 (by decide)
  have dsame : ∀ d, pr_ds (pr_adjb a b c m f t) (pr_exp a b c m f t) f d t → pr_ds (pr_adj a b c) (pr_exp a b c m f t) f d t := fun d h => ⟨(same d).mp h.1, fun j hj hp => h.2 j hj ((same j).mpr hp)⟩
  -- the two ends are opened
  have z4 : ∀ n, n < pq_U b c a (pr_N b c - 1) → upd (upd (zx.2.1 2) t (-1)) f (-1) n = if pr_bl b c a m f t n then -2 else -1 := by
    intro n hn
    by_cases e1 : n = f
    · subst e1; rw [pk_us, blf]; rfl
    · rw [pk_un e1]
      by_cases e2 : n = t
      · subst e2; rw [pk_us, blt]; rfl
      · rw [pk_un e2, hst n hn]
        have : pr_bl b c a m f t n = pr_fb b c a m n := by unfold pr_bl; rw [decide_eq_true ⟨e1, e2⟩, Bool.and_true]
        rw [this]
  have cs0 : pr_cs a b c m f t (zx.1, va_up zx.2.1 2 (upd (upd (zx.2.1 2) t (-1)) f (-1)), zx.2.2) [] (fun _ => 0) := by
    refine ⟨hs, by dsimp only; rw [h11]; rfl, fun i hi => absurd hi (by simp), fun y hy => ?_, fun y hy => absurd hy (by simp)⟩
    dsimp only
    rw [va_up_self, z4 y hy, if_neg (show ¬ y ∈ ([] : List Nat) by simp)]
  obtain ⟨z1, r1, r2, r3⟩ := (pr_reach (d := 0) hN cs0 (by simp) (fun y hy => absurd hy (by simp)) hf).2 (by simp) blf
  have sf1 : pr_sf zx z1 := pr_sf_t (z' := (zx.1, va_up zx.2.1 2 (upd (upd (zx.2.1 2) t (-1)) f (-1)), zx.2.2)) ⟨fun _ _ _ => rfl, fun k q1 q2 => va_up_ne _ _ q1, rfl⟩ r3
  have bi0 : pr_BI (pr_adjb a b c m f t) (pr_exp a b c m f t) f [f] (pq_u (fun _ => 0) f 0) 0 := pr_BI_0 (by unfold pq_u; rw [if_pos rfl])
  unfold fs_shortest
  rw [pr_indexOf ha o hm hN hs hf, Option.bind_some]
  dsimp only
  rw [pr_indexOf ha o hm hN hs ht, Option.bind_some]
  dsimp only
  rw [if_neg (nI_pos (by omega)), if_pos (nI_pos' (by omega)), kq_xwr (show t < 200 by omega) kq_kx, Option.bind_some, kq_xwr (show f < 200 by omega) kq_kx, Option.bind_some]
  dsimp only
  rw [va_up_self, bx_uu, show fs_reach (nI f) 0 (zx.1, va_up zx.2.1 2 (upd (upd (zx.2.1 2) t (-1)) f (-1)), zx.2.2) = some z1 from r1, Option.bind_some]
  unfold ls_shortest_54
  obtain ⟨r, l1, zx', Q, dd, rfl, l2, l3, l4, l5, l6⟩ := kq_ite0 (step := fun (s : (Int32 × Int32 × kx_S)) => fs_shortest_54 (nI a) (nI b) (nI c) (s.1) (s.2.1) (s.2.2))
    (fun k s => ∃ z Q dd, s = (nI t, nI k, z) ∧ pr_cs a b c m f t z Q dd ∧ pr_BI (pr_adjb a b c m f t) (pr_exp a b c m f t) f Q dd k ∧ k ≤ Q.length ∧ pr_sf zx z)
    (fun r => ∃ z Q dd, r = (nI t, z) ∧ pr_cs a b c m f t z Q dd ∧ pr_sf zx z ∧ (∀ y, y ∈ Q → dd y < 200) ∧ (t ∈ Q → pr_ds (pr_adjb a b c m f t) (pr_exp a b c m f t) f (dd t) t) ∧ (t ∉ Q → ∀ j, ¬ pr_P (pr_adjb a b c m f t) (pr_exp a b c m f t) f j t)) (pq_U b c a (pr_N b c - 1)) (by omega) (by
      rintro k s hk ⟨z, Q, dd, rfl, g1, g2, g3, g4⟩
      have len := pr_cs_len g1 g2.1
      dsimp only
      unfold fs_shortest_54
      rw [g1.2.1]
      by_cases c1 : Q.length ≤ k
      · rw [if_pos (nI_le c1 (by omega))]
        exact Or.inr ⟨_, rfl, z, Q, dd, rfl, g1, g4, (fun y hy => by have := g2.2.2.2.2.2.2 y hy; omega), g2.2.2.1 t, fun hq j hp => hq (pr_BI_all g2 c1 j t hp)⟩
      · have kl : k < Q.length := by omega
        rw [if_neg (nI_ge kl (by omega)), kq_xrd (show t < 200 by omega) kq_kx, Option.bind_some, g1.2.2.2.1 t ht]
        by_cases c2 : t ∈ Q
        · have := g2.2.2.2.2.2.2 t c2
          rw [if_pos c2, if_pos (nI_pos' (by omega))]
          exact Or.inr ⟨_, rfl, z, Q, dd, rfl, g1, g4, (fun y hy => by have := g2.2.2.2.2.2.2 y hy; omega), g2.2.2.1 t, fun hq => absurd c2 hq⟩
        · have xin := pr_gDm kl
          have xp : pr_exp a b c m f t (Q.getD k 0) := by
            have nb := (g1.2.2.2.2 _ xin).2
            unfold pr_bl at nb
            unfold pr_exp
            by_cases q1 : Q.getD k 0 = f
            · exact Or.inl q1
            · have q2 : Q.getD k 0 ≠ t := fun e => c2 (e ▸ xin)
              rw [decide_eq_true ⟨q1, q2⟩, Bool.and_true] at nb
              exact Or.inr ⟨q2, nb⟩
          obtain ⟨z2, Q2, dd2, n1, n2, n3, n4, n5⟩ := pr_neigh ha o hm hN kl g1 g2 xp
          rw [if_neg c2, blt, if_neg (show ¬ false = true by decide), if_neg (by decide), kq_xrd (show k < 200 by omega) kq_kx, Option.bind_some, g1.2.2.1 k kl, n1, Option.bind_some, nI_1]
          exact Or.inl ⟨_, rfl, z2, Q2, dd2, rfl, n2, n3, n4, pr_sf_t g4 n5⟩) (by
      rintro s ⟨z, Q, dd, rfl, g1, g2, g3, g4⟩
      have len := pr_cs_len g1 g2.1
      dsimp only
      unfold fs_shortest_54
      rw [g1.2.1, if_pos (nI_le (by omega) (by omega))]
      exact ⟨_, rfl, z, Q, dd, rfl, g1, g4, (fun y hy => by have := g2.2.2.2.2.2.2 y hy; omega), g2.2.2.1 t, fun hq j hp => hq (pr_BI_all g2 (by omega) j t hp)⟩)
    (s := (nI t, 0, z1)) ⟨z1, [f], _, rfl, r2, bi0, by simp, sf1⟩
  rw [l1, Option.bind_some]
  unfold fs_shortest_91
  dsimp only
  rw [kq_xrd (show t < 200 by omega) kq_kx, Option.bind_some, l2.2.2.2.1 t ht]
  by_cases c2 : t ∈ Q
  · have := l4 t c2
    rw [if_pos c2, if_pos (nI_pos' (by omega))]
    exact ⟨zx', _, rfl, l3, Or.inl ⟨dd t, dsame _ (l5 c2), rfl⟩⟩
  · rw [if_neg c2, blt, if_neg (show ¬ false = true by decide), if_neg (by decide)]
    exact ⟨zx', _, rfl, l3, Or.inr ⟨fun j hp => l6 c2 j ((same j).mpr hp), rfl⟩⟩
