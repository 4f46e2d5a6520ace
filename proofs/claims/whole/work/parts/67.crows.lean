/-! THE CLASS'S ROWS -/
theorem pr_ix {m : Nat} (h : m < 5) : kr_ix (nI m) = some m := by
  unfold kr_ix; rw [if_neg (kq_c h (by omega)), nI_clamp (by omega)]
theorem pr_rd {n k : Nat} {r : kr_S} (h : k < n) (hn : n < 2 ^ 31) : kr_rd n r (nI k) = some (r.1 k) := by
  unfold kr_rd; rw [if_neg (kq_c h hn), nI_clamp (by omega)]
theorem pr_wd {n k : Nat} {r : kr_S} {v : Int32} (h : k < n) (hn : n < 2 ^ 31) : kr_wd n r (nI k) v = some (upd r.1 k v, r.2) := by
  unfold kr_wd; rw [if_neg (kq_c h hn), nI_clamp (by omega)]
theorem pr_ru {n m k : Nat} {r : kr_S} (h : k < n) (hn : n < 2 ^ 31) : kr_ru n r m (nI k) = some (r.2.1 m k) := by
  unfold kr_ru; rw [if_neg (kq_c h hn), nI_clamp (by omega)]
theorem pr_wu {n m k : Nat} {r : kr_S} {v : Int32} (h : k < n) (hn : n < 2 ^ 31) : kr_wu n r m (nI k) v = some (r.1, va_up r.2.1 m (upd (r.2.1 m) k v), r.2.2) := by
  unfold kr_wu; rw [if_neg (kq_c h hn), nI_clamp (by omega)]
theorem pr_rl {n m k : Nat} {r : kr_S} (h : k < n) (hn : n < 2 ^ 31) : kr_rl n r m (nI k) = some (r.2.2 m k) := by
  unfold kr_rl; rw [if_neg (kq_c h hn), nI_clamp (by omega)]
theorem pr_wl {n m k : Nat} {r : kr_S} {v : Int64} (h : k < n) (hn : n < 2 ^ 31) : kr_wl n r m (nI k) v = some (r.1, r.2.1, va_up r.2.2 m (vp_updL (r.2.2 m) k v)) := by
  unfold kr_wl; rw [if_neg (kq_c h hn), nI_clamp (by omega)]
theorem pr_fillI {n : Nat} {v : Int32} {f : Nat → Int32} (hn : n < 5000) : ∃ g, fj_fill_53178 n v f = some g ∧ (∀ j, j < n → g j = v) ∧ ∀ j, n ≤ j → g j = f j := by
  unfold fj_fill_53178 lj_fill_53178_5
  refine kq_itb (fun k s => ∃ g, s = (v, nI k, nI n, g) ∧ (∀ j, j < k → g j = v) ∧ ∀ j, n ≤ j → g j = f j) (fun g => (∀ j, j < n → g j = v) ∧ ∀ j, n ≤ j → g j = f j) n hn ⟨f, rfl, fun j hj => absurd hj (by omega), fun _ _ => rfl⟩ ?_ ?_ (fun g h => ⟨g, rfl, h⟩)
  · rintro k s hk ⟨g, rfl, g1, g2⟩
    dsimp only
    unfold fj_fill_53178_5 kj_wa
    rw [if_neg (nI_ge hk (by omega)), if_neg (kq_c hk (by omega)), nI_clamp (by omega), Option.bind_some, nI_1]
    refine ⟨_, rfl, _, rfl, fun j hj => ?_, fun j hj => by rw [pk_un (by omega)]; exact g2 j hj⟩
    by_cases e : j = k
    · subst e; exact pk_us
    · rw [pk_un e]; exact g1 j (by omega)
  · rintro s ⟨g, rfl, g1, g2⟩
    refine ⟨g, ?_, g1, g2⟩
    dsimp only
    unfold fj_fill_53178_5
    rw [if_pos (nI_le (Nat.le_refl n) (by omega))]
theorem pr_fillL {n : Nat} {v : Int64} {f : Nat → Int64} (hn : n < 5000) : ∃ g, fj_fill_d0a16 n v f = some g ∧ (∀ j, j < n → g j = v) ∧ ∀ j, n ≤ j → g j = f j := by
  unfold fj_fill_d0a16 lj_fill_d0a16_6
  refine kq_itb (fun k s => ∃ g, s = (v, nI k, nI n, g) ∧ (∀ j, j < k → g j = v) ∧ ∀ j, n ≤ j → g j = f j) (fun g => (∀ j, j < n → g j = v) ∧ ∀ j, n ≤ j → g j = f j) n hn ⟨f, rfl, fun j hj => absurd hj (by omega), fun _ _ => rfl⟩ ?_ ?_ (fun g h => ⟨g, rfl, h⟩)
  · rintro k s hk ⟨g, rfl, g1, g2⟩
    dsimp only
    unfold fj_fill_d0a16_6 kj_wb
    rw [if_neg (nI_ge hk (by omega)), if_neg (kq_c hk (by omega)), nI_clamp (by omega), Option.bind_some, nI_1]
    refine ⟨_, rfl, _, rfl, fun j hj => ?_, fun j hj => by rw [pk_uLn (by omega)]; exact g2 j hj⟩
    by_cases e : j = k
    · subst e; exact pk_uLs
    · rw [pk_uLn e]; exact g1 j (by omega)
  · rintro s ⟨g, rfl, g1, g2⟩
    refine ⟨g, ?_, g1, g2⟩
    dsimp only
    unfold fj_fill_d0a16_6
    rw [if_pos (nI_le (Nat.le_refl n) (by omega))]
theorem pr_follow {b c : Nat} (o : pr_ok b c) {k : Nat} (hk : k < pr_N b c) : fx_following 1 (nI b) (nI c) (lN (pq_pack (pq_row b c k) * 2 ^ 48)) = some (lN (pq_pack (pq_row b c (min (k + 1) (pr_N b c - 1))) * 2 ^ 48)) :=
  pr_ball (p := fun b c => ∀ k, k < pr_N b c → fx_following 1 (nI b) (nI c) (lN (pq_pack (pq_row b c k) * 2 ^ 48)) = some (lN (pq_pack (pq_row b c (min (k + 1) (pr_N b c - 1))) * 2 ^ 48))) (by decide +kernel) o k hk
theorem pr_row0 {b c : Nat} (o : pr_ok b c) : pq_pack (pq_row b c 0) = 0 := pr_ball (p := fun b c => pq_pack (pq_row b c 0) = 0) (by decide +kernel) o
theorem pr_countUnder {b c : Nat} (o : pr_ok b c) {r : kr_S} (hr : ∀ k, k < pr_N b c → r.1 k = nI (pq_pack (pq_row b c k))) : ∃ r', fr_countUnder (pr_N b c) r = some r' ∧ pq_rok b c (pr_N b c) r' := by
  have hN := pr_N_le o
  obtain ⟨g0, e0, e1, _⟩ := pr_fillI (n := pr_N b c) (v := 1) (f := r.2.1 0) (by omega)
  unfold fr_countUnder
  rw [show (0 : Int32) = nI 0 from rfl, pr_ix (by omega), Option.bind_some, e0, Option.bind_some]
  -- one sum
  have sm : ∀ (r' : kr_S) (m k : Nat), m < 4 → k < pr_N b c → r'.1 = r.1 → (∀ s, s < pr_N b c → r'.2.1 m s = nI (pq_U b c m s)) → lr_countUnder_33 (pr_N b c) 5000 (nI (m + 1)) (nI k) 0 0 r' = some (nI (m + 1), nI k, nI (pq_U b c (m + 1) k), r') := by
    intro r' m k hm hk h1 h2
    rw [pr_U]
    unfold lr_countUnder_33
    refine kq_run0 (fun t => (nI (m + 1), nI k, nI (pq_sum t (fun s => if pr_LE b c s k then pq_U b c m s else 0)), nI t, r')) (k + 1) rfl (by omega) (fun t ht => ?_) ?_
    · dsimp only
      unfold fr_countUnder_33 fr_countUnder_72
      rw [if_neg (nI_nlt (by omega) (by omega)), pr_rd hk (by omega), Option.bind_some, pr_rd (show t < pr_N b c by omega) (by omega), Option.bind_some, h1, hr k hk, hr t (by omega), pr_covers_row o (by omega) hk, Option.bind_some, pq_sum, nI_1]
      cases e : pr_LE b c t k
      · rw [if_pos (show pq_b false = 0 from rfl), if_neg (by decide)]; rfl
      · rw [if_neg (show ¬ pq_b true = 0 by decide), if_pos rfl, nI_pred, pr_ix (by omega), Option.bind_some, pr_ru (by omega) (by omega), Option.bind_some, h2 t (by omega), nI_add]
    · dsimp only
      unfold fr_countUnder_33
      rw [if_pos (nI_lt (by omega) (by omega))]
  -- one column
  have col : ∀ (r' : kr_S) (m : Nat), m < 4 → r'.1 = r.1 → (∀ m', m' ≤ m → ∀ s, s < pr_N b c → r'.2.1 m' s = nI (pq_U b c m' s)) → ∃ r'', lr_countUnder_19 (pr_N b c) 5000 (nI (m + 1)) 0 r' = some (nI (m + 1), r'') ∧ r''.1 = r.1 ∧ ∀ m', m' ≤ m + 1 → ∀ s, s < pr_N b c → r''.2.1 m' s = nI (pq_U b c m' s) := by
    intro r' m hm h1 h2
    unfold lr_countUnder_19
    obtain ⟨x, q1, r'', rfl, q2, q3, q4⟩ := kq_it0 (step := fun (s : (Int32 × Int32 × kr_S)) => fr_countUnder_19 (pr_N b c) (s.1) (s.2.1) (s.2.2))
      (fun k s => ∃ r'', s = (nI (m + 1), nI k, r'') ∧ r''.1 = r.1 ∧ (∀ m', m' ≤ m → ∀ s, s < pr_N b c → r''.2.1 m' s = nI (pq_U b c m' s)) ∧ ∀ s, s < k → r''.2.1 (m + 1) s = nI (pq_U b c (m + 1) s))
      (fun x => ∃ r'', x = (nI (m + 1), r'') ∧ r''.1 = r.1 ∧ (∀ m', m' ≤ m → ∀ s, s < pr_N b c → r''.2.1 m' s = nI (pq_U b c m' s)) ∧ ∀ s, s < pr_N b c → r''.2.1 (m + 1) s = nI (pq_U b c (m + 1) s)) (pr_N b c) (by omega) (by
        rintro k s hk ⟨r'', rfl, g1, g2, g3⟩
        dsimp only
        unfold fr_countUnder_19
        rw [if_neg (nI_ge hk (by omega)), sm r'' m k hm hk g1 (g2 m (Nat.le_refl m)), Option.bind_some]
        dsimp only
        rw [pr_ix (by omega), Option.bind_some, pr_wu hk (by omega), Option.bind_some, nI_1]
        refine ⟨_, rfl, _, rfl, g1, fun m' hm' s hs => ?_, fun s hs => ?_⟩
        · dsimp only
          rw [va_up_ne _ _ (by omega)]; exact g2 m' hm' s hs
        · dsimp only
          rw [va_up_self]
          by_cases e : s = k
          · subst e; exact pk_us
          · rw [pk_un e]; exact g3 s (by omega)) (by
        rintro s ⟨r'', rfl, g1, g2, g3⟩
        refine ⟨_, ?_, r'', rfl, g1, g2, g3⟩
        dsimp only
        unfold fr_countUnder_19
        rw [if_pos (nI_le (Nat.le_refl _) (by omega))])
      (s := (nI (m + 1), 0, r')) ⟨r', rfl, h1, h2, fun s hs => absurd hs (by omega)⟩
    refine ⟨r'', q1, q2, fun m' hm' s hs => ?_⟩
    by_cases e : m' = m + 1
    · subst e; exact q4 s hs
    · exact q3 m' (by omega) s hs
  unfold lr_countUnder_12
  refine kq_itb (fun k s => ∃ r'', s = (nI (k + 1), r'') ∧ r''.1 = r.1 ∧ ∀ m', m' ≤ k → ∀ s, s < pr_N b c → r''.2.1 m' s = nI (pq_U b c m' s))
    (fun r'' => r''.1 = r.1 ∧ ∀ m', m' ≤ 4 → ∀ s, s < pr_N b c → r''.2.1 m' s = nI (pq_U b c m' s)) 4 (by omega) ⟨_, rfl, rfl, fun m' hm' s hs => by
      have : m' = 0 := by omega
      subst this
      dsimp only
      rw [va_up_self, e1 s hs]; rfl⟩ ?_ ?_ ?_
  · rintro k s hk ⟨r'', rfl, g1, g2⟩
    dsimp only
    unfold fr_countUnder_12
    obtain ⟨r3, q1, q2, q3⟩ := col r'' k hk g1 g2
    rw [if_neg (show ¬ (4 : Int32) < nI (k + 1) from nI_nlt (a := 4) (by omega) (by omega)), q1, Option.bind_some, nI_1]
    exact ⟨_, rfl, r3, rfl, q2, q3⟩
  · rintro s ⟨r'', rfl, g1, g2⟩
    exact ⟨_, rfl, g1, g2⟩
  · rintro r'' ⟨g1, g2⟩
    exact ⟨_, rfl, rfl, fun k hk => by rw [g1]; exact hr k hk, fun m k hm hk => g2 m (by omega) k hk⟩
theorem pr_rowIn0 {p : Nat} (hp : p < 32768) : fx_rowIn (lN (p * 2 ^ 48)) 0 = some (nI p) := by
  unfold fx_rowIn
  rw [show (48 : Int32) - 16 * 0 = nI 48 by decide, kq_ushr (by omega) (by omega), kq_and16, show p * 2 ^ 48 / 2 ^ 48 = p by omega, show p % 65536 = p by omega]
theorem pr_init {b c : Nat} (o : pr_ok b c) : ∃ r, fr_init (nI b) (nI c) = some (pr_N b c, r) ∧ pq_rok b c (pr_N b c) r := by
  have hN := pr_N_le o
  unfold fr_init
  rw [nI_add, pr_choose o, Option.bind_some, nI_clamp (by omega), if_neg (not_or.mpr ⟨nI_pos (by omega), by omega⟩)]
  obtain ⟨r, h1, h2⟩ := kq_it0 (step := sr_init (pr_N b c) (nI b) (nI c) (nI (pr_N b c)))
    (fun k s => ∃ r, s = (lN (pq_pack (pq_row b c (min k (pr_N b c - 1))) * 2 ^ 48), nI k, r) ∧ ∀ j, j < k → r.1 j = nI (pq_pack (pq_row b c j)))
    (fun r => ∀ j, j < pr_N b c → r.1 j = nI (pq_pack (pq_row b c j))) (pr_N b c) (by omega) (by
      rintro k s hk ⟨r, rfl, g1⟩
      unfold sr_init
      dsimp only
      rw [if_neg (nI_ge hk (by omega)), show min k (pr_N b c - 1) = k by omega, pr_rowIn0 (pr_pk_le o hk), Option.bind_some, pr_wd hk (by omega), Option.bind_some, pr_follow o hk, Option.bind_some, nI_1]
      refine ⟨_, rfl, _, rfl, fun j hj => ?_⟩
      dsimp only
      by_cases e : j = k
      · subst e; exact pk_us
      · rw [pk_un e]; exact g1 j (by omega)) (by
      rintro s ⟨r, rfl, g1⟩
      refine ⟨r, ?_, g1⟩
      unfold sr_init
      dsimp only
      rw [if_pos (nI_le (Nat.le_refl _) (by omega))])
    (s := (0, 0, kr_0)) ⟨kr_0, by rw [Nat.zero_min, pr_row0 o]; rfl, fun j hj => absurd hj (by omega)⟩
  rw [h1, Option.bind_some]
  obtain ⟨r', h3, h4⟩ := pr_countUnder o h2
  rw [h3, Option.bind_some]
  exact ⟨r', rfl, h4⟩
theorem pr_rok_s {b c n : Nat} {r r' : kr_S} (h : pq_rok b c n r) (h1 : r'.1 = r.1) (h2 : r'.2.1 = r.2.1) : pq_rok b c n r' := ⟨h.1, by rw [h1]; exact h.2.1, by rw [h2]; exact h.2.2⟩
/-! the invariant over changes that it doesn't see -/
theorem pr_Inv_m {cA : Nat → ClassId} {zx : kx_S} {P : va_W} {zm zm' : km_S} {I A : List Nat} (hI : pq_Inv cA zx P zm) (f : pr_fq I A zm zm') (hi : ∀ k, k < 3 → k ∉ I) (ha : ∀ k, k < 4 ∨ k = 18 → k ∉ A) : pq_Inv cA zx P zm' := by
  obtain ⟨hg, ht, hf, hp, hpa, him⟩ := hI
  refine ⟨hg, ?_, ?_, ?_, ?_, ?_⟩
  · rw [f.1 1 (hi 1 (by omega)), f.2 3 (ha 3 (by omega))]; exact ht
  · rw [f.1 2 (hi 2 (by omega))]; exact hf
  · rw [f.2 0 (ha 0 (by omega))]; exact hp
  · rw [f.1 0 (hi 0 (by omega)), f.2 1 (ha 1 (by omega))]; exact hpa
  · rw [f.2 18 (ha 18 (by omega)), f.2 2 (ha 2 (by omega))]; exact him
theorem pr_Inv_x {cA : Nat → ClassId} {zx zx' : kx_S} {P : va_W} {zm : km_S} (hI : pq_Inv cA zx P zm) (h1 : ∀ k, k = 0 ∨ k = 4 ∨ k = 7 ∨ k = 8 → zx'.1 k = zx.1 k) (h2 : ∀ k, k = 0 ∨ k = 4 → zx'.2.1 k = zx.2.1 k) (h3 : ∀ k, k < 4 → zx'.2.2.2 k = zx.2.2.2 k) : pq_Inv cA zx' P zm := by
  obtain ⟨hg, ht, hf, hp, hpa, him⟩ := hI
  refine ⟨?_, ?_, ?_, ?_, ?_, ?_⟩
  · rw [h3 3 (by omega)]; exact hg
  · rw [h1 4 (by omega), h2 0 (by omega)]; exact ht
  · rw [h1 0 (by omega)]; exact hf
  · rw [h3 0 (by omega)]; exact hp
  · rw [h1 7 (by omega), h1 8 (by omega), h3 1 (by omega)]; exact hpa
  · rw [h2 4 (by omega), h3 2 (by omega)]; exact him
/-! one Rows among the cells -/
theorem pr_flat_at {cA : Nat → ClassId} : ∀ {gs : List pq_G} {i : Nat} {g : pq_G}, gs[i]? = some g → pq_flat cA gs = pq_flat cA (gs.take i) ++ (pq_cells cA g ++ pq_flat cA (gs.drop (i + 1)))
  | [], i, g, h => by simp at h
  | x :: gs, 0, g, h => by
    have : x = g := by simpa using h
    subst this; rfl
  | x :: gs, i + 1, g, h => by
    have h' : gs[i]? = some g := by simpa using h
    rw [List.take_succ_cons, List.drop_succ_cons, pq_flat, pq_flat, List.append_assoc, ← pr_flat_at h']
theorem pr_flat_set {cA : Nat → ClassId} : ∀ {gs : List pq_G} {i : Nat} {g g' : pq_G}, gs[i]? = some g → pq_flat cA (gs.set i g') = pq_flat cA (gs.take i) ++ (pq_cells cA g' ++ pq_flat cA (gs.drop (i + 1)))
  | [], i, g, g', h => by simp at h
  | x :: gs, 0, g, g', h => rfl
  | x :: gs, i + 1, g, g', h => by
    have h' : gs[i]? = some g := by simpa using h
    rw [List.take_succ_cons, List.drop_succ_cons, List.set_cons_succ, pq_flat, pq_flat, List.append_assoc, ← pr_flat_set h']
/-- a lookup finds no heap and no box in a Rows -/
theorem pr_pl_w {cA : Nat → ClassId} {X Y : va_W} {a0 : Nat} {q : Nat → Nat} {n : Nat} {r r' : kr_S} {a ci : Nat} {fs : List Value} (hci : ci ≠ 4) (h : kx_pl (X ++ (kr_w cA a0 q n r ++ Y)) a = some (.inr (ci, fs))) : kx_pl (X ++ (kr_w cA a0 q n r' ++ Y)) a = some (.inr (ci, fs)) := by
  unfold kx_pl at *
  rw [List.find?_append] at h ⊢
  cases e : X.find? (fun x => x.1 == a) with
  | some y => rw [e] at h; simpa using h
  | none =>
    rw [e, Option.none_or] at h
    rw [Option.none_or]
    rw [List.find?_append] at h ⊢
    cases e2 : (kr_w cA a0 q n r).find? (fun x => x.1 == a) with
    | some y =>
      rw [e2, Option.some_or, Option.map_some] at h
      exfalso
      have hy := List.mem_of_find?_eq_some e2
      unfold kr_w at hy
      simp only [List.mem_cons, List.not_mem_nil, or_false] at hy
      have hy2 : y.2 = .inr (ci, fs) := by simpa using h
      rcases hy with rfl | rfl | rfl | rfl | rfl | rfl | rfl | rfl | rfl | rfl
      · simp at hy2; exact hci hy2.1.symm
      all_goals simp at hy2
    | none =>
      have e3 : (kr_w cA a0 q n r').find? (fun x => x.1 == a) = none := by
        rw [List.find?_eq_none] at e2 ⊢
        intro x hx
        unfold kr_w at hx e2
        simp only [List.mem_cons, List.not_mem_nil, or_false] at hx e2
        rcases hx with rfl | rfl | rfl | rfl | rfl | rfl | rfl | rfl | rfl | rfl
        · exact e2 _ (Or.inl rfl)
        · exact e2 (q 0, .inl (cA 0, n, .inl r.1)) (Or.inr (Or.inl rfl))
        · exact e2 _ (Or.inr (Or.inr (Or.inl rfl)))
        · exact e2 (q 2, .inl (cA 0, n, .inl (r.2.1 0))) (Or.inr (Or.inr (Or.inr (Or.inl rfl))))
        · exact e2 (q 3, .inl (cA 0, n, .inl (r.2.1 1))) (Or.inr (Or.inr (Or.inr (Or.inr (Or.inl rfl)))))
        · exact e2 (q 4, .inl (cA 0, n, .inl (r.2.1 2))) (Or.inr (Or.inr (Or.inr (Or.inr (Or.inr (Or.inl rfl))))))
        · exact e2 (q 5, .inl (cA 0, n, .inl (r.2.1 3))) (Or.inr (Or.inr (Or.inr (Or.inr (Or.inr (Or.inr (Or.inl rfl)))))))
        · exact e2 (q 6, .inl (cA 0, n, .inl (r.2.1 4))) (Or.inr (Or.inr (Or.inr (Or.inr (Or.inr (Or.inr (Or.inr (Or.inl rfl))))))))
        · exact e2 (q 7, .inl (cA 1, n, .inr (.inl (r.2.2 0)))) (Or.inr (Or.inr (Or.inr (Or.inr (Or.inr (Or.inr (Or.inr (Or.inr (Or.inl rfl)))))))))
        · exact e2 (q 8, .inl (cA 1, n, .inr (.inl (r.2.2 1)))) (Or.inr (Or.inr (Or.inr (Or.inr (Or.inr (Or.inr (Or.inr (Or.inr (Or.inr rfl)))))))))
      rw [e2, Option.none_or] at h
      rw [e3, Option.none_or]
      exact h
theorem pr_ext_w {cA : Nat → ClassId} {X Y : va_W} {a0 : Nat} {q : Nat → Nat} {n : Nat} {r r' : kr_S} : pq_ext (X ++ (kr_w cA a0 q n r ++ Y)) (X ++ (kr_w cA a0 q n r' ++ Y)) :=
  ⟨fun _ _ h => pq_hp_pl.mpr (pr_pl_w (by decide) (pq_hp_pl.mp h)), fun _ _ h => pq_bx_pl.mpr (pr_pl_w (by decide) (pq_bx_pl.mp h))⟩
theorem pq_ext_r {P : va_W} : pq_ext P P := ⟨fun _ _ h => h, fun _ _ h => h⟩
theorem pq_ext_t {P P' P'' : va_W} (h : pq_ext P P') (h' : pq_ext P' P'') : pq_ext P P'' := ⟨fun a v q => h'.1 a v (h.1 a v q), fun a v q => h'.2 a v (h.2 a v q)⟩
/-- a Rows of (b, c) stands at ad, and may change what it counts with -/
def pr_at (cA : Nat → ClassId) (zx : kx_S) (b c ad : Nat) (q : Nat → Nat) (n : Nat) (r : kr_S) (Pa Pb : va_W) : Prop := pq_rok b c n r ∧ ∀ r', r'.1 = r.1 → r'.2.1 = r.2.1 → ∀ zm', pq_Inv cA zx (Pa ++ (kr_w cA ad q n r ++ Pb)) zm' → pq_Inv cA zx (Pa ++ (kr_w cA ad q n r' ++ Pb)) zm'
theorem pr_at_mk {cA : Nat → ClassId} {zx : kx_S} {gs : List pq_G} {i b c ad : Nat} {q : Nat → Nat} {n : Nat} {r : kr_S} (hr : pq_rws (zx.2.2.2 3) gs) (hi : gs[i]? = some (.inr (ad, q, n, r))) (ho : pq_rok b c n r) : pr_at cA zx b c ad q n r (pq_flat cA (gs.take i)) (pq_flat cA (gs.drop (i + 1))) := by
  refine ⟨ho, fun r' h1 h2 zm' hI => ?_⟩
  refine pq_Inv_ext pr_ext_w ⟨gs.set i (.inr (ad, q, n, r')), (pr_flat_set (cA := cA) (g' := (Sum.inr (ad, q, n, r') : pq_G)) hi).symm, ?_⟩ hI
  intro b' c' b1 b2 c1 c2
  rcases hr b' c' b1 b2 c1 c2 with h | ⟨a, q', n', r2, i', e1, e2, e3⟩
  · exact Or.inl h
  · by_cases e : i = i'
    · subst e
      rw [hi] at e2
      cases e2
      exact Or.inr ⟨ad, q, n, r', i, e1, by rw [List.getElem?_set_self (List.getElem?_eq_some_iff.mp hi).1], pr_rok_s e3 h1 h2⟩
    · exact Or.inr ⟨a, q', n', r2, i', e1, by rw [List.getElem?_set_ne e]; exact e2, e3⟩
theorem pr_Inv_ext {cA : Nat → ClassId} {zx zx' : kx_S} {P P' : va_W} {zm : km_S} (he : pq_ext P P') (hg : ∃ gs, P' = pq_flat cA gs ∧ pq_rws (zx'.2.2.2 3) gs) (h1 : zx'.1 = zx.1) (h2 : zx'.2.1 = zx.2.1) (h3 : ∀ k, k ≠ 3 → zx'.2.2.2 k = zx.2.2.2 k) (hI : pq_Inv cA zx P zm) : pq_Inv cA zx' P' zm := by
  obtain ⟨_, ht, hf, hp, ⟨w, n, w1, w2, w3, w4, w5, w6⟩, him⟩ := hI
  refine ⟨hg, by rw [h1, h2]; exact ht, by rw [h1]; exact hf, fun k hk => by rw [h3 0 (by decide)]; exact pq_blk_ext he (hp k hk), ⟨w, n, w1, w2, by rw [h1]; exact w3, by rw [h1]; exact w4, w5, fun e k q1 q2 => by rw [h3 1 (by decide)]; exact pq_blk_ext he (w6 e k q1 q2)⟩, ?_⟩
  rw [h2, h3 2 (by decide)]
  exact fun t ht => ⟨(him t ht).1, (him t ht).2.imp id fun q => ⟨q.1, fun k hk => pq_blk_ext he (q.2 k hk)⟩⟩
theorem pr_take3 (gs : List pq_G) (x y : pq_G) : (gs ++ ([x] ++ [y])).take gs.length = gs ∧ (gs ++ ([x] ++ [y])).drop (gs.length + 1) = [y] := by
  refine ⟨by simp, ?_⟩
  rw [← List.append_assoc, List.drop_left' (by simp)]
/-- rowsOf(box) -/
theorem pr_rowsOf {cA : Nat → ClassId} {zx : kx_S} {P : va_W} {zm : km_S} (hI : pq_Inv cA zx P zm) {bx b c : Nat} {A : Int32} (hb : kx_bx P bx = some (A, nI b, nI c)) (o : pr_ok b c) {K : Option Nat → kx_S → va_W → Prop}
    (hK : ∀ ad q r Pa Pb zx', (zx'.1 = zx.1 ∧ zx'.2.1 = zx.2.1 ∧ ∀ k, k ≠ 3 → zx'.2.2.2 k = zx.2.2.2 k) → pq_ext P (Pa ++ (kr_w cA ad q (pr_N b c) r ++ Pb)) → pr_at cA zx' b c ad q (pr_N b c) r Pa Pb → pq_Inv cA zx' (Pa ++ (kr_w cA ad q (pr_N b c) r ++ Pb)) zm → K (some ad) zx' (Pa ++ (kr_w cA ad q (pr_N b c) r ++ Pb))) :
    vc_rowsOf cA bx zx P K := by
  obtain ⟨h1, h2, h3, h4⟩ := id o
  obtain ⟨gs, g1, g2⟩ := hI.1
  have ei : (nI b - 1) * 4 + nI c - 1 = nI ((b - 1) * 4 + c - 1) := by
    rw [show nI b - 1 = nI (b - 1) from pk_sub (b := 1) h1, show nI (b - 1) * 4 = nI ((b - 1) * 4) from pk_mul _ 4, nI_add]; exact pk_sub (b := 1) (by omega)
  unfold vc_rowsOf
  refine ⟨_, hb, _, hb, ?_⟩
  dsimp only
  rw [ei]
  refine ⟨zx.2.2.2 3 ((b - 1) * 4 + c - 1), kq_xrr (show (b - 1) * 4 + c - 1 < 16 by omega) kq_kxR, fun hn q6 hq => ?_, fun a4 ha => ?_⟩
  · obtain ⟨r, r1, r2⟩ := pr_init o
    refine ⟨_, pq_ext_app.2 _ _ hb, _, pq_ext_app.2 _ _ hb, (pr_N b c, r), r1, fun qri bxi => ?_⟩
    dsimp only
    refine ⟨⟨qri, pr_N b c, r, P, _, rfl⟩, (zx.1, zx.2.1, zx.2.2.1, va_up zx.2.2.2 3 (va_up (zx.2.2.2 3) ((b - 1) * 4 + c - 1) (some q6))), ?_, ?_⟩
    · unfold kx_wq
      rw [if_neg (kq_c (show (b - 1) * 4 + c - 1 < kx_lenR 3 from (by show (b - 1) * 4 + c - 1 < 16; omega)) kq_kxR), nI_clamp (by omega)]
    · have hrw : pq_rws (va_up (zx.2.2.2 3) ((b - 1) * 4 + c - 1) (some q6)) (gs ++ ([.inr (q6, qri, pr_N b c, r)] ++ [.inl [((bxi, .inr (0, [.int 1, .int (nI b), .int (nI c)])) : Nat × va_E)]])) := by
        intro b' c' b1 b2 c1 c2
        by_cases e : (b' - 1) * 4 + c' - 1 = (b - 1) * 4 + c - 1
        · have eb : b' = b := by omega
          have ec : c' = c := by omega
          subst eb; subst ec
          refine Or.inr ⟨q6, qri, _, r, gs.length, by rw [va_up_self], by simp, r2⟩
        · rw [va_up_ne _ _ e]
          exact pq_rws_app g2 b' c' b1 b2 c1 c2
      have hfl : P ++ (kr_w cA q6 qri (pr_N b c) r ++ [((bxi, .inr (0, [.int 1, .int (nI b), .int (nI c)])) : Nat × va_E)]) = pq_flat cA (gs ++ ([.inr (q6, qri, pr_N b c, r)] ++ [.inl [((bxi, .inr (0, [.int 1, .int (nI b), .int (nI c)])) : Nat × va_E)]])) := by
        rw [pq_flat_app, ← g1, pq_flat_app]
        simp [pq_flat, pq_cells]
      have hat := pr_at_mk (cA := cA) (zx := (zx.1, zx.2.1, zx.2.2.1, va_up zx.2.2.2 3 (va_up (zx.2.2.2 3) ((b - 1) * 4 + c - 1) (some q6)))) (i := gs.length) (b := b) (c := c) (ad := q6) (q := qri) (n := pr_N b c) (r := r) (gs := gs ++ ([.inr (q6, qri, pr_N b c, r)] ++ [.inl [((bxi, .inr (0, [.int 1, .int (nI b), .int (nI c)])) : Nat × va_E)]])) (by dsimp only; rw [va_up_self]; exact hrw) (by simp) r2
      rw [(pr_take3 _ _ _).1, ← g1, (pr_take3 _ _ _).2, show pq_flat cA [Sum.inl [((bxi, .inr (0, [.int 1, .int (nI b), .int (nI c)])) : Nat × va_E)]] = [((bxi, .inr (0, [.int 1, .int (nI b), .int (nI c)])) : Nat × va_E)] from rfl] at hat
      refine hK q6 qri r P _ _ ⟨rfl, rfl, fun k hk => va_up_ne _ _ hk⟩ pq_ext_app hat ?_
      refine pr_Inv_ext (zx := zx) pq_ext_app ⟨_, hfl, ?_⟩ rfl rfl (fun k hk => va_up_ne _ _ hk) hI
      dsimp only
      rw [va_up_self]; exact hrw
  · rcases g2 b c h1 h2 h3 h4 with h | ⟨a, q, n, r, i, e1, e2, e3⟩
    · rw [h] at ha; cases ha
    · rw [e1] at ha
      cases ha
      have hn : n = pr_N b c := e3.1
      subst hn
      have hat := pr_at_mk (cA := cA) g2 e2 e3
      have hfl := pr_flat_at (cA := cA) e2
      rw [← g1] at hfl
      have hIc := hI
      rw [hfl] at hIc ⊢
      refine hK _ q r _ _ zx ⟨rfl, rfl, fun _ _ => rfl⟩ (show pq_ext P _ from by have := pq_ext_r (P := P); rw [hfl] at this ⊢; exact this) hat hIc
