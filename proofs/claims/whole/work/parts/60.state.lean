/-! what is kept and brought back -/
theorem pq_blk_cg {P : va_W} {r : Option Nat} {f f' : Nat → Int32} {o o' : Nat} (h : ∀ t, t < 20 → f (o + t) = f' (o' + t)) (b : pq_blk P r f o) : pq_blk P r f' o' := by
  rcases b with ⟨h1, h2⟩ | ⟨a, b, c, hh, ad, bx, h1, h2, h3, h4, h5, h6, h7, h8, h9⟩
  · exact Or.inl ⟨h1, fun t ht => by rw [← h t ht, h2 t ht]⟩
  · refine Or.inr ⟨a, b, c, hh, ad, bx, h1, h2, h3, h4, ?_, ?_, ?_, ?_, fun t ht => ?_⟩
    · have := h 0 (by omega); rw [Nat.add_zero, Nat.add_zero] at this; rw [← this, h5]
    · rw [← h 1 (by omega), h6]
    · rw [← h 2 (by omega), h7]
    · rw [← h 3 (by omega), h8]
    · have := h (4 + t) (by omega); rw [← Nat.add_assoc, ← Nat.add_assoc] at this; rw [← this, h9 t ht]
theorem pq_blk_hp {P : va_W} {r : Option Nat} {f : Nat → Int32} {o : Nat} (b : pq_blk P r f o) : r.all (fun a => (kx_hp P a).isSome) = true := by
  rcases b with ⟨h1, _⟩ | ⟨a, b, c, hh, ad, bx, h1, h2, h3, _⟩
  · rw [h1]; rfl
  · rw [h1]; simp [h3]
theorem pq_copy {P : va_W} {k0 k2 i j : Nat} {z : kx_S} (hk : k0 ≠ k2) (hi : i + 4 ≤ kx_lenR k0) (hj : j + 4 ≤ kx_lenR k2) (hh : ∀ t, t < 4 → (z.2.2.2 k0 (i + t)).all (fun a => (kx_hp P a).isSome) = true) :
    fc_copyPlaces P k0 k2 (nI i) (nI j) z = some (z.1, z.2.1, z.2.2.1, va_up z.2.2.2 k2 (va_cpy (z.2.2.2 k0) (z.2.2.2 k2) i j 4)) := by
  have hb0 : kx_lenR k0 < 2 ^ 31 := kq_kxR
  have hb2 : kx_lenR k2 < 2 ^ 31 := kq_kxR
  unfold fc_copyPlaces lc_copyPlaces_3
  refine kq_runb (fun k => (nI i, nI j, nI k, (z.1, z.2.1, z.2.2.1, va_up z.2.2.2 k2 (va_cpy (z.2.2.2 k0) (z.2.2.2 k2) i j k)))) 4 (z.1, z.2.1, z.2.2.1, va_up z.2.2.2 k2 (va_cpy (z.2.2.2 k0) (z.2.2.2 k2) i j 4)) ?_ (by omega) (fun k hk4 => ?_) rfl rfl
  · have : va_cpy (z.2.2.2 k0) (z.2.2.2 k2) i j 0 = z.2.2.2 k2 := by
      funext t; unfold va_cpy; rw [if_neg (by omega)]
    rw [this, kj_upf]; rfl
  · dsimp only
    unfold fc_copyPlaces_3
    rw [if_neg (show ¬ (4 : Int32) ≤ nI k from nI_ge (b := 4) hk4 (by omega)), nI_add, nI_add, kq_xrr (by omega) hb0, Option.bind_some]
    dsimp only
    rw [va_up_ne _ _ hk]
    unfold kx_wh
    rw [if_pos (hh k hk4)]
    unfold kx_wq
    rw [if_neg (kq_c (by omega) hb2), nI_clamp (by omega), Option.bind_some, nI_1]
    dsimp only
    rw [bx_uu, va_up_self]
    have : va_up (va_cpy (z.2.2.2 k0) (z.2.2.2 k2) i j k) (j + k) (z.2.2.2 k0 (i + k)) = va_cpy (z.2.2.2 k0) (z.2.2.2 k2) i j (k + 1) := by
      funext t
      by_cases h : t = j + k
      · subst h
        rw [va_up_self]; unfold va_cpy
        rw [if_pos (by omega), show j + k - j = k by omega]
      · rw [va_up_ne _ _ h]; unfold va_cpy
        by_cases h2 : j ≤ t ∧ t < j + k
        · rw [if_pos h2, if_pos (by omega)]
        · rw [if_neg h2, if_neg (by omega)]
    rw [this]
/-- how many, and how large, on one place -/
theorem pq_blk_vol {P : va_W} {r : Option Nat} {f : Nat → Int32} {o : Nat} (b : pq_blk P r f o) : ∃ h : Nat → Nat, (∀ t, t < 16 → f (o + 4 + t) = nI (h t)) ∧ ((r = none ∧ f o = 0 ∧ pq_sum 16 h = 0) ∨ ∃ ad u, r = some ad ∧ f o = 1 ∧ kx_hp P ad = some u ∧ fh_volume u.2 = some (nI (pq_sum 16 h))) := by
  rcases b with ⟨h1, h2⟩ | ⟨a, b, c, h, ad, bx, h1, h2, h3, h4, h5, h6, h7, h8, h9⟩
  · refine ⟨fun _ => 0, fun t ht => ?_, Or.inl ⟨h1, ?_, pq_sum_zero⟩⟩
    · rw [Nat.add_assoc, h2 (4 + t) (by omega)]; rfl
    · have := h2 0 (by omega); rwa [Nat.add_zero] at this
  · refine ⟨h, h9, Or.inr ⟨ad, _, h1, h5, h3, ?_⟩⟩
    unfold fh_volume
    rw [pq_volume (pq_hv_h h2)]; rfl
theorem pq_choose1 {p : Nat → Nat → Prop} {n : Nat} (h : ∀ i, i < n → ∃ k, p i k) : ∃ V : Nat → Nat, ∀ i, i < n → p i (V i) := by
  have h' : ∀ i, ∃ k, i < n → p i k := fun i => by
    by_cases q : i < n
    · obtain ⟨k, hk⟩ := h i q
      exact ⟨k, fun _ => hk⟩
    · exact ⟨0, fun x => absurd x q⟩
  exact ⟨fun i => Classical.choose (h' i), fun i => Classical.choose_spec (h' i)⟩
theorem pq_heapsOn {P : va_W} {zx : kx_S} {zm : km_S} (hp : ∀ k, k < 4 → pq_blk P (zx.2.2.2 0 k) (zm.2.1 0) (20 * k)) : ∃ v, fc_heapsOnPlaces P zx = some (v, zx) ∧ fm_heapsMany zm = some (v, zm) := by
  have key : ∀ k, k < 4 → ∃ n, zm.2.1 0 (20 * k) = nI n ∧ ∀ x, fc_heapsOnPlaces_4 P (nI x) (nI k) zx = some (.inl (nI (x + n), nI (k + 1), zx)) := by
    intro k hk
    obtain ⟨h, _, q⟩ := pq_blk_vol (hp k hk)
    have st : ∀ x, fc_heapsOnPlaces_4 P (nI x) (nI k) zx = kx_on (zx.2.2.2 0 k) (fc_heapsOnPlaces_21 P (nI x) (nI k) zx) (fun a2 => fc_heapsOnPlaces_21 P (nI x + 1) (nI k) zx) := by
      intro x
      unfold fc_heapsOnPlaces_4
      rw [if_neg (show ¬ (4 : Int32) ≤ nI k from nI_ge (b := 4) hk (by omega)), kq_xrr (show k < kx_lenR 0 from hk) kq_kxR]; rfl
    rcases q with ⟨q1, q2, _⟩ | ⟨ad, u, q1, q2, _⟩
    · refine ⟨0, q2, fun x => ?_⟩
      rw [st, q1]
      show some (Sum.inl (nI x, nI k + 1, zx)) = _
      rw [nI_1]; rfl
    · refine ⟨1, q2, fun x => ?_⟩
      rw [st, q1]
      show some (Sum.inl (nI x + 1, nI k + 1, zx)) = _
      rw [nI_1, nI_1]
  obtain ⟨N, hN⟩ := pq_choose1 key
  refine ⟨nI (pq_sum 4 N), ?_, ?_⟩
  · unfold fc_heapsOnPlaces lc_heapsOnPlaces_4
    exact kq_runb (fun k => (nI (pq_sum k N), nI k, zx)) 4 (nI (pq_sum 4 N), zx) rfl (by omega) (fun k hk => (hN k hk).2 _) rfl rfl
  · unfold fm_heapsMany
    rw [show km_rd zm 0 0 = some (nI (N 0)) from pq_rdn (n := 0) (hN 0 (by omega)).1 (by decide), show km_rd zm 0 20 = some (nI (N 1)) from pq_rdn (n := 20) (hN 1 (by omega)).1 (by decide), show km_rd zm 0 40 = some (nI (N 2)) from pq_rdn (n := 40) (hN 2 (by omega)).1 (by decide), show km_rd zm 0 60 = some (nI (N 3)) from pq_rdn (n := 60) (hN 3 (by omega)).1 (by decide)]
    simp only [Option.bind_some, nI_add, pq_sum, Nat.zero_add]
theorem pq_volumeOn {P : va_W} {zx : kx_S} {zm : km_S} (hp : ∀ k, k < 4 → pq_blk P (zx.2.2.2 0 k) (zm.2.1 0) (20 * k)) : ∃ v0 v1 v2 v3, fc_volumeOnPlaces P zx = some (nI (v0 + v1 + v2 + v3), zx) ∧ fm_volume 0 0 zm = some (nI v0, zm) ∧ fm_volume 0 20 zm = some (nI v1, zm) ∧ fm_volume 0 40 zm = some (nI v2, zm) ∧ fm_volume 0 60 zm = some (nI v3, zm) := by
  have key : ∀ k, k < 4 → ∃ n, fm_volume 0 (nI (20 * k)) zm = some (nI n, zm) ∧ ∀ x, fc_volumeOnPlaces_4 P (nI x) (nI k) zx = some (.inl (nI (x + n), nI (k + 1), zx)) := by
    intro k hk
    obtain ⟨h, hh, q⟩ := pq_blk_vol (hp k hk)
    refine ⟨pq_sum 16 h, pm_volume hh (by show 20 * k + 20 ≤ 80; omega), fun x => ?_⟩
    have st : fc_volumeOnPlaces_4 P (nI x) (nI k) zx = kx_on (zx.2.2.2 0 k) (fc_volumeOnPlaces_27 P (nI x) (nI k) zx) (fun a2 => (kx_hp P a2).bind fun u4 => (fh_volume u4.2).bind fun o7 => fc_volumeOnPlaces_27 P (nI x + o7) (nI k) zx) := by
      unfold fc_volumeOnPlaces_4
      rw [if_neg (show ¬ (4 : Int32) ≤ nI k from nI_ge (b := 4) hk (by omega)), kq_xrr (show k < kx_lenR 0 from hk) kq_kxR]; rfl
    rcases q with ⟨q1, q2, q3⟩ | ⟨ad, u, q1, q2, q3, q4⟩
    · rw [st, q1, q3]
      show some (Sum.inl (nI x, nI k + 1, zx)) = _
      rw [nI_1]; rfl
    · rw [st, q1]
      simp only [kx_on, q3, q4, Option.bind_some]
      show some (Sum.inl (nI x + nI (pq_sum 16 h), nI k + 1, zx)) = _
      rw [nI_1, nI_add]
  obtain ⟨N, hN⟩ := pq_choose1 key
  refine ⟨N 0, N 1, N 2, N 3, ?_, (hN 0 (by omega)).1, (hN 1 (by omega)).1, (hN 2 (by omega)).1, (hN 3 (by omega)).1⟩
  rw [show N 0 + N 1 + N 2 + N 3 = pq_sum 4 N by simp only [pq_sum, Nat.zero_add]]
  unfold fc_volumeOnPlaces lc_volumeOnPlaces_4
  exact kq_runb (fun k => (nI (pq_sum k N), nI k, zx)) 4 (nI (pq_sum 4 N), zx) rfl (by omega) (fun k hk => (hN k hk).2 _) rfl rfl
/-- count(what) -/
theorem pq_s27 (cA : Nat → ClassId) : kl_s27 cA (pq_Inv cA) := by
  intro zx P zm hI a1
  obtain ⟨hg, ht, hf, hp, hpa, him⟩ := id hI
  unfold fc_count fm_count
  by_cases c0 : a1 = 0
  · obtain ⟨v, v1, v2⟩ := pq_heapsOn hp
    rw [if_pos c0, if_pos c0, v1, v2]
    exact ⟨_, rfl, _, rfl, rfl, hI⟩
  rw [if_neg c0, if_neg c0]
  by_cases c1 : a1 = 1
  · obtain ⟨v0, v1, v2, v3, w, w0, w1, w2, w3⟩ := pq_volumeOn hp
    rw [if_pos c1, if_pos c1, w, w0, Option.bind_some, Option.bind_some, w1, Option.bind_some, w2, Option.bind_some, w3, Option.bind_some]
    exact ⟨_, rfl, _, rfl, by dsimp only; rw [nI_add, nI_add, nI_add], hI⟩
  rw [if_neg c1, if_neg c1]
  by_cases c2 : a1 = 2
  · obtain ⟨w, n, _, _, _, e1, e2, _⟩ := hpa
    rw [if_pos c2, if_pos c2, e1, e2]
    exact ⟨_, rfl, _, rfl, rfl, hI⟩
  rw [if_neg c2, if_neg c2]
  by_cases c3 : a1 = 3
  · obtain ⟨n, _, e1, e2, _⟩ := ht
    rw [if_pos c3, if_pos c3, e1, e2]
    exact ⟨_, rfl, _, rfl, rfl, hI⟩
  rw [if_neg c3, if_neg c3]
  exact ⟨_, rfl, _, rfl, rfl, hI⟩
theorem pq_cpy_in {α : Type} {f g : Nat → α} {i j n t : Nat} (ht : t < n) : va_cpy f g i j n (j + t) = f (i + t) := by
  unfold va_cpy; rw [if_pos (by omega), show j + t - j = t by omega]
theorem pq_cpy_out {α : Type} {f g : Nat → α} {i j n t : Nat} (ht : ¬ (j ≤ t ∧ t < j + n)) : va_cpy f g i j n t = g t := by
  unfold va_cpy; rw [if_neg ht]
/-- four places copied, eighty ints brought -/
theorem pq_blk4 {P : va_W} {R R' : Nat → Option Nat} {f g : Nat → Int32} {i j i' j' : Nat} (h : ∀ k, k < 4 → pq_blk P (R (i + k)) f (i' + 20 * k)) : ∀ k, k < 4 → pq_blk P (va_cpy R R' i j 4 (j + k)) (va_cpy f g i' j' 80) (j' + 20 * k) := by
  intro k hk
  rw [pq_cpy_in hk]
  refine pq_blk_cg (fun t ht => ?_) (h k hk)
  rw [Nat.add_assoc, Nat.add_assoc, pq_cpy_in (by omega)]
/-- image(k) -/
theorem pq_s25 (cA : Nat → ClassId) : kl_s25 cA (pq_Inv cA) := by
  intro zx P zm hI a1
  obtain ⟨hg, ht, hf, hp, hpa, him⟩ := id hI
  unfold fc_image fm_image
  rw [show (1 : Int32) = nI 1 from rfl, pq_in0 (by omega)]
  rcases pq_ix a1 (n := 2) (by omega) (by omega) with q | ⟨k, hk, rfl⟩
  · rw [if_pos q.2]
    by_cases c1 : a1 < 0
    · rw [if_pos c1]; exact ⟨_, rfl, _, rfl, rfl, hI⟩
    · rw [if_neg c1, if_neg (Int32.not_lt.mpr (show (2 : Int32) ≤ a1 from q.1.resolve_left c1))]
      exact ⟨_, rfl, _, rfl, rfl, hI⟩
  · rw [if_neg (nI_pos (by omega)), if_pos (show nI k < (2 : Int32) from nI_lt (b := 2) hk (by omega)), if_neg (not_or.mpr ⟨nI_pos (by omega), nI_nlt (by omega) (by omega)⟩), show nI k * 4 = nI (4 * k) by rw [Nat.mul_comm]; exact pk_mul k 4, show (80 : Int32) * nI k = nI (80 * k) from pk_mul 80 k, show (0 : Int32) = nI 0 from rfl, pq_copy (by decide) (by decide) (show 4 * k + 4 ≤ 8 by omega) (fun t ht => by rw [Nat.zero_add]; exact pq_blk_hp (hp t ht)), Option.bind_some, Option.bind_some, if_neg (by decide)]
    unfold kx_wz km_wz
    rw [if_neg (kq_c (show k < kx_len 4 from hk) kq_kx), if_neg (kq_c (show k < km_len 18 from hk) kq_km), nI_clamp (by omega), Option.bind_some, Option.bind_some, show (80 : Int32) = nI 80 from rfl, kq_bring (by decide) (show 80 * k + 80 ≤ 160 by omega) (by omega) (fun h => absurd h (by decide)), Option.bind_some]
    dsimp only
    have e1 : vp_nar .boolean (nI 1) = 1 := by decide
    rw [e1]
    refine ?_
    have hI' : pq_Inv cA (zx.1, va_up zx.2.1 4 (upd (zx.2.1 4) k 1), zx.2.2.1, va_up zx.2.2.2 2 (va_cpy (zx.2.2.2 0) (zx.2.2.2 2) 0 (4 * k) 4)) P (zm.1, va_up (va_up zm.2.1 18 (upd (zm.2.1 18) k 1)) 2 (va_cpy ((va_up zm.2.1 18 (upd (zm.2.1 18) k 1)) 0) ((va_up zm.2.1 18 (upd (zm.2.1 18) k 1)) 2) 0 (80 * k) 80), zm.2.2) := by
      refine ⟨hg, ht, hf, hp, hpa, ?_⟩
      intro t ht2
      show (upd (zx.2.1 4) k 1) t = (upd (zm.2.1 18) k 1) t ∧ ((upd (zm.2.1 18) k 1) t = 0 ∨ ((upd (zm.2.1 18) k 1) t = 1 ∧ ∀ k', k' < 4 → pq_blk P (va_cpy (zx.2.2.2 0) (zx.2.2.2 2) 0 (4 * k) 4 (4 * t + k')) (va_cpy (zm.2.1 0) (zm.2.1 2) 0 (80 * k) 80) (80 * t + 20 * k')))
      by_cases e : t = k
      · subst e
        rw [pk_us, pk_us]
        refine ⟨rfl, Or.inr ⟨rfl, pq_blk4 fun k hk => ?_⟩⟩
        rw [Nat.zero_add, Nat.zero_add]; exact hp k hk
      · rw [pk_un e, pk_un e]
        obtain ⟨g1, g2⟩ := him t ht2
        refine ⟨g1, g2.imp id fun g3 => ⟨g3.1, fun k' hk' => ?_⟩⟩
        rw [pq_cpy_out (by omega)]
        exact pq_blk_cg (fun t' ht' => by rw [pq_cpy_out (by omega)]) (g3.2 k' hk')
    obtain ⟨v, v1, v2⟩ := pq_heapsOn hI'.2.2.2.1
    rw [v1, v2]
    exact ⟨_, rfl, _, rfl, rfl, hI'⟩
/-- restore(k) -/
theorem pq_s26 (cA : Nat → ClassId) : kl_s26 cA (pq_Inv cA) := by
  intro zx P zm hI a1
  obtain ⟨hg, ht, hf, hp, hpa, him⟩ := id hI
  unfold fc_restore fm_restore
  rw [show (1 : Int32) = nI 1 from rfl, pq_in0 (by omega)]
  rcases pq_ix a1 (n := 2) (by omega) (by omega) with q | ⟨k, hk, rfl⟩
  · rw [if_pos q.2]
    by_cases c1 : a1 < 0
    · rw [if_pos c1]; exact ⟨_, rfl, _, rfl, rfl, hI⟩
    · rw [if_neg c1, if_neg (Int32.not_lt.mpr (show (2 : Int32) ≤ a1 from q.1.resolve_left c1))]
      exact ⟨_, rfl, _, rfl, rfl, hI⟩
  · obtain ⟨g1, g2⟩ := him k hk
    rw [if_neg (nI_pos (by omega)), if_pos (show nI k < (2 : Int32) from nI_lt (b := 2) hk (by omega)), if_neg (not_or.mpr ⟨nI_pos (by omega), nI_nlt (by omega) (by omega)⟩), kq_xrd (show k < kx_len 4 from hk) kq_kx, kq_rd (show k < km_len 18 from hk) kq_km, g1]
    simp only [Option.bind_some, if_neg kq_10]
    rcases g2 with g3 | ⟨g3, g4⟩
    · rw [if_pos g3, if_pos g3]; exact ⟨_, rfl, _, rfl, rfl, hI⟩
    · rw [g3, if_neg kq_10, if_neg kq_10, show nI k * 4 = nI (4 * k) by rw [Nat.mul_comm]; exact pk_mul k 4, show (80 : Int32) * nI k = nI (80 * k) from pk_mul 80 k, show (0 : Int32) = nI 0 from rfl, pq_copy (by decide) (show 4 * k + 4 ≤ 8 by omega) (by decide) (fun t ht => pq_blk_hp (g4 t ht)), Option.bind_some, show (80 : Int32) = nI 80 from rfl, kq_bring (show 80 * k + 80 ≤ 160 by omega) (by decide) (by omega) (fun h => absurd h (by decide)), Option.bind_some]
      unfold kx_pI km_pI
      rw [Option.bind_some, Option.bind_some]
      dsimp only
      have hI' : pq_Inv cA (va_up zx.1 8 (nI 0), zx.2.1, zx.2.2.1, va_up zx.2.2.2 0 (va_cpy (zx.2.2.2 2) (zx.2.2.2 0) (4 * k) 0 4)) P (va_up zm.1 0 (nI 0), va_up zm.2.1 0 (va_cpy (zm.2.1 2) (zm.2.1 0) (80 * k) 0 80), zm.2.2) := by
        refine ⟨hg, ht, hf, fun j hj => ?_, ?_, him⟩
        · have := pq_blk4 (j := 0) (j' := 0) (R' := zx.2.2.2 0) (g := zm.2.1 0) g4 j hj
          rw [Nat.zero_add, Nat.zero_add] at this
          exact this
        · obtain ⟨w, n, w1, w2, w3, _⟩ := hpa
          exact ⟨w, 0, w1, by omega, w3, rfl, rfl, fun e k he => absurd he (by omega)⟩
      obtain ⟨v, v1, v2⟩ := pq_heapsOn hI'.2.2.2.1
      rw [v1, v2]
      exact ⟨_, rfl, _, rfl, rfl, hI'⟩
