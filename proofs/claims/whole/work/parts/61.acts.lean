/-! acts: notes and keep, put, undo, drop -/
theorem pq_keepL {cA : Nat → ClassId} {zx : kx_S} {P : va_W} {zm : km_S} (hI : pq_Inv cA zx P zm) :
    ∃ zx1 zm1, (∀ K : kx_S → va_W → Prop, K zx1 P → vp_keep cA zx P K) ∧ fm_notes zm = some zm1 ∧ pq_Inv cA zx1 P zm1 ∧ zx1.2.2.2 0 = zx.2.2.2 0 ∧ ∀ k, k ≠ 1 → zm1.2.1 k = zm.2.1 k := by
  obtain ⟨hg, ht, hf, hp, ⟨w, n, w12, n12, e1, e2, e3, hk⟩, him⟩ := hI
  have hw : ((zx.1 7) + (1 : Int32)) - ((zx.1 7) + (1 : Int32)) / (12 : Int32) * (12 : Int32) = nI ((w + 1) % 12) := by
    rw [e1, nI_1]; exact pk_rem (d := 12) (by omega) (by omega) (by omega)
  have w2 : (w + 1) % 12 < 12 := Nat.mod_lt _ (by omega)
  have hsz : ∀ zz : Int32, zz = nI n → (if (12 : Int32) < (zz + (1 : Int32)) then (12 : Int32) else (zz + (1 : Int32))) = nI (min (n + 1) 12) := by
    intro zz hz
    rw [hz, nI_1]
    by_cases c : 12 < n + 1
    · rw [if_pos (show (12 : Int32) < nI (n + 1) from nI_lt (a := 12) c (by omega)), show min (n + 1) 12 = 12 by omega]; rfl
    · rw [if_neg (show ¬ (12 : Int32) < nI (n + 1) from nI_nlt (b := n + 1) (a := 12) (by omega) (by omega)), show min (n + 1) 12 = n + 1 by omega]
  -- the class
  have keep : ∀ K : kx_S → va_W → Prop, K (va_up (va_up zx.1 7 (nI ((w + 1) % 12))) 8 (nI (min (n + 1) 12)), zx.2.1, zx.2.2.1, va_up zx.2.2.2 1 (va_cpy (zx.2.2.2 0) (zx.2.2.2 1) 0 (4 * ((w + 1) % 12)) 4)) P → vp_keep cA zx P K := by
    intro K hK
    unfold vp_keep
    refine ⟨_, rfl, ?_⟩
    rw [hw]
    refine ⟨(va_up zx.1 7 (nI ((w + 1) % 12)), zx.2.1, zx.2.2.1, va_up zx.2.2.2 1 (va_cpy (zx.2.2.2 0) (zx.2.2.2 1) 0 (4 * ((w + 1) % 12)) 4)), ?_, ?_⟩
    · dsimp only
      rw [va_up_self, show nI ((w + 1) % 12) * 4 = nI (4 * ((w + 1) % 12)) by rw [Nat.mul_comm]; exact pk_mul _ 4, show (0 : Int32) = nI 0 from rfl, pq_copy (by decide) (by decide) (show 4 * ((w + 1) % 12) + 4 ≤ 48 by omega) (fun t ht => by rw [Nat.zero_add]; exact pq_blk_hp (hp t ht))]
    · refine ⟨_, rfl, ?_⟩
      rw [hsz]
      · exact hK
      · show va_up zx.1 7 (nI ((w + 1) % 12)) 8 = _
        rw [va_up_ne _ _ (by decide), e2]
  -- slots
  by_cases c12 : n = 12
  · subst c12
    refine ⟨_, (va_up (va_up zm.1 0 (nI 11)) 0 (nI 12), va_up (va_up zm.2.1 1 (va_cpy (zm.2.1 1) (zm.2.1 1) 80 0 880)) 1 (va_cpy (zm.2.1 0) (va_cpy (zm.2.1 1) (zm.2.1 1) 80 0 880) 0 (80 * 11) 80), zm.2.2), keep, ?_, ⟨hg, ht, hf, hp, ?_, him⟩, rfl, fun k hk1 => ?_⟩
    · unfold fm_notes fm_notes_36
      rw [e3, if_pos (show nI 12 = 12 from rfl), show (80 : Int32) = nI 80 from rfl, show (0 : Int32) = nI 0 from rfl, show (880 : Int32) = nI 880 from rfl, kq_bring (by decide) (by decide) (by omega) (fun _ => by omega), Option.bind_some]
      unfold km_pI
      rw [Option.bind_some]
      dsimp only
      rw [e3, va_up_self, show nI 12 - 1 = nI 11 from by decide, show nI 80 * nI 11 = nI (80 * 11) from pk_mul 80 11, kq_bring (by decide) (by decide) (by omega) (fun h => absurd h (by decide)), Option.bind_some, Option.bind_some]
      dsimp only
      rw [va_up_self, va_up_self, va_up_ne _ _ (by decide)]; rfl
    · refine ⟨(w + 1) % 12, 12, w2, by omega, ?_, ?_, ?_, fun e k he hk4 => ?_⟩
      · dsimp only
        rw [va_up_ne _ _ (by decide), va_up_self]
      · dsimp only
        rw [va_up_self]; rfl
      · dsimp only
        rw [va_up_self]
      · show pq_blk P (va_cpy (zx.2.2.2 0) (zx.2.2.2 1) 0 (4 * ((w + 1) % 12)) 4 (4 * (((w + 1) % 12 + 13 + e - 12) % 12) + k)) (va_up (va_up zm.2.1 1 (va_cpy (zm.2.1 1) (zm.2.1 1) 80 0 880)) 1 (va_cpy (zm.2.1 0) (va_cpy (zm.2.1 1) (zm.2.1 1) 80 0 880) 0 (80 * 11) 80) 1) (80 * e + 20 * k)
        rw [va_up_self]
        by_cases e11 : e = 11
        · subst e11
          rw [show ((w + 1) % 12 + 13 + 11 - 12) % 12 = (w + 1) % 12 by omega]
          exact pq_blk4 (fun k hk => by rw [Nat.zero_add, Nat.zero_add]; exact hp k hk) k hk4
        · rw [show ((w + 1) % 12 + 13 + e - 12) % 12 = (w + 13 + (e + 1) - 12) % 12 by omega, pq_cpy_out (by omega)]
          refine pq_blk_cg (fun t ht => ?_) (hk (e + 1) k (by omega) hk4)
          rw [pq_cpy_out (by omega), show 80 * e + 20 * k + t = 0 + (80 * e + 20 * k + t) by omega, pq_cpy_in (by omega), show 80 * (e + 1) + 20 * k + t = 80 + (80 * e + 20 * k + t) by omega]
    · dsimp only
      rw [va_up_ne _ _ hk1, va_up_ne _ _ hk1]
  · refine ⟨_, (va_up zm.1 0 (nI (n + 1)), va_up zm.2.1 1 (va_cpy (zm.2.1 0) (zm.2.1 1) 0 (80 * n) 80), zm.2.2), keep, ?_, ⟨hg, ht, hf, hp, ?_, him⟩, rfl, fun k hk1 => ?_⟩
    · unfold fm_notes fm_notes_36
      rw [e3, if_neg (show ¬ nI n = 12 from fun q => c12 ((nI_eq (b := 12) (by omega) (by omega)).mp q)), show (80 : Int32) = nI 80 from rfl, show (0 : Int32) = nI 0 from rfl, pk_mul, kq_bring (by decide) (show 80 * n + 80 ≤ 960 by omega) (by omega) (fun h => absurd h (by decide)), Option.bind_some]
      unfold km_pI
      rw [Option.bind_some]
      dsimp only
      rw [e3, nI_1]
    · refine ⟨(w + 1) % 12, n + 1, w2, by omega, ?_, ?_, ?_, fun e k he hk4 => ?_⟩
      · dsimp only
        rw [va_up_ne _ _ (by decide), va_up_self]
      · dsimp only
        rw [va_up_self, show min (n + 1) 12 = n + 1 by omega]
      · dsimp only
        rw [va_up_self]
      · show pq_blk P (va_cpy (zx.2.2.2 0) (zx.2.2.2 1) 0 (4 * ((w + 1) % 12)) 4 (4 * (((w + 1) % 12 + 13 + e - (n + 1)) % 12) + k)) (va_cpy (zm.2.1 0) (zm.2.1 1) 0 (80 * n) 80) (80 * e + 20 * k)
        by_cases en : e = n
        · subst en
          rw [show ((w + 1) % 12 + 13 + e - (e + 1)) % 12 = (w + 1) % 12 by omega]
          exact pq_blk4 (fun k hk => by rw [Nat.zero_add, Nat.zero_add]; exact hp k hk) k hk4
        · rw [show ((w + 1) % 12 + 13 + e - (n + 1)) % 12 = (w + 13 + e - n) % 12 by omega, pq_cpy_out (by omega)]
          refine pq_blk_cg (fun t ht => ?_) (hk e k (by omega) hk4)
          rw [pq_cpy_out (by omega)]
    · dsimp only
      rw [va_up_ne _ _ hk1]
/-- a place of both set anew -/
theorem pq_setL {cA : Nat → ClassId} {zx : kx_S} {P : va_W} {zm zm2 : km_S} (hI : pq_Inv cA zx P zm) {p : Nat} (hp4 : p < 4) {r : Option Nat} (h1 : zm2.1 = zm.1) (h2 : ∀ k, k = 1 ∨ k = 2 ∨ k = 3 ∨ k = 18 → zm2.2.1 k = zm.2.1 k) (hr : pq_blk P r (zm2.2.1 0) (20 * p)) (ho : ∀ k, k < 4 → k ≠ p → ∀ t, t < 20 → zm2.2.1 0 (20 * k + t) = zm.2.1 0 (20 * k + t)) :
    pq_Inv cA (zx.1, zx.2.1, zx.2.2.1, va_up zx.2.2.2 0 (va_up (zx.2.2.2 0) p r)) P zm2 := by
  obtain ⟨hg, ht, hf, hp, hpa, him⟩ := hI
  refine ⟨hg, ?_, ?_, fun k hk => ?_, ?_, ?_⟩
  · rw [h1, h2 3 (by omega)]; exact ht
  · rw [h1]; exact hf
  · show pq_blk P (va_up (zx.2.2.2 0) p r k) (zm2.2.1 0) (20 * k)
    by_cases e : k = p
    · subst e; rw [va_up_self]; exact hr
    · rw [va_up_ne _ _ e]
      exact pq_blk_cg (fun t ht => (ho k hk e t ht).symm) (hp k hk)
  · rw [h1, h2 1 (by omega)]; exact hpa
  · rw [h2 18 (by omega), h2 2 (by omega)]; exact him
/-- put, after notes, with any way to set the reference's place -/
theorem pq_put {cA : Nat → ClassId} {zx : kx_S} {P : va_W} {zm : km_S} (hI : pq_Inv cA zx P zm) {p : Nat} (hp4 : p < 4) {r : Option Nat} {K : Int32 → kx_S → va_W → Prop} (hr0 : r.all (fun a => (kx_hp P a).isSome) = true)
    (v : Int32) (hv0 : r = none → v = 0) (hv : ∀ ad, r = some ad → ∃ u, kx_hp P ad = some u ∧ fh_volume u.2 = some v)
    (H : ∀ zm1, fm_notes zm = some zm1 → (∀ k, k ≠ 1 → zm1.2.1 k = zm.2.1 k) → ∃ zm2, zm2.1 = zm1.1 ∧ (∀ k, k = 1 ∨ k = 2 ∨ k = 3 ∨ k = 18 → zm2.2.1 k = zm1.2.1 k) ∧ pq_blk P r (zm2.2.1 0) (20 * p) ∧ (∀ k, k < 4 → k ≠ p → ∀ t, t < 20 → zm2.2.1 0 (20 * k + t) = zm1.2.1 0 (20 * k + t)) ∧ ∀ zx2, zx2.2.2.2 0 = va_up (zx.2.2.2 0) p r → pq_Inv cA zx2 P zm2 → K v zx2 P) : vc_put cA r (nI p) zx P K := by
  obtain ⟨zx1, zm1, k1, k2, k3, k4, k5⟩ := pq_keepL hI
  obtain ⟨zm2, m1, m2, m3, m4, m5⟩ := H zm1 k2 k5
  unfold vc_put
  refine k1 _ ?_
  have hset := pq_setL k3 hp4 m1 m2 m3 m4
  refine ⟨(zx1.1, zx1.2.1, zx1.2.2.1, va_up zx1.2.2.2 0 (va_up (zx1.2.2.2 0) p r)), ?_, fun e => ?_, fun ad e => ?_⟩
  · unfold kx_wh kx_wq
    rw [if_pos hr0, if_neg (kq_c (show p < kx_lenR 0 from hp4) kq_kxR), nI_clamp (by omega)]
  · have := m5 _ (by dsimp only; rw [va_up_self, k4]) hset
    rw [hv0 e] at this
    exact this
  · obtain ⟨u, u1, u2⟩ := hv ad e
    exact ⟨u, u1, v, u2, m5 _ (by dsimp only; rw [va_up_self, k4]) hset⟩
/-- put and comes -/
theorem pq_comes {cA : Nat → ClassId} {zx : kx_S} {P : va_W} {zm : km_S} (hI : pq_Inv cA zx P zm) {p : Nat} (hp4 : p < 4) {ad bx a b c : Nat} {h : Nat → Nat} (Hh : pq_hv a b c h) (e1 : kx_hp P ad = some (bx, lN (pq_enc h 16))) (e2 : kx_bx P bx = some (nI a, nI b, nI c)) (hm : pq_mb (zm.2.1 4) 0 a b c h) {K : Int32 → kx_S → va_W → Prop}
    (hK : ∀ zx2 zm2, fm_comes (nI p) zm = some (nI (pq_sum 16 h), zm2) → pq_Inv cA zx2 P zm2 → zx2.2.2.2 0 = va_up (zx.2.2.2 0) p (some ad) → K (nI (pq_sum 16 h)) zx2 P) : vc_put cA (some ad) (nI p) zx P K := by
  refine pq_put hI hp4 (by simp [e1]) (nI (pq_sum 16 h)) (fun q => by cases q) (fun ad' q => ?_) fun zm1 n1 n2 => ?_
  · cases q
    exact ⟨_, e1, by unfold fh_volume; rw [pq_volume (pq_hv_h Hh)]; rfl⟩
  · have hm1 : pq_mb (zm1.2.1 4) 0 a b c h := by rw [n2 4 (by decide)]; exact hm
    refine ⟨(zm1.1, va_up zm1.2.1 0 (va_cpy (zm1.2.1 4) (zm1.2.1 0) 0 (20 * p) 20), zm1.2.2), rfl, fun k hk => va_up_ne _ _ (by omega), ?_, fun k hk e t ht => ?_, fun zx2 z1 z2 => hK zx2 _ ?_ z2 z1⟩
    · dsimp only
      rw [va_up_self]
      refine pq_blk_cg (f := zm1.2.1 4) (o := 0) (fun t ht => ?_) (pq_blk_mk Hh e1 e2 hm1)
      rw [pq_cpy_in ht]
    · dsimp only
      rw [va_up_self, pq_cpy_out (by omega)]
    · unfold fm_comes
      rw [n1, Option.bind_some, show (0 : Int32) = nI 0 from rfl, show (20 : Int32) = nI 20 from rfl, pk_mul, kq_bring (by decide) (show 20 * p + 20 ≤ 80 by omega) (by omega) (fun h => absurd h (by decide)), Option.bind_some, pm_volume (h := h) (k := 4) (o := 0) (fun t ht => by
        dsimp only
        rw [va_up_ne _ _ (by decide)]; exact hm1.2.2.2.2 t ht) (by decide)]
      rfl
/-- undo() -/
theorem pq_s3 (cA : Nat → ClassId) : kl_s3 cA (pq_Inv cA) := by
  intro zx P zm hI _
  obtain ⟨hg, ht, hf, hp, ⟨w, n, w12, n12, e1, e2, e3, hk⟩, him⟩ := id hI
  unfold vc_undo fm_undo
  rw [e2, e3]
  by_cases c : n = 0
  · subst c
    refine ⟨fun _ => ?_, fun q => absurd (show nI 0 = 0 from rfl) q⟩
    rw [if_pos (show nI 0 = 0 from rfl)]
    exact ⟨_, rfl, rfl, hI⟩
  · obtain ⟨m, rfl⟩ : ∃ m, n = m + 1 := ⟨n - 1, by omega⟩
    have n0 : ¬ nI (m + 1) = 0 := nI_ne0 (by omega) (by omega)
    refine ⟨fun q => absurd q n0, fun _ => ?_⟩
    rw [if_neg n0]
    unfold vp_giveBack
    refine ⟨(zx.1, zx.2.1, zx.2.2.1, va_up zx.2.2.2 0 (va_cpy (zx.2.2.2 1) (zx.2.2.2 0) (4 * w) 0 4)), ?_, _, rfl, _, rfl, ?_⟩
    · rw [e1, show nI w * 4 = nI (4 * w) by rw [Nat.mul_comm]; exact pk_mul _ 4, show (0 : Int32) = nI 0 from rfl, pq_copy (by decide) (show 4 * w + 4 ≤ 48 by omega) (by decide) (fun t ht => ?_)]
      have := hk m t (by omega) ht
      rw [show (w + 13 + m - (m + 1)) % 12 = w by omega] at this
      exact pq_blk_hp this
    · unfold km_pI
      rw [Option.bind_some]
      dsimp only
      rw [va_up_self, nI_pred, show (80 : Int32) = nI 80 from rfl, show (0 : Int32) = nI 0 from rfl, pk_mul, kq_bring (show 80 * m + 80 ≤ 960 by omega) (by decide) (by omega) (fun h => absurd h (by decide)), Option.bind_some]
      have e4 : va_up (va_up zx.1 7 (zx.1 7 + 12 - 1 - (zx.1 7 + 12 - 1) / 12 * 12)) 8 (va_up zx.1 7 (zx.1 7 + 12 - 1 - (zx.1 7 + 12 - 1) / 12 * 12) 8 - 1) = va_up (va_up zx.1 7 (nI ((w + 11) % 12))) 8 (nI m) := by
        rw [va_up_ne _ _ (by decide), e2, nI_pred, e1, show nI w + 12 - 1 = nI (w + 11) from by
          rw [show nI w + 12 = nI (w + 12) from nI_add w 12]; exact pk_sub (a := w + 12) (b := 1) (by omega), show nI (w + 11) - nI (w + 11) / 12 * 12 = nI ((w + 11) % 12) from pk_rem (d := 12) (by omega) (by omega) (by omega)]
      rw [e4]
      refine ⟨_, rfl, ?_, hg, ht, hf, fun k hk4 => ?_, ?_, him⟩
      · dsimp only
        rw [va_up_self, va_up_self]
      · have := hk m k (by omega) hk4
        show pq_blk P (va_cpy (zx.2.2.2 1) (zx.2.2.2 0) (4 * w) 0 4 k) (va_cpy (zm.2.1 1) (zm.2.1 0) (80 * m) 0 80) (20 * k)
        have q := pq_blk4 (P := P) (R := zx.2.2.2 1) (R' := zx.2.2.2 0) (f := zm.2.1 1) (g := zm.2.1 0) (i := 4 * w) (j := 0) (i' := 80 * m) (j' := 0) (fun k hk4 => by
          have := hk m k (by omega) hk4
          rw [show (w + 13 + m - (m + 1)) % 12 = w by omega] at this
          exact this) k hk4
        rw [Nat.zero_add, Nat.zero_add] at q
        exact q
      · refine ⟨(w + 11) % 12, m, Nat.mod_lt _ (by omega), by omega, ?_, ?_, ?_, fun e k he hk4 => ?_⟩
        · dsimp only
          rw [va_up_ne _ _ (by decide), va_up_self]
        · dsimp only
          rw [va_up_self]
        · dsimp only
          rw [va_up_self]
        · rw [show ((w + 11) % 12 + 13 + e - m) % 12 = (w + 13 + e - (m + 1)) % 12 by omega]
          exact hk e k (by omega) hk4
/-- drop(heap) -/
theorem pq_s10 (cA : Nat → ClassId) : kl_s10 cA (pq_Inv cA) := by
  intro zx P zm hI a1
  have hp := hI.2.2.2.1
  unfold vc_drop fm_drop
  rcases pq_place hp a1 with ⟨q1, q2⟩ | ⟨p, ad, a, b, c, h, bx, hp4, rfl, q1, q2, q3, H, e1, e2, hb⟩
  · rw [q2]
    exact ⟨_, q1, fun _ => ⟨_, rfl, rfl, hI⟩, fun a3 e => by cases e⟩
  · refine ⟨_, q1, fun e => (by cases e), fun a3 e => ?_⟩
    cases e
    dsimp only
    refine pq_put hI hp4 rfl 0 (fun _ => rfl) (fun ad q => by cases q) fun zm1 n1 n2 => ?_
    refine ⟨(zm1.1, va_up zm1.2.1 0 (fun t => if 20 * p ≤ t ∧ t < 20 * p + 20 then 0 else zm1.2.1 0 t), zm1.2.2), rfl, fun k hk => va_up_ne _ _ (by omega), ?_, fun k hk e t ht => ?_, fun zx2 z1 z2 => ?_⟩
    · refine Or.inl ⟨rfl, fun t ht => ?_⟩
      dsimp only
      rw [va_up_self, if_pos (by omega)]
    · dsimp only
      rw [va_up_self, if_neg (by omega)]
    · refine ⟨_, e1, nI (pq_sum 16 h), by unfold fh_volume; rw [pq_volume (pq_hv_h H)]; rfl, ?_⟩
      rw [q2, Option.bind_some, if_neg kq_10, n1, Option.bind_some, show (20 : Int32) * nI p = nI (20 * p) from pk_mul 20 p, pm_volume (h := h) (fun t ht => by rw [n2 0 (by decide)]; exact hb.2.2.2.2 t ht) (show 20 * p + 20 ≤ 80 by omega), Option.bind_some]
      unfold lm_drop_29
      refine ⟨(nI (pq_sum 16 h), (zm1.1, va_up zm1.2.1 0 (fun t => if 20 * p ≤ t ∧ t < 20 * p + 20 then 0 else zm1.2.1 0 t), zm1.2.2)), ?_, rfl, z2⟩
      refine kq_runb (fun k => (nI p, nI (pq_sum 16 h), nI k, (zm1.1, va_up zm1.2.1 0 (fun t => if 20 * p ≤ t ∧ t < 20 * p + k then 0 else zm1.2.1 0 t), zm1.2.2))) 20 (nI (pq_sum 16 h), (zm1.1, va_up zm1.2.1 0 (fun t => if 20 * p ≤ t ∧ t < 20 * p + 20 then 0 else zm1.2.1 0 t), zm1.2.2)) ?_ (by omega) (fun k hk => ?_) rfl rfl
      · have : (fun t => if 20 * p ≤ t ∧ t < 20 * p + 0 then 0 else zm1.2.1 0 t) = zm1.2.1 0 := by
          funext t; rw [if_neg (by omega)]
        rw [this, kj_upf]; rfl
      · dsimp only
        unfold fm_drop_29
        rw [if_neg (show ¬ (20 : Int32) ≤ nI k from nI_ge (b := 20) hk (by omega)), show (20 : Int32) * nI p = nI (20 * p) from pk_mul 20 p, nI_add, pq_wrg (show 20 * p + k < 80 by omega), Option.bind_some, nI_1]
        have : upd (fun t => if 20 * p ≤ t ∧ t < 20 * p + k then 0 else zm1.2.1 0 t) (20 * p + k) 0 = fun t => if 20 * p ≤ t ∧ t < 20 * p + (k + 1) then 0 else zm1.2.1 0 t := by
          funext t
          unfold upd
          by_cases e : t = 20 * p + k
          · subst e; rw [if_pos rfl, if_pos (by omega)]
          · rw [if_neg e]
            dsimp only
            by_cases e2 : 20 * p ≤ t ∧ t < 20 * p + k
            · rw [if_pos e2, if_pos (by omega)]
            · rw [if_neg e2, if_neg (by omega)]
        rw [this]
