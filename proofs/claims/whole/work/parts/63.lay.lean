/-- lay and off, of both -/
theorem pq_change {cA : Nat → ClassId} {zx : kx_S} {P : va_W} {zm : km_S} (hI : pq_Inv cA zx P zm) (w : Bool) (a1 a2 a3 : Int32) (K : Int32 → kx_S → va_W → Prop)
    (hbad : fm_isSpot a1 a2 a3 zm = some (0, zm) → K (-1000001) zx P)
    (hst : ∀ p i j, fm_isSpot a1 a2 a3 zm = some (1, zm) → a1 = nI p → a2 = nI i → a3 = nI j → (if w then fm_canLay 0 (nI (20 * p)) (nI i) (nI j) zm else fm_canTake 0 (nI (20 * p)) (nI i) (nI j) zm) = some (0, zm) → K (-1000002) zx P)
    (hok : ∀ p i j v zm1 zx2 P2, p < 4 → i < 4 → j < 4 → fm_isSpot a1 a2 a3 zm = some (1, zm) → a1 = nI p → a2 = nI i → a3 = nI j → (if w then fm_canLay 0 (nI (20 * p)) (nI i) (nI j) zm else fm_canTake 0 (nI (20 * p)) (nI i) (nI j) zm) = some (1, zm) → fm_notes zm = some zm1 → (w = false → 0 < v) → v ≤ 4 → zm1.2.1 0 (20 * p + (4 + 4 * i + j)) = nI v → pq_Inv cA zx2 P2 (zm1.1, va_up zm1.2.1 0 (upd (zm1.2.1 0) (20 * p + (4 + 4 * i + j)) (nI (pq_cv w v))), zm1.2.2) → K (nI (pq_cv w v)) zx2 P2) :
    vc_change cA a1 a2 a3 (pq_b w) zx P K := by
  have hp := hI.2.2.2.1
  unfold vc_change
  rcases pq_place hp a1 with ⟨q1, q2⟩ | ⟨p, ad, a, b, c, h, bx, hp4, rfl, q1, q2, q3, H, e1, e2, hb⟩
  · refine ⟨_, q1, fun _ => hbad ?_, fun a3 e => by cases e⟩
    unfold fm_isSpot; rw [q2]; rfl
  refine ⟨_, q1, fun e => (by cases e), fun a3' e => ?_⟩
  cases e
  refine ⟨_, e1, _, e2, ?_⟩
  dsimp only
  rcases pq_spot hp4 H hb q2 a2 a3 with ⟨r1, r2⟩ | ⟨i, j, hi, hj, rfl, rfl, r1, r2⟩
  · exact ⟨_, r1, fun _ => hbad r2, fun n => absurd rfl n⟩
  refine ⟨_, r1, fun n => absurd n kq_10, fun _ => ⟨_, e1, _, e1, _, e2, ?_⟩⟩
  have ha := H.1; have hb4 := H.2.1; have hc4 := H.2.2.1
  have hl : 20 * p + 20 ≤ km_len 0 := by show 20 * p + 20 ≤ 80; omega
  have hcan : (if w then fm_canLay 0 (nI (20 * p)) (nI i) (nI j) zm else fm_canTake 0 (nI (20 * p)) (nI i) (nI j) zm) = some (pq_b (pq_chg w a b c h i j), zm) := by
    cases w
    · exact pm_canTake H hb hl hi hj
    · exact pm_canLay H hb hl hi hj
  refine ⟨_, pq_changes w H (by omega) (by omega), fun n => ?_, fun n => ?_⟩
  · rw [n] at hcan
    exact hst p i j r2 rfl rfl rfl hcan
  have hchg : pq_chg w a b c h i j = true := by
    cases e : pq_chg w a b c h i j
    · rw [e] at n; exact absurd rfl n
    · rfl
  rw [hchg] at hcan
  obtain ⟨hv0, Hu⟩ := pq_hv_u H hi hj hchg
  have enc := pq_enc_u (h := h) (v := pq_cv w (h (4 * i + j))) (n := 16) (t := 4 * i + j) (by omega)
  rw [show 16 - 1 - (4 * i + j) = 15 - (4 * i + j) by omega] at enc
  refine ⟨_, pq_cube (by omega) (by omega), fun q hq => ?_⟩
  have hx : ∀ E, pq_ext P (P ++ [((q, E) : Nat × va_E)]) := fun E => pq_ext_app
  -- after put, whatever is counted
  have done : ∀ E : Int64, E = lN (pq_enc (pq_u h (4 * i + j) (pq_cv w (h (4 * i + j)))) 16) → vc_put cA (some q) (nI p) zx (P ++ [((q, .inr (1, [.ref bx, .long E])) : Nat × va_E)]) (fun r25 u24z u24p => ∃ o26, fc_height u24p (nI p) (nI i) (nI j) u24z = some o26 ∧ K (o26.1) (o26.2) u24p) := by
    intro E hE
    obtain ⟨n1, n2⟩ := pq_new1 (E := E) hq e2
    rw [hE] at n1 n2 ⊢
    have hI2 := pq_Inv_app [((q, .inr (1, [.ref bx, .long (lN (pq_enc (pq_u h (4 * i + j) (pq_cv w (h (4 * i + j)))) 16))])) : Nat × va_E)] hI
    refine pq_put hI2 hp4 (by simp [n1]) (nI (pq_sum 16 (pq_u h (4 * i + j) (pq_cv w (h (4 * i + j)))))) (fun q => by cases q) (fun ad' q => ?_) fun zm1 m1 m2 => ?_
    · cases q
      exact ⟨_, n1, by unfold fh_volume; rw [pq_volume (pq_hv_h Hu)]; rfl⟩
    · have hb1 : pq_mb (zm1.2.1 0) (20 * p) a b c h := by rw [m2 0 (by decide)]; exact hb
      refine ⟨(zm1.1, va_up zm1.2.1 0 (upd (zm1.2.1 0) (20 * p + (4 + 4 * i + j)) (nI (pq_cv w (h (4 * i + j))))), zm1.2.2), rfl, fun k hk => va_up_ne _ _ (by omega), ?_, fun k hk e t ht => ?_, fun zx2 z1 z2 => ?_⟩
      · dsimp only
        rw [va_up_self]
        refine pq_blk_mk Hu n1 n2 ⟨?_, ?_, ?_, ?_, fun t ht => ?_⟩
        · rw [pk_un (by omega)]; exact hb1.1
        · rw [pk_un (by omega)]; exact hb1.2.1
        · rw [pk_un (by omega)]; exact hb1.2.2.1
        · rw [pk_un (by omega)]; exact hb1.2.2.2.1
        · unfold pq_u
          by_cases e : t = 4 * i + j
          · subst e
            rw [if_pos rfl, show 20 * p + 4 + (4 * i + j) = 20 * p + (4 + 4 * i + j) by omega, pk_us]
          · rw [if_neg e, pk_un (by omega)]; exact hb1.2.2.2.2 t ht
      · dsimp only
        rw [va_up_self, pk_un (by omega)]
      · have hz : zx2.2.2.2 0 p = some q := by rw [z1, va_up_self]
        refine ⟨(nI (pq_cv w (h (4 * i + j))), zx2), ?_, ?_⟩
        · unfold fc_height fc_heapAt fc_isPlace fc_heapAt_17
          rw [if_neg (nI_pos (by omega)), if_neg (show ¬ (4 : Int32) ≤ nI p from nI_ge (b := 4) hp4 (by omega)), Option.bind_some, if_neg kq_10, kq_xrr (show p < kx_lenR 0 from hp4) kq_kxR, Option.bind_some, Option.bind_some, hz]
          simp only [kx_on, n1, n2, Option.bind_some]
          unfold fx_hasCell
          rw [if_neg (nI_pos (by omega)), if_neg (nI_ge hi (by omega)), if_neg (nI_pos (by omega)), if_neg (nI_ge hj (by omega)), Option.bind_some, if_neg kq_10, pq_level Hu (by omega) (by omega), pq_g_in hi hj, show pq_u h (4 * i + j) (pq_cv w (h (4 * i + j))) (4 * i + j) = pq_cv w (h (4 * i + j)) from if_pos rfl]
          rfl
        · exact hok p i j (h (4 * i + j)) zm1 zx2 _ hp4 (by omega) (by omega) r2 rfl rfl rfl hcan m1 hv0 (pq_hv_h H _ (by omega)) (by rw [show 20 * p + (4 + 4 * i + j) = 20 * p + 4 + (4 * i + j) by omega]; exact hb1.2.2.2.2 _ (by omega)) z2
  refine ⟨_, (hx _).1 _ _ e1, fun x4 => ⟨_, (hx _).1 _ _ e1, ?_⟩, fun x4 => ⟨_, (hx _).1 _ _ e1, ?_⟩⟩
  · cases w
    · refine done _ ?_
      have hv := hv0 rfl
      simp only [pq_cv, Bool.false_eq_true, if_false] at enc ⊢
      have e5 : 16 ^ (15 - (4 * i + j)) * h (4 * i + j) = 16 ^ (15 - (4 * i + j)) * (h (4 * i + j) - 1) + 16 ^ (15 - (4 * i + j)) := by
        rw [← Nat.mul_succ, Nat.succ_eq_add_one, Nat.sub_add_cancel hv]
      have e6 : pq_enc h 16 = pq_enc (pq_u h (4 * i + j) (h (4 * i + j) - 1)) 16 + 16 ^ (15 - (4 * i + j)) := by omega
      rw [e6, lN_sub (by omega), Nat.add_sub_cancel]
    · exact absurd x4 (by decide)
  · cases w
    · exact absurd (show pq_b false = 0 from rfl) x4
    · refine done _ ?_
      simp only [pq_cv, if_true] at enc ⊢
      have e5 : 16 ^ (15 - (4 * i + j)) * (h (4 * i + j) + 1) = 16 ^ (15 - (4 * i + j)) * h (4 * i + j) + 16 ^ (15 - (4 * i + j)) := by rw [Nat.mul_add, Nat.mul_one]
      rw [lN_add]; congr 1; omega
/-- lay(heap, i, j) -/
theorem pq_s6 (cA : Nat → ClassId) : kl_s6 cA (pq_Inv cA) := by
  intro zx P zm hI a1 a2 a3
  unfold vc_lay fm_lay
  refine pq_change hI true a1 a2 a3 _ (fun h => ?_) (fun p i j h e1 e2 e3 hc => ?_) (fun p i j v zm1 zx2 P2 hp hi hj h e1 e2 e3 hc hn hv0 hv hr hI2 => ?_)
  · rw [h]; exact ⟨_, rfl, rfl, hI⟩
  · subst e1; subst e2; subst e3
    rw [h, Option.bind_some, if_neg kq_10, show (20 : Int32) * nI p = nI (20 * p) from pk_mul 20 p]
    rw [if_pos rfl] at hc
    rw [hc]; exact ⟨_, rfl, rfl, hI⟩
  · subst e1; subst e2; subst e3
    rw [if_pos rfl] at hc
    refine ⟨(nI (pq_cv true v), (zm1.1, va_up zm1.2.1 0 (upd (zm1.2.1 0) (20 * p + (4 + 4 * i + j)) (nI (pq_cv true v))), zm1.2.2)), ?_, rfl, hI2⟩
    have hb : 20 * p + (4 + 4 * i + j) < km_len 0 := by show _ < 80; omega
    rw [h, Option.bind_some, if_neg kq_10, show (20 : Int32) * nI p = nI (20 * p) from pk_mul 20 p, hc, Option.bind_some, if_neg kq_10, hn, Option.bind_some, pq_at, Option.bind_some, nI_add, pq_rdn hr hb, Option.bind_some, kq_wr hb kq_km, Option.bind_some, Option.bind_some, nI_add, pq_rdn (v := nI (v + 1)) (by dsimp only; rw [va_up_self, pk_us, nI_1]) hb, Option.bind_some, nI_1]
    rfl
/-- off(heap, i, j) -/
theorem pq_s7 (cA : Nat → ClassId) : kl_s7 cA (pq_Inv cA) := by
  intro zx P zm hI a1 a2 a3
  unfold vc_off fm_off
  refine pq_change hI false a1 a2 a3 _ (fun h => ?_) (fun p i j h e1 e2 e3 hc => ?_) (fun p i j v zm1 zx2 P2 hp hi hj h e1 e2 e3 hc hn hv0 hv hr hI2 => ?_)
  · rw [h]; exact ⟨_, rfl, rfl, hI⟩
  · subst e1; subst e2; subst e3
    rw [h, Option.bind_some, if_neg kq_10, show (20 : Int32) * nI p = nI (20 * p) from pk_mul 20 p]
    rw [if_neg (by decide)] at hc
    rw [hc]; exact ⟨_, rfl, rfl, hI⟩
  · subst e1; subst e2; subst e3
    rw [if_neg (by decide)] at hc
    obtain ⟨v, rfl⟩ : ∃ y, v = y + 1 := ⟨v - 1, by have := hv0 rfl; omega⟩
    refine ⟨(nI (pq_cv false (v + 1)), (zm1.1, va_up zm1.2.1 0 (upd (zm1.2.1 0) (20 * p + (4 + 4 * i + j)) (nI (pq_cv false (v + 1)))), zm1.2.2)), ?_, rfl, hI2⟩
    have hb : 20 * p + (4 + 4 * i + j) < km_len 0 := by show _ < 80; omega
    rw [h, Option.bind_some, if_neg kq_10, show (20 : Int32) * nI p = nI (20 * p) from pk_mul 20 p, hc, Option.bind_some, if_neg kq_10, hn, Option.bind_some, pq_at, Option.bind_some, nI_add, pq_rdn hr hb, Option.bind_some, kq_wr hb kq_km, Option.bind_some, Option.bind_some, nI_add, pq_rdn (v := nI v) (by dsimp only; rw [va_up_self, pk_us, nI_pred]) hb, Option.bind_some, nI_pred]
    rfl
/-- turn(heap, how, to) -/
theorem pq_s8 (cA : Nat → ClassId) : kl_s8 cA (pq_Inv cA) := by
  intro zx P zm hI a1 a2 a3
  have hp := hI.2.2.2.1
  unfold vc_turn fm_turn
  rcases pq_place hp a1 with ⟨q1, q2⟩ | ⟨p, ad, a, b, c, h, bx, hp4, rfl, q1, q2, q3, H, e1, e2, hb⟩
  · rw [q2]
    exact ⟨_, q1, fun _ => ⟨_, rfl, rfl, hI⟩, fun a3 e => by cases e⟩
  refine ⟨_, q1, fun e => (by cases e), fun a3' e => ?_⟩
  cases e
  rw [q2, show (2 : Int32) = nI 2 from rfl, pq_in0 (by omega)]
  simp only [Option.bind_some, if_neg kq_10]
  have hl : 20 * p + 20 ≤ km_len 0 := by show 20 * p + 20 ≤ 80; omega
  rcases pq_ix a2 (n := 3) (by omega) (by omega) with q | ⟨w, hw, rfl⟩
  · rw [if_pos q.2]
    refine ⟨fun _ => ⟨_, rfl, rfl, hI⟩, fun c1 => ⟨fun _ => ⟨_, rfl, rfl, hI⟩, fun c2 => absurd (q.2.resolve_left c1) c2⟩⟩
  · have w0 : ¬ nI w < 0 := nI_pos (by omega)
    have w2 : ¬ nI 2 < nI w := nI_nlt (by omega) (by omega)
    rw [if_neg (not_or.mpr ⟨w0, w2⟩)]
    refine ⟨fun c1 => absurd c1 w0, fun _ => ⟨fun c1 => absurd c1 w2, fun _ => ?_⟩⟩
    rcases pq_isPlace a3 with ⟨r1, r2⟩ | ⟨to, hto, rfl, r1, r2⟩
    · rw [r2]
      exact ⟨_, r1, fun _ => ⟨_, rfl, rfl, hI⟩, fun n => absurd rfl n⟩
    · refine ⟨_, r1, fun n => absurd n kq_10, fun _ => ⟨_, e1, ?_⟩⟩
      rw [r2]
      simp only [Option.bind_some, if_neg kq_10]
      rw [show (20 : Int32) * nI p = nI (20 * p) from pk_mul 20 p]
      obtain ⟨g, g1, g2, g3⟩ := pm_turns (k1 := 4) hw H hb hl (by decide) (by decide)
      rw [g1]
      have hI4 : pq_Inv cA zx P (zm.1, va_up zm.2.1 4 g, zm.2.2) := hI
      have fin : ∀ (P' : va_W) (q q3 : Nat), pq_Inv cA zx P' (zm.1, va_up zm.2.1 4 g, zm.2.2) → kx_hp P' q = some (q3, lN (pq_enc (pq_th w a b c h) 16)) → kx_bx P' q3 = some (nI (pq_ta w a b), nI (pq_tb w a b c), nI (pq_tc w a c)) →
          vc_put cA (some q) (nI to) zx P' (fun r10 u9z u9p => ∃ om, ((some ((zm.1, va_up zm.2.1 4 g, zm.2.2) : km_S)).bind fun o4 => (fm_comes (nI to) o4).bind fun o5 => some (o5.1, o5.2)) = some om ∧ r10 = om.1 ∧ pq_Inv cA u9z u9p om.2) := by
        intro P' q q3 hI' f1 f2
        refine pq_comes hI' hto (pq_hv_t hw H) f1 f2 (by dsimp only; rw [va_up_self]; exact g2) fun zx2 zm2 c1 c2 _ => ?_
        rw [Option.bind_some, c1]
        exact ⟨_, rfl, rfl, c2⟩
      unfold vh_turned
      have : w = 0 ∨ w = 1 ∨ w = 2 := by omega
      rcases this with rfl | rfl | rfl
      · refine ⟨fun _ q hq q3 hq3 => ?_, fun n => absurd (show nI 0 = 0 from rfl) n⟩
        have hx : ∀ Q, pq_ext P (P ++ Q) := fun Q => pq_ext_app
        refine ⟨_, (hx _).1 _ _ e1, _, (hx _).2 _ _ e2, _, (hx _).1 _ _ e1, _, (hx _).2 _ _ e2, _, (hx _).1 _ _ e1, _, (hx _).2 _ _ e2, _, (hx _).1 _ _ e1, _, (hx _).1 _ _ e1, _, (hx _).2 _ _ e2, _, pq_transposed H, ?_⟩
        obtain ⟨n1, n2⟩ := pq_new2 (E := lN (pq_enc (pq_T h) 16)) (A := nI b) (B := nI a) (C := nI c) hq hq3
        exact fin _ q q3 (pq_Inv_app _ hI4) n1 n2
      · refine ⟨fun n => absurd n (by decide), fun _ => ⟨fun _ q hq q3 hq3 => ?_, fun n => absurd (show nI 1 = 1 from rfl) n⟩⟩
        have hx : ∀ Q, pq_ext P (P ++ Q) := fun Q => pq_ext_app
        refine ⟨_, (hx _).1 _ _ e1, _, (hx _).2 _ _ e2, _, (hx _).1 _ _ e1, _, (hx _).2 _ _ e2, _, (hx _).1 _ _ e1, _, (hx _).2 _ _ e2, _, (hx _).1 _ _ e1, _, (hx _).1 _ _ e1, _, (hx _).2 _ _ e2, _, pq_rotated H, ?_⟩
        obtain ⟨n1, n2⟩ := pq_new2 (E := lN (pq_enc (pq_R a h) 16)) (A := nI b) (B := nI c) (C := nI a) hq hq3
        exact fin _ q q3 (pq_Inv_app _ hI4) n1 n2
      · refine ⟨fun n => absurd n (by decide), fun _ => ⟨fun n => absurd n (by decide), fun _ q hq => ?_⟩⟩
        have hx : ∀ Q, pq_ext P (P ++ Q) := fun Q => pq_ext_app
        refine ⟨_, (hx _).1 _ _ e1, _, (hx _).1 _ _ e1, _, (hx _).1 _ _ e1, _, (hx _).2 _ _ e2, _, pq_complemented H, ?_⟩
        obtain ⟨n1, n2⟩ := pq_new1 (E := lN (pq_enc (pq_C a b c h) 16)) hq e2
        exact fin _ q bx (pq_Inv_app _ hI4) n1 n2
