/-! symmetric -/
def pr_has (w : Nat) (s : Nat → Bool) : Bool := pq_all 4 fun k => !(decide (w / 2 ^ k % 2 = 1)) || s k
def pr_ac4 (b0 b1 b2 b3 : Bool) : Int32 := pq_acc (fun k => match k with | 0 => b0 | 1 => b1 | 2 => b2 | _ => b3) 4
def pr_ha4 (w : Nat) (b0 b1 b2 b3 : Bool) : Bool := pr_has w (fun k => match k with | 0 => b0 | 1 => b1 | 2 => b2 | _ => b3)
theorem pr_acc_has {w : Nat} (hw : w < 16) (s : Nat → Bool) : (nI w &&& (pq_acc s 4 ^^^ (-1 : Int32)) = 0) ↔ pr_has w s = true := by
  have K : ∀ w, w < 16 → ∀ b0 b1 b2 b3 : Bool, (nI w &&& (pr_ac4 b0 b1 b2 b3 ^^^ (-1 : Int32)) = 0) ↔ pr_ha4 w b0 b1 b2 b3 = true := by decide +kernel
  have e1 : pq_acc s 4 = pr_ac4 (s 0) (s 1) (s 2) (s 3) := rfl
  have e2 : pr_has w s = pr_ha4 w (s 0) (s 1) (s 2) (s 3) := rfl
  rw [e1, e2]
  exact K w hw (s 0) (s 1) (s 2) (s 3)
theorem pr_bit : ∀ w, w < 16 → ∀ k, k < 4 → ((nI w >>> (nI k &&& 31)) &&& (1 : Int32) = 1 ↔ w / 2 ^ k % 2 = 1) := by decide +kernel
theorem pr_hasSymmetries {w a b c : Nat} {h : Nat → Nat} (hw : w < 16) (H : pq_hv a b c h) : fx_hasSymmetries (nI a) (nI b) (nI c) (lN (pq_enc h 16)) (nI w) = some (pq_b (pr_has w fun k => pq_sy k a b c h)) := by
  unfold fx_hasSymmetries lx_hasSymmetries_3
  obtain ⟨r, r1, r2⟩ := kq_ite0 (step := fun (s : (Int64 × Int32 × Int32)) => fx_hasSymmetries_3 (nI a) (nI b) (nI c) (s.1) (s.2.1) (s.2.2))
    (fun k s => s = (lN (pq_enc h 16), nI w, nI k) ∧ (pq_all k fun k => !(decide (w / 2 ^ k % 2 = 1)) || pq_sy k a b c h) = true)
    (fun r => r = if pr_has w (fun k => pq_sy k a b c h) = true then .inr () else .inl ()) 4 (by omega) (by
      rintro k s hk ⟨rfl, g⟩
      dsimp only
      unfold fx_hasSymmetries_3 fx_hasSymmetries_31
      rw [if_neg (show ¬ (4 : Int32) ≤ nI k from nI_ge (b := 4) hk (by omega)), nI_1]
      by_cases c1 : w / 2 ^ k % 2 = 1
      · rw [if_pos ((pr_bit w hw k hk).mpr c1), pq_hasSym hk H, Option.bind_some]
        cases e : pq_sy k a b c h
        · rw [if_pos (show pq_b false = 0 from rfl)]
          refine Or.inr ⟨_, rfl, ?_⟩
          rw [if_neg]
          intro q
          unfold pr_has at q
          rw [pq_all_iff] at q
          have := q k hk
          dsimp only at this
          rw [e, decide_eq_true c1] at this
          exact absurd this (by decide)
        · rw [if_neg (show ¬ pq_b true = 0 by decide)]
          exact Or.inl ⟨_, rfl, rfl, by rw [pq_all, g, e, decide_eq_true c1]; rfl⟩
      · rw [if_neg (mt (pr_bit w hw k hk).mp c1)]
        exact Or.inl ⟨_, rfl, rfl, by rw [pq_all, g, decide_eq_false c1]; rfl⟩) (by
      rintro s ⟨rfl, g⟩
      refine ⟨_, rfl, ?_⟩
      rw [if_pos (show pr_has w (fun k => pq_sy k a b c h) = true from g)])
    (s := (lN (pq_enc h 16), nI w, 0)) ⟨rfl, rfl⟩
  rw [r1, Option.bind_some, r2]
  cases pr_has w (fun k => pq_sy k a b c h) <;> rfl
/-- symmetric(a, b, c, set) -/
theorem pq_s22 (cA : Nat → ClassId) : kl_s22 cA (pq_Inv cA) := by
  intro zx P zm hI a1 a2 a3 a4
  unfold vc_symmetric fm_symmetric
  refine pr_of (fun h0 => ⟨fun _ => ?_, fun _ e => by cases e⟩) (fun a b c bx ha o hm e1 e2 e3 h1 hb => ⟨fun e => (by cases e), fun a3' e => ?_⟩)
  · rw [h0]; exact ⟨_, rfl, rfl, hI⟩
  cases e
  subst e1 e2 e3
  have hN := pr_N_le o
  have hIa := pq_Inv_app [((bx, .inr (0, [.int (nI a), .int (nI b), .int (nI c)])) : Nat × va_E)] hI
  rw [h1, Option.bind_some, if_neg kq_10, show (15 : Int32) = nI 15 from rfl, pq_in0 (by omega)]
  refine ⟨fun c1 => ?_, fun c1 => ⟨fun c2 => ?_, fun c2 => ?_⟩⟩
  · rw [if_pos (Or.inl c1)]; exact ⟨_, rfl, rfl, hIa⟩
  · have c2' : ¬ nI 15 < a4 := Int32.not_lt.mpr c2
    obtain ⟨w, hw, rfl⟩ := nI_of2 (x := a4) (M := 15) (n := 15) rfl c1 c2
    rw [if_neg (not_or.mpr ⟨c1, c2'⟩), Option.bind_some, if_neg kq_10]
    obtain ⟨z', l1, l2, l3, l4⟩ := pm_lays (z := zm) o ha
    have hU := pr_U_lt o (m := a) (k := pr_N b c - 1) ha.2 (by omega)
    rw [l1, Option.bind_some]
    dsimp only
    generalize hU0 : pq_U b c a (pr_N b c - 1) = n at *
    refine pr_rowsOf hIa hb o fun ad q r Pa Pb zx' hz hx hat hI2 => ?_
    have hI3 := pr_Inv_m hI2 l3 (by decide) (by intro k hk; simp; omega)
    have hw' := pr_heapsWith ha o hat.1
    rw [hU0] at hw'
    refine ⟨ad, rfl, q, _, r, Pa, Pb, rfl, _, hw', fun c3 => ?_, fun c3 => ?_⟩
    · dsimp only at c3 ⊢
      have hn : n ≤ 1000 := (nI_leI (b := 1000) (by omega) (by omega)).mp c3
      rw [if_pos c3]
      -- the class
      have cl : kj_it (sc_sym (nI a) (nI b) (nI c) (nI w) (nI n)) 5000 (0, 0, 0) = some (nI (pq_sum n fun k => pq_n (pr_has w fun s => pq_sy s a b c (pr_hn b c a k)))) := by
        obtain ⟨r, r1, r2⟩ := kq_it0 (step := sc_sym (nI a) (nI b) (nI c) (nI w) (nI n))
          (fun k s => ∃ E, s = (nI (pq_sum k fun k => pq_n (pr_has w fun s => pq_sy s a b c (pr_hn b c a k))), E, nI k) ∧ (k < n → E = lN (pq_enc (pr_hn b c a k) 16)))
          (fun r => r = nI (pq_sum n fun k => pq_n (pr_has w fun s => pq_sy s a b c (pr_hn b c a k)))) n (by omega) (by
            rintro k s hk ⟨E, rfl, g⟩
            rw [g hk]
            obtain ⟨E', w1, w2⟩ := pr_walk ha o hm (n := k) (by omega)
            unfold sc_sym
            dsimp only
            rw [if_neg (nI_ge hk (by omega)), pr_hasSymmetries (by omega) (pr_hn_hv ha o hm (by omega)), Option.bind_some, w1, Option.bind_some, nI_1, nI_1]
            refine ⟨_, rfl, E', ?_, fun h => w2 (by omega)⟩
            rw [pq_sum]
            cases pr_has w fun s => pq_sy s a b c (pr_hn b c a k) <;> rfl) (by
            rintro s ⟨E, rfl, g⟩
            refine ⟨_, ?_, rfl⟩
            unfold sc_sym
            dsimp only
            rw [if_pos (nI_le (Nat.le_refl n) (by omega))])
          (s := (0, 0, 0)) ⟨0, rfl, fun _ => by rw [pr_hn_0 ha o hm]; rfl⟩
        rw [r1, r2]
      refine ⟨_, hx.2 _ _ hb, _, cl, ?_⟩
      -- the reference
      have rf : ∃ z2, lm_symmetric_49 5000 (nI a) (nI b) (nI c) (nI w) (nI n) 0 0 z' = some (nI (pq_sum n fun k => pq_n (pr_has w fun s => pq_sy s a b c (pr_hn b c a k))), z2) ∧ pr_fq [5] [4, 5, 6, 7, 8] zm z2 := by
        unfold lm_symmetric_49
        obtain ⟨r, r1, z2, rfl, r2⟩ := kq_it0 (step := fun (s : (Int32 × Int32 × Int32 × Int32 × Int32 × Int32 × Int32 × km_S)) => fm_symmetric_49 (s.1) (s.2.1) (s.2.2.1) (s.2.2.2.1) (s.2.2.2.2.1) (s.2.2.2.2.2.1) (s.2.2.2.2.2.2.1) (s.2.2.2.2.2.2.2))
          (fun k s => ∃ z2, s = (nI a, nI b, nI c, nI w, nI n, nI (pq_sum k fun k => pq_n (pr_has w fun s => pq_sy s a b c (pr_hn b c a k))), nI k, z2) ∧ pr_fq [] [4, 5, 8] z' z2)
          (fun r => ∃ z2, r = (nI (pq_sum n fun k => pq_n (pr_has w fun s => pq_sy s a b c (pr_hn b c a k))), z2) ∧ pr_fq [] [4, 5, 8] z' z2) n (by omega) (by
            rintro k s hk ⟨z2, rfl, f⟩
            have hkU : k < pq_U b c a (pr_N b c - 1) := by omega
            obtain ⟨z3, m1, m2, m3, m4⟩ := pm_makes ha o hm (pr_ly_fq l2 f (by decide) (by decide) (by decide)) hkU
            obtain ⟨z4, s1, s2⟩ := pm_symmetries (pr_hn_hv ha o hm hkU) m2 (by decide) (by decide) (by decide)
            have f4 : pr_fq [] [4, 5, 8] z' z4 := pr_fq_t (pr_fq_t f (pr_fq_w m3 (by simp) (by simp))) (pr_fq_w (pr_fq_fr s2) (by simp) (by simp))
            dsimp only
            unfold fm_symmetric_49 fm_symmetric_89
            rw [if_neg (nI_ge hk (by omega)), m1, Option.bind_some, show fm_symmetries 4 0 z3 = some (pq_acc (fun w => pq_sy w a b c (pr_hn b c a k)) 4, z4) from s1, Option.bind_some]
            dsimp only
            by_cases c4 : pr_has w (fun s => pq_sy s a b c (pr_hn b c a k)) = true
            · rw [if_pos ((pr_acc_has (by omega) _).mpr c4)]
              refine ⟨_, rfl, z4, ?_, f4⟩
              rw [pq_sum, c4, nI_1, nI_1]; rfl
            · rw [if_neg (mt (pr_acc_has (by omega) _).mp c4)]
              refine ⟨_, rfl, z4, ?_, f4⟩
              rw [pq_sum, Bool.eq_false_iff.mpr c4, nI_1, Int32.add_zero]; rfl) (by
            rintro s ⟨z2, rfl, f⟩
            refine ⟨_, ?_, z2, rfl, f⟩
            dsimp only
            unfold fm_symmetric_49
            rw [if_pos (nI_le (Nat.le_refl n) (by omega))])
          (s := (nI a, nI b, nI c, nI w, nI n, 0, 0, z')) ⟨z', rfl, pr_fq_r⟩
        exact ⟨z2, r1, pr_fq_t (pr_fq_w l3 (by simp) (by simp)) (pr_fq_w r2 (by simp) (by simp))⟩
      obtain ⟨z2, f1, f2⟩ := rf
      rw [f1]
      exact ⟨_, rfl, rfl, pr_Inv_m hI2 f2 (by decide) (by intro k hk; simp; omega)⟩
    · dsimp only at c3 ⊢
      rw [if_neg c3]
      exact ⟨_, rfl, rfl, hI3⟩
  · have c2' : nI 15 < a4 := Int32.not_le.mp c2
    rw [if_pos (Or.inr c2')]; exact ⟨_, rfl, rfl, hIa⟩
