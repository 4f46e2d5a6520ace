/-! MINOR -/
def pr_bin : Nat → Nat → Nat
  | _, 0 => 1
  | 0, _ + 1 => 0
  | n + 1, k + 1 => pr_bin n k + pr_bin n (k + 1)
def pr_el (b c i j : Nat) : Int := if c + j < i then 0 else (pr_bin (b + c) (c + j - i) : Int)
theorem pm_chosen {b c : Nat} (o : pr_ok b c) {i j : Nat} (hi : i < 4) (hj : j < 4) : fm_chosen (nI b + nI c) (nI c + nI j - nI i) = some (Int64.ofInt (pr_el b c i j)) :=
  pr_ball (p := fun b c => ∀ i, i < 4 → ∀ j, j < 4 → fm_chosen (nI b + nI c) (nI c + nI j - nI i) = some (Int64.ofInt (pr_el b c i j))) (by decide +kernel) o i hi j hj
def pr_sgn (taken j : Nat) : Nat → Int → Int
  | 0, t => t
  | n + 1, t => if taken / 2 ^ (j + 1 + n) % 2 = 1 then -(pr_sgn taken j n t) else pr_sgn taken j n t
def pr_dw (k : Nat) (E : Nat → Nat → Int) (way : Nat) : Nat → Nat × Nat × Int
  | 0 => (way, 0, 1)
  | i + 1 => ((pr_dw k E way i).1 / k, (pr_dw k E way i).2.1 ||| 2 ^ ((pr_dw k E way i).1 % k), if (pr_dw k E way i).2.1 / 2 ^ ((pr_dw k E way i).1 % k) % 2 = 1 then 0 else pr_sgn (pr_dw k E way i).2.1 ((pr_dw k E way i).1 % k) (k - 1 - (pr_dw k E way i).1 % k) (pr_dw k E way i).2.2 * E i ((pr_dw k E way i).1 % k))
def pr_dt (k : Nat) (E : Nat → Nat → Int) : Nat → Int
  | 0 => 0
  | n + 1 => pr_dt k E n + (pr_dw k E n k).2.2
theorem pr_lorb : ∀ w, w < 16 → ∀ k, k < 4 → nI w ||| (1 : Int32) <<< (nI k &&& 31) = nI (w ||| 2 ^ k) := by decide +kernel
theorem pr_lor16 : ∀ w, w < 16 → ∀ k, k < 4 → w ||| 2 ^ k < 16 := by decide +kernel
theorem pr_dw_lt {k : Nat} {E : Nat → Nat → Int} (hk : k ≤ 4) {way : Nat} (hw : way < 300) : ∀ i, i ≤ k → (pr_dw k E way i).1 < 300 ∧ (pr_dw k E way i).2.1 < 16
  | 0, _ => ⟨hw, by show 0 < 16; omega⟩
  | i + 1, hi => by
    obtain ⟨h1, h2⟩ := pr_dw_lt (E := E) hk hw i (by omega)
    refine ⟨Nat.lt_of_le_of_lt (Nat.div_le_self _ _) h1, pr_lor16 _ h2 _ ?_⟩
    exact Nat.lt_of_lt_of_le (Nat.mod_lt _ (by omega)) hk
theorem pm_det74 {z : km_S} {x1 x2 : Int32} {x4 : Int64} {x6 x7 x8 x12 : Int32} {k taken j : Nat} {t : Int} (hk : k ≤ 4) (ht : taken < 16) (hj : j < k) : lm_determinant_74 5000 x1 x2 (nI k) x4 x6 x7 x8 (nI taken) (Int64.ofInt t) x12 (nI j) (nI j + 1) z = some (x1, x2, nI k, x4, x6, x7, x8, nI taken, Int64.ofInt (pr_sgn taken j (k - 1 - j) t), x12, nI j, z) := by
  unfold lm_determinant_74
  refine kq_run0 (fun n => (x1, x2, nI k, x4, x6, x7, x8, nI taken, Int64.ofInt (pr_sgn taken j n t), x12, nI j, nI (j + 1 + n), z)) (k - 1 - j) (by rw [nI_1]; rfl) (by omega) (fun n hn => ?_) ?_
  · dsimp only
    unfold fm_determinant_74 fm_determinant_99
    rw [if_neg (nI_ge (by omega) (by omega)), nI_1, pr_sgn]
    by_cases c1 : taken / 2 ^ (j + 1 + n) % 2 = 1
    · rw [if_pos ((pr_bit taken ht _ (by omega)).mpr c1), if_pos c1, Int64.ofInt_neg]; rfl
    · rw [if_neg (mt (pr_bit taken ht _ (by omega)).mp c1), if_neg c1]; rfl
  · dsimp only
    unfold fm_determinant_74
    rw [if_pos (nI_le (by omega) (by omega))]
theorem pm_det50 {z : km_S} {b c k way : Nat} {x4 : Int64} {x6 x7 : Int32} (o : pr_ok b c) (hk : k ≤ 4) (hw : way < 300) : lm_determinant_50 5000 (nI b) (nI c) (nI k) x4 x6 x7 (nI way) 0 1 0 z = some (nI b, nI c, nI k, x4, x6, x7, Int64.ofInt (pr_dw k (pr_el b c) way k).2.2, z) := by
  unfold lm_determinant_50
  refine kq_run0 (fun i => (nI b, nI c, nI k, x4, x6, x7, nI (pr_dw k (pr_el b c) way i).1, nI (pr_dw k (pr_el b c) way i).2.1, Int64.ofInt (pr_dw k (pr_el b c) way i).2.2, nI i, z)) k rfl (by omega) (fun i hi => ?_) ?_
  · obtain ⟨h1, h2⟩ := pr_dw_lt (E := pr_el b c) hk hw i (by omega)
    have hj := Nat.mod_lt (pr_dw k (pr_el b c) way i).1 (show 0 < k by omega)
    have k0 : ¬ nI k = 0 := nI_ne0 (by omega) (by omega)
    dsimp only
    rw [show pr_dw k (pr_el b c) way (i + 1) = ((pr_dw k (pr_el b c) way i).1 / k, (pr_dw k (pr_el b c) way i).2.1 ||| 2 ^ ((pr_dw k (pr_el b c) way i).1 % k), if (pr_dw k (pr_el b c) way i).2.1 / 2 ^ ((pr_dw k (pr_el b c) way i).1 % k) % 2 = 1 then 0 else pr_sgn (pr_dw k (pr_el b c) way i).2.1 ((pr_dw k (pr_el b c) way i).1 % k) (k - 1 - (pr_dw k (pr_el b c) way i).1 % k) (pr_dw k (pr_el b c) way i).2.2 * pr_el b c i ((pr_dw k (pr_el b c) way i).1 % k)) from rfl]
    unfold fm_determinant_50 fm_determinant_138
    rw [if_neg (nI_ge hi (by omega)), if_neg k0, if_neg k0, pk_rem (by omega) (by omega) (by omega), pk_div (by omega) (by omega) (by omega), pm_det74 hk h2 hj, Option.bind_some]
    dsimp only
    rw [pr_lorb _ h2 _ (by omega), nI_1]
    by_cases c1 : (pr_dw k (pr_el b c) way i).2.1 / 2 ^ ((pr_dw k (pr_el b c) way i).1 % k) % 2 = 1
    · rw [if_pos ((pr_bit _ h2 _ (by omega)).mpr c1), if_pos c1]; rfl
    · rw [if_neg (mt (pr_bit _ h2 _ (by omega)).mp c1), if_neg c1, pm_chosen o (by omega) (by omega), Option.bind_some, Int64.ofInt_mul]
  · dsimp only
    unfold fm_determinant_50
    rw [if_pos (nI_le (Nat.le_refl k) (by omega))]
theorem pm_det {z : km_S} {b c k : Nat} (o : pr_ok b c) (hk : k ≤ 4) : fm_determinant (nI b) (nI c) (nI k) z = some (Int64.ofInt (pr_dt k (pr_el b c) (k ^ k)), z) := by
  have hkk : k ^ k < 300 := by
    have K : ∀ k, k < 5 → k ^ k < 300 := by decide
    exact K k (by omega)
  unfold fm_determinant
  have h9 : lm_determinant_9 5000 (nI b) (nI c) (nI k) 0 1 0 z = some (nI b, nI c, nI k, 0, nI (k ^ k), z) := by
    unfold lm_determinant_9
    refine kq_run0 (fun t => (nI b, nI c, nI k, 0, nI (k ^ t), nI t, z)) k rfl (by omega) (fun t ht => ?_) ?_
    · dsimp only
      unfold fm_determinant_9
      rw [if_neg (nI_ge ht (by omega)), pk_mul, nI_1, Nat.pow_succ]
    · dsimp only
      unfold fm_determinant_9
      rw [if_pos (nI_le (Nat.le_refl k) (by omega))]
  rw [h9, Option.bind_some]
  unfold lm_determinant_30
  refine kq_runb (fun w => (nI b, nI c, nI k, Int64.ofInt (pr_dt k (pr_el b c) w), nI (k ^ k), nI w, z)) (k ^ k) (Int64.ofInt (pr_dt k (pr_el b c) (k ^ k)), z) rfl (by omega) (fun w hw => ?_) ?_ rfl
  · dsimp only
    unfold fm_determinant_30
    rw [if_neg (nI_ge hw (by omega)), pm_det50 o hk (by omega), Option.bind_some, nI_1, pr_dt, Int64.ofInt_add]
  · dsimp only
    unfold fm_determinant_30
    rw [if_pos (nI_le (Nat.le_refl _) (by omega))]
theorem pr_det_a (bb bc : Int32) : ∀ (d : Nat) (ba ba' x1 x2 x3 : Int32), fc_determinant d ba bb bc x1 x2 x3 = fc_determinant d ba' bb bc x1 x2 x3
  | 0, _, _, _, _, _ => rfl
  | d + 1, ba, ba', x1, x2, x3 => by
    have e : fc_determinant d ba bb bc = fc_determinant d ba' bb bc := by
      funext y1 y2 y3; exact pr_det_a bb bc d ba ba' y1 y2 y3
    show fc_determinant_body ba bb bc (fc_determinant d ba bb bc) x1 x2 x3 = fc_determinant_body ba' bb bc (fc_determinant d ba' bb bc) x1 x2 x3
    rw [e]; rfl
/-- both determinants of each matrix that can be asked for -/
theorem pr_dets1 : ∀ c, c < 4 → ∀ k, k < 5 → fc_determinant 6 0 (nI 1) (nI (c + 1)) (nI k) 0 0 = some (Int64.ofInt (pr_dt k (pr_el 1 (c + 1)) (k ^ k))) := by decide +kernel
theorem pr_dets2 : ∀ c, c < 4 → ∀ k, k < 5 → fc_determinant 6 0 (nI 2) (nI (c + 1)) (nI k) 0 0 = some (Int64.ofInt (pr_dt k (pr_el 2 (c + 1)) (k ^ k))) := by decide +kernel
theorem pr_dets3 : ∀ c, c < 4 → ∀ k, k < 5 → fc_determinant 6 0 (nI 3) (nI (c + 1)) (nI k) 0 0 = some (Int64.ofInt (pr_dt k (pr_el 3 (c + 1)) (k ^ k))) := by decide +kernel
theorem pr_dets4 : ∀ c, c < 4 → ∀ k, k < 5 → fc_determinant 6 0 (nI 4) (nI (c + 1)) (nI k) 0 0 = some (Int64.ofInt (pr_dt k (pr_el 4 (c + 1)) (k ^ k))) := by decide +kernel
theorem pr_dets {b c : Nat} (o : pr_ok b c) : ∀ k, k < 5 → fc_determinant 6 0 (nI b) (nI c) (nI k) 0 0 = some (Int64.ofInt (pr_dt k (pr_el b c) (k ^ k))) := by
  refine pr_ball (p := fun b c => ∀ k, k < 5 → fc_determinant 6 0 (nI b) (nI c) (nI k) 0 0 = some (Int64.ofInt (pr_dt k (pr_el b c) (k ^ k)))) (fun b hb c hc => ?_) o
  have : b = 0 ∨ b = 1 ∨ b = 2 ∨ b = 3 := by omega
  rcases this with rfl | rfl | rfl | rfl
  · exact pr_dets1 c hc
  · exact pr_dets2 c hc
  · exact pr_dets3 c hc
  · exact pr_dets4 c hc
/-- minor(a, b, c, k) -/
theorem pq_s19 (cA : Nat → ClassId) : kl_s19 cA (pq_Inv cA) := by
  intro zx P zm hI a1 a2 a3 a4
  unfold vc_minor fm_minor fm_minor_30
  refine pr_of (fun h0 => ⟨fun _ => ?_, fun _ e => by cases e⟩) (fun a b c bx ha o hm e1 e2 e3 h1 hb => ⟨fun e => (by cases e), fun a3' e => ?_⟩)
  · rw [h0]; exact ⟨_, rfl, rfl, hI⟩
  cases e
  subst e1 e2 e3
  have hIa := pq_Inv_app [((bx, .inr (0, [.int (nI a), .int (nI b), .int (nI c)])) : Nat × va_E)] hI
  rw [h1, Option.bind_some, if_neg kq_10, pq_in0 (by omega)]
  refine ⟨fun c1 => ?_, fun c1 => ⟨fun c2 => ?_, fun c2 => ?_⟩⟩
  · rw [if_pos (Or.inl c1)]; exact ⟨_, rfl, rfl, hIa⟩
  · rw [if_neg (not_or.mpr ⟨c1, Int32.not_lt.mpr c2⟩), Option.bind_some, if_neg kq_10]
    obtain ⟨k, hk, rfl⟩ := nI_of2 (x := a4) (M := nI a) (n := a) (nI_toInt (by omega)) c1 c2
    refine ⟨_, hb, _, (pr_det_a _ _ _ _ 0 _ _ _).trans (pr_dets o k (by omega)), ?_⟩
    rw [pm_det o (by omega)]
    exact ⟨_, rfl, rfl, hIa⟩
  · rw [if_pos (Or.inr (Int32.not_le.mp c2))]; exact ⟨_, rfl, rfl, hIa⟩
