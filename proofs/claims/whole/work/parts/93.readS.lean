/-! READING A HEAP: the sides, both -/
theorem pu_inR_all : (pq_all 10 fun a => pq_all 10 fun b => pq_all 10 fun c => decide (fx_inRange (nI a) (nI b) (nI c) = some (pq_b (decide ((1 ≤ a ∧ a ≤ 4) ∧ (1 ≤ b ∧ b ≤ 4) ∧ (1 ≤ c ∧ c ≤ 4) ∧ a * b * c ≤ 48))))) = true := by decide +kernel
theorem pu_inR {a b c : Nat} (ha : a ≤ 9) (hb : b ≤ 9) (hc : c ≤ 9) : fx_inRange (nI a) (nI b) (nI c) = some (pq_b (decide ((1 ≤ a ∧ a ≤ 4) ∧ (1 ≤ b ∧ b ≤ 4) ∧ (1 ≤ c ∧ c ≤ 4) ∧ a * b * c ≤ 48))) :=
  of_decide_eq_true (pq_all_iff.mp (pq_all_iff.mp (pq_all_iff.mp pu_inR_all a (by omega)) b (by omega)) c (by omega))
theorem pu_c_side0 {T : Nat → Nat} {n p : Nat} {x y w : Int32} {zx : kx_S} (h : pu_tp T n zx) (h5 : zx.1 5 = nI p) (hp : p ≤ n) (e : pu_dig (pu_sg T n p) = none) : ft_readSide x y w zx = some (0, (va_up zx.1 6 1, zx.2)) := by
  unfold ft_readSide
  rw [pu_c_digit h h5 hp, Option.bind_some, e]; rfl
theorem pu_c_side1 {T : Nat → Nat} {n p v a b c : Nat} {zx : kx_S} (h : pu_tp T n zx) (h5 : zx.1 5 = nI p) (hp : p ≤ n) (e : pu_dig (pu_sg T n p) = some v) (ha : a ≤ 9) (hb : b ≤ 9) (hc : c ≤ 9) : ft_readSide (nI a) (nI b) (nI c) zx = if (1 ≤ a ∧ a ≤ 4) ∧ (1 ≤ b ∧ b ≤ 4) ∧ (1 ≤ c ∧ c ≤ 4) ∧ a * b * c ≤ 48 then some (1, (va_up zx.1 5 (nI (p + 1)), zx.2)) else some (0, (va_up zx.1 6 2, zx.2)) := by
  unfold ft_readSide
  rw [pu_c_digit h h5 hp, Option.bind_some, e]
  dsimp only
  rw [if_neg (show ¬ pq_b (some v).isSome = 0 from kq_10), pu_inR ha hb hc, Option.bind_some]
  by_cases q : (1 ≤ a ∧ a ≤ 4) ∧ (1 ≤ b ∧ b ≤ 4) ∧ (1 ≤ c ∧ c ≤ 4) ∧ a * b * c ≤ 48
  · rw [decide_eq_true q, if_neg (show ¬ pq_b true = 0 by decide), if_pos q, h5, nI_1]; rfl
  · rw [decide_eq_false q, if_pos (show pq_b false = 0 from rfl), if_neg q]; rfl
theorem pu_tp_f {T : Nat → Nat} {n : Nat} {zx : kx_S} {f : Nat → Int32} (h : pu_tp T n zx) (e : f 4 = zx.1 4) : pu_tp T n (f, zx.2) := ⟨h.1, e.trans h.2.1, h.2.2⟩
/-- the reference after a fault in the box -/
theorem pu_m_box1 {T : Nat → Nat} {n : Nat} {zm0 : km_S} {s : pu_S} (tm : pu_tm T n zm0) (hs : 0 < s.2.2 ∧ s.2.2 ≤ 2) : ∀ (m fuel k : Nat) (z : km_S), k + m = 4 → 1 ≤ k → m < fuel → pu_M n zm0 s z → ∃ z', kj_it (fun (s : (Int32 × km_S)) => fm_readsBox_12 (s.1) (s.2)) fuel (nI k, z) = some z' ∧ pu_M n zm0 s z'
  | 0, fuel, k, z, hk, _, hf, M => by
    obtain ⟨f, rfl⟩ : ∃ g, fuel = g + 1 := ⟨fuel - 1, by omega⟩
    have : k = 4 := by omega
    subst this
    refine ⟨z, ?_, M⟩
    rw [kj_it]
    dsimp only
    unfold fm_readsBox_12
    rw [if_pos (by decide)]; rfl
  | m + 1, fuel, k, z, hk, h1, hf, M => by
    obtain ⟨f, rfl⟩ : ∃ g, fuel = g + 1 := ⟨fuel - 1, by omega⟩
    have h4 : ¬ z.1 4 = 0 := by rw [M.2.2.2]; exact nI_ne0 hs.1 (by omega)
    have stp : fm_readsBox_12 (nI k) z = some (.inl (nI (k + 1), (z.1, va_up z.2.1 4 (upd (z.2.1 4) k (-1)), z.2.2))) := by
      unfold fm_readsBox_12 fm_readsBox_71
      rw [if_neg (show ¬ (3 : Int32) < nI k from nI_nlt (a := 3) (by omega) (by omega)), pu_m_digit1 (pu_tm_M tm M) M.2.2.1 M.2.1 h4, Option.bind_some]
      dsimp only
      rw [kq_wr (show k < 20 by omega) kq_km, Option.bind_some]
      dsimp only
      rw [if_neg h4, pu_m_goes1 (z := (z.1, va_up z.2.1 4 (upd (z.2.1 4) k (-1)), z.2.2)) h4, Option.bind_some, ite_self, nI_1]
    rw [kj_it]
    dsimp only
    rw [stp]
    exact pu_m_box1 tm hs m f (k + 1) _ (by omega) (by omega) (by omega) (pu_M_arr M fun k q1 _ => va_up_ne _ _ q1)
/-- a digit that is none, or out of 1 to 4 -/
theorem pu_m_box2 {T : Nat → Nat} {n k e fuel : Nat} {zm0 z : km_S} {s : pu_S} (tm : pu_tm T n zm0) (M : pu_M n zm0 s z) (he : 0 < e ∧ e ≤ 2) (hk : 1 ≤ k ∧ k ≤ 3) (hf : 5 ≤ fuel) (hd : fm_digit 1 4 z = some (-1, (va_up z.1 4 (nI e), z.2))) : ∃ z', kj_it (fun (s : (Int32 × km_S)) => fm_readsBox_12 (s.1) (s.2)) fuel (nI k, z) = some z' ∧ pu_M n zm0 (s.1, s.2.1, e) z' := by
  obtain ⟨f, rfl⟩ : ∃ g, fuel = g + 1 := ⟨fuel - 1, by omega⟩
  have w : ¬ (va_up z.1 4 (nI e)) 4 = 0 := by rw [va_up_self]; exact nI_ne0 he.1 (by omega)
  have stp : fm_readsBox_12 (nI k) z = some (.inl (nI (k + 1), (va_up z.1 4 (nI e), va_up z.2.1 4 (upd (z.2.1 4) k (-1)), z.2.2))) := by
    unfold fm_readsBox_12 fm_readsBox_71
    rw [if_neg (show ¬ (3 : Int32) < nI k from nI_nlt (a := 3) (by omega) (by omega)), hd, Option.bind_some]
    dsimp only
    rw [kq_wr (show k < 20 by omega) kq_km, Option.bind_some]
    dsimp only
    rw [if_neg w, pu_m_goes1 (z := (va_up z.1 4 (nI e), va_up z.2.1 4 (upd (z.2.1 4) k (-1)), z.2.2)) w, Option.bind_some, ite_self, nI_1]
  rw [kj_it]
  dsimp only
  rw [stp]
  exact pu_m_box1 (s := (s.1, s.2.1, e)) tm he (3 - k) f (k + 1) _ (by omega) (by omega) (by omega) (pu_M_arr (zm := (va_up z.1 4 (nI e), z.2)) (pu_M_fail M) fun k q1 _ => va_up_ne _ _ q1)
/-- a digit of 1 to 4 -/
theorem pu_m_box3 {n k v f : Nat} {zm0 z : km_S} {s : pu_S} (M : pu_M n zm0 s z) (h0 : s.2.2 = 0) (hk : 1 ≤ k ∧ k < 3) (hd : fm_digit 1 4 z = some (nI v, z)) : kj_it (fun (s : (Int32 × km_S)) => fm_readsBox_12 (s.1) (s.2)) (f + 1) (nI k, z) = kj_it (fun (s : (Int32 × km_S)) => fm_readsBox_12 (s.1) (s.2)) f (nI (k + 1), (va_up z.1 3 (nI (s.1 + 1)), va_up z.2.1 4 (upd (z.2.1 4) k (nI v)), z.2.2)) := by
  have h4 : z.1 4 = 0 := by rw [M.2.2.2, h0]; rfl
  have stp : fm_readsBox_12 (nI k) z = some (.inl (nI (k + 1), (va_up z.1 3 (nI (s.1 + 1)), va_up z.2.1 4 (upd (z.2.1 4) k (nI v)), z.2.2))) := by
    unfold fm_readsBox_12 fm_readsBox_71
    rw [if_neg (show ¬ (3 : Int32) < nI k from nI_nlt (a := 3) (by omega) (by omega)), hd, Option.bind_some]
    dsimp only
    rw [kq_wr (show k < 20 by omega) kq_km, Option.bind_some]
    dsimp only
    rw [if_neg (show ¬ nI k = 3 from mt (nI_eq (b := 3) (by omega) (by omega)).mp (by omega)), pu_m_goes0 (z := (z.1, va_up z.2.1 4 (upd (z.2.1 4) k (nI v)), z.2.2)) h4 M.2.2.1, Option.bind_some, nI_1]
  rw [kj_it]
  dsimp only
  rw [stp]; rfl
theorem pu_m_box4 {T : Nat → Nat} {n k f : Nat} {zm0 z : km_S} {s : pu_S} (tm : pu_tm T n zm0) (M : pu_M n zm0 s z) (h0 : s.2.2 = 0) (hk : 1 ≤ k ∧ k < 3) (hf : 5 ≤ f) :
    (pu_dig (pu_sg T n s.1) = none → ∃ z', kj_it (fun (s : (Int32 × km_S)) => fm_readsBox_12 (s.1) (s.2)) (f + 1) (nI k, z) = some z' ∧ pu_M n zm0 (s.1, s.2.1, 1) z') ∧ ∀ v, pu_dig (pu_sg T n s.1) = some v → (¬ (1 ≤ v ∧ v ≤ 4) → ∃ z', kj_it (fun (s : (Int32 × km_S)) => fm_readsBox_12 (s.1) (s.2)) (f + 1) (nI k, z) = some z' ∧ pu_M n zm0 (s.1, s.2.1, 2) z') ∧ (1 ≤ v ∧ v ≤ 4 → ∃ z2, kj_it (fun (s : (Int32 × km_S)) => fm_readsBox_12 (s.1) (s.2)) (f + 1) (nI k, z) = kj_it (fun (s : (Int32 × km_S)) => fm_readsBox_12 (s.1) (s.2)) f (nI (k + 1), z2) ∧ pu_M n zm0 (s.1 + 1, s.2) z2 ∧ z2.2.1 4 = upd (z.2.1 4) k (nI v) ∧ z2.2.1 19 = z.2.1 19) := by
  have h4 : z.1 4 = 0 := by rw [M.2.2.2, h0]; rfl
  obtain ⟨d1, d2⟩ := pu_m_digit (lo := 1) (hi := 4) (pu_tm_M tm M) M.2.2.1 M.2.1 h4 (by omega) (by omega)
  refine ⟨fun e => pu_m_box2 (e := 1) tm M (by omega) (by omega) (by omega) (d1 e), fun v e => ⟨fun q => pu_m_box2 (e := 2) tm M (by omega) (by omega) (by omega) ((d2 v e).1 q), fun q => ?_⟩⟩
  refine ⟨_, pu_m_box3 M h0 hk ((d2 v e).2 q), pu_M_go (pu_M_arr (A := va_up z.2.1 4 (upd (z.2.1 4) k (nI v))) M (fun k q1 _ => va_up_ne _ _ q1)) (pu_dig_lt e), ?_, ?_⟩
  · dsimp only; rw [va_up_self]
  · dsimp only; rw [va_up_ne _ _ (by decide)]
theorem pu_m_box5 {T : Nat → Nat} {n a b f : Nat} {zm0 z : km_S} {s : pu_S} (tm : pu_tm T n zm0) (M : pu_M n zm0 s z) (h0 : s.2.2 = 0) (hf : 5 ≤ f) (ha : a ≤ 4) (hb : b ≤ 4) (h41 : z.2.1 4 1 = nI a) (h42 : z.2.1 4 2 = nI b) :
    (pu_dig (pu_sg T n s.1) = none → ∃ z', kj_it (fun (s : (Int32 × km_S)) => fm_readsBox_12 (s.1) (s.2)) (f + 1) (nI 3, z) = some z' ∧ pu_M n zm0 (s.1, s.2.1, 1) z') ∧ ∀ v, pu_dig (pu_sg T n s.1) = some v → (¬ ((1 ≤ v ∧ v ≤ 4) ∧ a * b * v ≤ 48) → ∃ z', kj_it (fun (s : (Int32 × km_S)) => fm_readsBox_12 (s.1) (s.2)) (f + 1) (nI 3, z) = some z' ∧ pu_M n zm0 (s.1, s.2.1, 2) z') ∧ ((1 ≤ v ∧ v ≤ 4) ∧ a * b * v ≤ 48 → ∃ z2, kj_it (fun (s : (Int32 × km_S)) => fm_readsBox_12 (s.1) (s.2)) (f + 1) (nI 3, z) = some z2 ∧ pu_M n zm0 (s.1 + 1, s.2) z2 ∧ z2.2.1 4 = upd (z.2.1 4) 3 (nI v) ∧ z2.2.1 19 = z.2.1 19) := by
  have h4 : z.1 4 = 0 := by rw [M.2.2.2, h0]; rfl
  obtain ⟨d1, d2⟩ := pu_m_digit (lo := 1) (hi := 4) (pu_tm_M tm M) M.2.2.1 M.2.1 h4 (by omega) (by omega)
  refine ⟨fun e => pu_m_box2 (e := 1) tm M (by omega) (by omega) (by omega) (d1 e), fun v e => ?_⟩
  -- in 1 to 4
  have stp : 1 ≤ v ∧ v ≤ 4 → fm_readsBox_12 (nI 3) z = if a * b * v ≤ 48 then some (.inl (nI 4, (va_up z.1 3 (nI (s.1 + 1)), va_up z.2.1 4 (upd (z.2.1 4) 3 (nI v)), z.2.2))) else some (.inl (nI 4, (va_up z.1 4 (nI 2), va_up z.2.1 4 (upd (z.2.1 4) 3 (nI v)), z.2.2))) := by
    intro q
    have ab : a * b ≤ 4 * 4 := Nat.mul_le_mul ha hb
    have abv : a * b * v ≤ 4 * 4 * 4 := Nat.mul_le_mul ab q.2
    have w : ¬ (va_up z.1 4 2) 4 = 0 := by rw [va_up_self]; decide
    unfold fm_readsBox_12 fm_readsBox_71
    rw [if_neg (show ¬ (3 : Int32) < nI 3 by decide), show fm_digit 1 4 z = _ from (d2 v e).2 q, Option.bind_some]
    dsimp only
    rw [kq_wr (k := 4) (j := 3) (by decide) kq_km, Option.bind_some]
    dsimp only
    rw [if_pos (show nI 3 = 3 from rfl), if_pos h4, show km_rd (z.1, va_up z.2.1 4 (upd (z.2.1 4) 3 (nI v)), z.2.2) 4 1 = some (nI a) from pu_rd4 (z := (z.1, va_up z.2.1 4 (upd (z.2.1 4) 3 (nI v)), z.2.2)) (k := 1) (by dsimp only; rw [va_up_self, pk_un (by decide)]; exact h41) (by decide), Option.bind_some, show km_rd (z.1, va_up z.2.1 4 (upd (z.2.1 4) 3 (nI v)), z.2.2) 4 2 = some (nI b) from pu_rd4 (z := (z.1, va_up z.2.1 4 (upd (z.2.1 4) 3 (nI v)), z.2.2)) (k := 2) (by dsimp only; rw [va_up_self, pk_un (by decide)]; exact h42) (by decide), Option.bind_some, show km_rd (z.1, va_up z.2.1 4 (upd (z.2.1 4) 3 (nI v)), z.2.2) 4 3 = some (nI v) from pu_rd4 (z := (z.1, va_up z.2.1 4 (upd (z.2.1 4) 3 (nI v)), z.2.2)) (k := 3) (by dsimp only; rw [va_up_self, pk_us]) (by decide), Option.bind_some, pk_mul, pk_mul]
    by_cases c1 : a * b * v ≤ 48
    · rw [if_pos (show nI (a * b * v) ≤ 48 from nI_le (b := 48) c1 (by omega)), if_pos c1, pu_m_goes0 (z := (z.1, va_up z.2.1 4 (upd (z.2.1 4) 3 (nI v)), z.2.2)) h4 M.2.2.1]; rfl
    · rw [if_neg (show ¬ nI (a * b * v) ≤ 48 from nI_ge (a := 48) (by omega) (by omega)), if_neg c1, pu_m_fails0 (z := (z.1, va_up z.2.1 4 (upd (z.2.1 4) 3 (nI v)), z.2.2)) h4, Option.bind_some, pu_m_goes1 (z := (va_up z.1 4 2, va_up z.2.1 4 (upd (z.2.1 4) 3 (nI v)), z.2.2)) w]; rfl
  have it : ∀ z', fm_readsBox_12 (nI 3) z = some (.inl (nI 4, z')) → kj_it (fun (s : (Int32 × km_S)) => fm_readsBox_12 (s.1) (s.2)) (f + 1) (nI 3, z) = some z' := fun z' q => by
    obtain ⟨g, rfl⟩ : ∃ g, f = g + 1 := ⟨f - 1, by omega⟩
    rw [kj_it]
    dsimp only
    rw [q, Option.bind_some]
    dsimp only
    rw [kj_it]
    dsimp only
    unfold fm_readsBox_12
    rw [if_pos (by decide)]; rfl
  refine ⟨fun q => ?_, fun q => ?_⟩
  · by_cases c1 : 1 ≤ v ∧ v ≤ 4
    · refine ⟨_, it _ ((stp c1).trans (if_neg fun c2 => q ⟨c1, c2⟩)), ?_⟩
      exact pu_M_arr (zm := (va_up z.1 4 (nI 2), z.2)) (pu_M_fail M) fun k q1 _ => va_up_ne _ _ q1
    · exact pu_m_box2 (e := 2) tm M (by omega) (by omega) (by omega) ((d2 v e).1 c1)
  · refine ⟨_, it _ ((stp q.1).trans (if_pos q.2)), pu_M_go (pu_M_arr (A := va_up z.2.1 4 (upd (z.2.1 4) 3 (nI v))) M (fun k q1 _ => va_up_ne _ _ q1)) (pu_dig_lt e), ?_, ?_⟩
    · dsimp only; rw [va_up_self]
    · dsimp only; rw [va_up_ne _ _ (by decide)]
def pu_F (zx0 zx : kx_S) : Prop := (∀ k, k = 0 ∨ k = 4 ∨ k = 7 ∨ k = 8 → zx.1 k = zx0.1 k) ∧ (∀ k, k ≠ 1 → zx.2.1 k = zx0.2.1 k) ∧ zx.2.2 = zx0.2.2
theorem pu_F_t {z z' z'' : kx_S} (h : pu_F z z') (h' : pu_F z' z'') : pu_F z z'' := ⟨fun k hk => (h'.1 k hk).trans (h.1 k hk), fun k hk => (h'.2.1 k hk).trans (h.2.1 k hk), h'.2.2.trans h.2.2⟩
theorem pu_F_C {n : Nat} {zx0 zx : kx_S} {s : pu_S} (C : pu_C n zx0 s zx) : pu_F zx0 zx := ⟨fun k hk => C.1 k (by omega) (by omega), C.2.1, C.2.2.1⟩
theorem pu_Ff {zx : kx_S} {f : Nat → Int32} (e0 : f 0 = zx.1 0) (e4 : f 4 = zx.1 4) (e7 : f 7 = zx.1 7) (e8 : f 8 = zx.1 8) : pu_F zx (f, zx.2) :=
  ⟨fun k hk => by rcases hk with rfl | rfl | rfl | rfl; exact e0; exact e4; exact e7; exact e8, fun _ _ => rfl, rfl⟩
/-- readSides and readsBox -/
theorem pu_sides {T : Nat → Nat} {n p : Nat} {τ : Nat → Option Nat} {zx : kx_S} {zm0 zm : km_S} (tp : pu_tp T n zx) (h5 : zx.1 5 = nI p) (hp : p ≤ n) (h6 : zx.1 6 = 0) (tm : pu_tm T n zm0) (M : pu_M n zm0 (p, τ, 0) zm) :
    (∃ zx' zm' p' k, ft_readSides zx = some (0, zx') ∧ fm_readsBox zm = some zm' ∧ pu_F zx zx' ∧ zx'.1 5 = nI p' ∧ zx'.1 6 = nI k ∧ pu_M n zm0 (p', τ, k) zm' ∧ (0 < k ∧ k ≤ 2)) ∨
    (∃ zx' zm' a b c, ft_readSides zx = some (1, zx') ∧ fm_readsBox zm = some zm' ∧ pu_F zx zx' ∧ zx'.2 = zx.2 ∧ ((1 ≤ a ∧ a ≤ 4) ∧ (1 ≤ b ∧ b ≤ 4) ∧ (1 ≤ c ∧ c ≤ 4) ∧ a * b * c ≤ 48) ∧ zx'.1 1 = nI a ∧ zx'.1 2 = nI b ∧ zx'.1 3 = nI c ∧ zx'.1 5 = nI (p + 3) ∧ zx'.1 6 = 0 ∧ pu_M n zm0 (p + 3, τ, 0) zm' ∧ pu_MB a b c (fun _ => none) zm' ∧ zm'.2.1 19 = zm.2.1 19) := by
  -- the reference begins
  have h4 : zm.1 4 = 0 := M.2.2.2
  have Mb : pu_M n zm0 (p, τ, 0) (zm.1, va_up zm.2.1 4 (pq_bg (zm.2.1 4) 0 0 0), zm.2.2) := pu_M_arr M fun k q1 _ => va_up_ne _ _ q1
  have box : fm_readsBox zm = kj_it (fun (s : (Int32 × km_S)) => fm_readsBox_12 (s.1) (s.2)) 5000 (nI 1, (zm.1, va_up zm.2.1 4 (pq_bg (zm.2.1 4) 0 0 0), zm.2.2)) := by
    unfold fm_readsBox lm_readsBox_12
    rw [pm_begins (k := 4) (by decide), Option.bind_some]
    have : ∀ o : Option km_S, (o.bind fun r2 => some r2) = o := fun o => by cases o <;> rfl
    exact this _
  have lo := pu_tp_lo (p := p) tp
  obtain ⟨x1, x2⟩ := pu_m_box4 (f := 4999) (k := 1) tm Mb rfl (by omega) (by omega)
  rw [box]
  unfold ft_readSides
  rw [pu_c_sign tp h5 hp, Option.bind_some]
  dsimp only
  rw [show kx_pI zx 1 (pu_s (pu_sg T n p) - 48) = some (va_up zx.1 1 (pu_s (pu_sg T n p) - 48), zx.2) from rfl, Option.bind_some]
  dsimp only
  have tp1 : pu_tp T n (va_up zx.1 1 (pu_s (pu_sg T n p) - 48), zx.2) := pu_tp_f tp rfl
  have h51 : ((va_up zx.1 1 (pu_s (pu_sg T n p) - 48), zx.2) : kx_S).1 5 = nI p := h5
  cases e1 : pu_dig (pu_sg T n p) with
  | none =>
    obtain ⟨z', y1, y2⟩ := x1 e1
    rw [pu_c_side0 tp1 h51 hp e1, Option.bind_some]
    dsimp only
    rw [if_pos rfl]
    exact Or.inl ⟨_, z', p, 1, rfl, y1, pu_Ff rfl rfl rfl rfl, h5, rfl, y2, by omega⟩
  | some a =>
    obtain ⟨x3, x4⟩ := x2 a e1
    obtain ⟨_, _, q3, q4⟩ := pu_dig_some lo e1
    have lt1 := pu_dig_lt e1
    rw [q3] at tp1 h51 ⊢
    rw [va_up_self, show ft_readSide (nI a) 1 1 (va_up zx.1 1 (nI a), zx.2) = _ from pu_c_side1 (b := 1) (c := 1) tp1 h51 hp e1 q4 (by omega) (by omega)]
    by_cases c1 : 1 ≤ a ∧ a ≤ 4
    case neg =>
      obtain ⟨z', y1, y2⟩ := x3 c1
      rw [if_neg (fun q => c1 q.1), Option.bind_some]
      dsimp only
      rw [if_pos rfl]
      exact Or.inl ⟨_, z', p, 2, rfl, y1, pu_Ff rfl rfl rfl rfl, h5, rfl, y2, by omega⟩
    obtain ⟨z2, y1, M2, y3, y4⟩ := x4 c1
    rw [if_pos ⟨c1, by omega, by omega, by omega⟩, Option.bind_some, y1]
    dsimp only
    rw [if_neg kq_10]
    have tp2 : pu_tp T n (va_up (va_up zx.1 1 (nI a)) 5 (nI (p + 1)), zx.2) := pu_tp_f tp rfl
    have h52 : ((va_up (va_up zx.1 1 (nI a)) 5 (nI (p + 1)), zx.2) : kx_S).1 5 = nI (p + 1) := rfl
    have lo2 := pu_tp_lo (p := p + 1) tp
    obtain ⟨x1, x2⟩ := pu_m_box4 (f := 4998) (k := 2) tm M2 rfl (by omega) (by omega)
    rw [pu_c_sign tp2 h52 (by omega), Option.bind_some]
    dsimp only
    rw [show kx_pI (va_up (va_up zx.1 1 (nI a)) 5 (nI (p + 1)), zx.2) 2 (pu_s (pu_sg T n (p + 1)) - 48) = some (va_up (va_up (va_up zx.1 1 (nI a)) 5 (nI (p + 1))) 2 (pu_s (pu_sg T n (p + 1)) - 48), zx.2) from rfl, Option.bind_some]
    dsimp only
    have tp3 : pu_tp T n (va_up (va_up (va_up zx.1 1 (nI a)) 5 (nI (p + 1))) 2 (pu_s (pu_sg T n (p + 1)) - 48), zx.2) := pu_tp_f tp rfl
    have h53 : ((va_up (va_up (va_up zx.1 1 (nI a)) 5 (nI (p + 1))) 2 (pu_s (pu_sg T n (p + 1)) - 48), zx.2) : kx_S).1 5 = nI (p + 1) := rfl
    cases e2 : pu_dig (pu_sg T n (p + 1)) with
    | none =>
      obtain ⟨z', y1, y2⟩ := x1 e2
      rw [pu_c_side0 tp3 h53 (by omega) e2, Option.bind_some]
      dsimp only
      rw [if_pos rfl]
      exact Or.inl ⟨_, z', p + 1, 1, rfl, y1, pu_Ff rfl rfl rfl rfl, rfl, rfl, y2, by omega⟩
    | some b =>
      obtain ⟨x3, x4⟩ := x2 b e2
      obtain ⟨_, _, q3, q4'⟩ := pu_dig_some lo2 e2
      have lt2 := pu_dig_lt e2
      rw [q3] at tp3 h53 ⊢
      rw [va_up_self, show va_up (va_up (va_up zx.1 1 (nI a)) 5 (nI (p + 1))) 2 (nI b) 1 = nI a from rfl, show ft_readSide (nI a) (nI b) 1 (va_up (va_up (va_up zx.1 1 (nI a)) 5 (nI (p + 1))) 2 (nI b), zx.2) = _ from pu_c_side1 (c := 1) tp3 h53 (by omega) e2 q4 q4' (by omega)]
      have ab : a * b ≤ 4 * b := Nat.mul_le_mul c1.2 (Nat.le_refl b)
      by_cases c2 : 1 ≤ b ∧ b ≤ 4
      case neg =>
        obtain ⟨z', y1, y2⟩ := x3 c2
        rw [if_neg (fun q => c2 q.2.1), Option.bind_some]
        dsimp only
        rw [if_pos rfl]
        exact Or.inl ⟨_, z', p + 1, 2, rfl, y1, pu_Ff rfl rfl rfl rfl, rfl, rfl, y2, by omega⟩
      obtain ⟨z3, w1, M3, w3, w4⟩ := x4 c2
      rw [if_pos ⟨c1, c2, by omega, by omega⟩, Option.bind_some, w1]
      dsimp only
      rw [if_neg kq_10]
      have tp4 : pu_tp T n (va_up (va_up (va_up (va_up zx.1 1 (nI a)) 5 (nI (p + 1))) 2 (nI b)) 5 (nI (p + 1 + 1)), zx.2) := pu_tp_f tp rfl
      have h54 : ((va_up (va_up (va_up (va_up zx.1 1 (nI a)) 5 (nI (p + 1))) 2 (nI b)) 5 (nI (p + 1 + 1)), zx.2) : kx_S).1 5 = nI (p + 1 + 1) := rfl
      have lo3 := pu_tp_lo (p := p + 1 + 1) tp
      have a41 : z3.2.1 4 1 = nI a := by rw [w3, pk_un (by decide), y3, pk_us]
      have a42 : z3.2.1 4 2 = nI b := by rw [w3, pk_us]
      obtain ⟨x1, x2⟩ := pu_m_box5 (f := 4997) (a := a) (b := b) tm M3 rfl (by omega) c1.2 c2.2 a41 a42
      rw [pu_c_sign tp4 h54 (by omega), Option.bind_some]
      dsimp only
      rw [show kx_pI (va_up (va_up (va_up (va_up zx.1 1 (nI a)) 5 (nI (p + 1))) 2 (nI b)) 5 (nI (p + 1 + 1)), zx.2) 3 (pu_s (pu_sg T n (p + 1 + 1)) - 48) = some (va_up (va_up (va_up (va_up (va_up zx.1 1 (nI a)) 5 (nI (p + 1))) 2 (nI b)) 5 (nI (p + 1 + 1))) 3 (pu_s (pu_sg T n (p + 1 + 1)) - 48), zx.2) from rfl, Option.bind_some]
      dsimp only
      have tp5 : pu_tp T n (va_up (va_up (va_up (va_up (va_up zx.1 1 (nI a)) 5 (nI (p + 1))) 2 (nI b)) 5 (nI (p + 1 + 1))) 3 (pu_s (pu_sg T n (p + 1 + 1)) - 48), zx.2) := pu_tp_f tp rfl
      have h55 : ((va_up (va_up (va_up (va_up (va_up zx.1 1 (nI a)) 5 (nI (p + 1))) 2 (nI b)) 5 (nI (p + 1 + 1))) 3 (pu_s (pu_sg T n (p + 1 + 1)) - 48), zx.2) : kx_S).1 5 = nI (p + 1 + 1) := rfl
      cases e3 : pu_dig (pu_sg T n (p + 1 + 1)) with
      | none =>
        obtain ⟨z', y1, y2⟩ := x1 e3
        rw [pu_c_side0 tp5 h55 (by omega) e3, Option.bind_some]
        exact Or.inl ⟨_, z', p + 1 + 1, 1, rfl, y1, pu_Ff rfl rfl rfl rfl, rfl, rfl, y2, by omega⟩
      | some c =>
        obtain ⟨x3, x4⟩ := x2 c e3
        obtain ⟨_, _, q3, q4''⟩ := pu_dig_some lo3 e3
        rw [q3] at tp5 h55 ⊢
        rw [va_up_self, show va_up (va_up (va_up (va_up (va_up zx.1 1 (nI a)) 5 (nI (p + 1))) 2 (nI b)) 5 (nI (p + 1 + 1))) 3 (nI c) 1 = nI a from rfl, show va_up (va_up (va_up (va_up (va_up zx.1 1 (nI a)) 5 (nI (p + 1))) 2 (nI b)) 5 (nI (p + 1 + 1))) 3 (nI c) 2 = nI b from rfl, pu_c_side1 tp5 h55 (by omega) e3 q4 q4' q4'']
        by_cases c3 : (1 ≤ c ∧ c ≤ 4) ∧ a * b * c ≤ 48
        case neg =>
          obtain ⟨z', y1, y2⟩ := x3 c3
          rw [if_neg (fun q => c3 q.2.2), Option.bind_some]
          exact Or.inl ⟨_, z', p + 1 + 1, 2, rfl, y1, pu_Ff rfl rfl rfl rfl, rfl, rfl, y2, by omega⟩
        obtain ⟨z4, v1, M4, v3, v4⟩ := x4 c3
        rw [if_pos ⟨c1, c2, c3.1, c3.2⟩, Option.bind_some]
        refine Or.inr ⟨_, z4, a, b, c, rfl, v1, pu_Ff rfl rfl rfl rfl, rfl, ⟨c1, c2, c3.1, c3.2⟩, rfl, rfl, rfl, rfl, h6, M4, ⟨?_, ?_, ?_, ?_, fun t ht => ?_⟩, ?_⟩
        · rw [v3, pk_un (by decide), w3, pk_un (by decide), y3, pk_un (by decide)]; dsimp only; rw [va_up_self]; rfl
        · rw [v3, pk_un (by decide)]; exact a41
        · rw [v3, pk_un (by decide)]; exact a42
        · rw [v3, pk_us]
        · rw [v3, pk_un (by omega), w3, pk_un (by omega), y3, pk_un (by omega)]
          dsimp only
          rw [va_up_self]
          unfold pq_bg
          rw [if_neg (by omega), if_neg (by omega), if_neg (by omega), if_neg (by omega), if_pos (by omega)]; rfl
        · rw [v4, w4, y4]
          dsimp only
          rw [va_up_ne _ _ (by decide)]
