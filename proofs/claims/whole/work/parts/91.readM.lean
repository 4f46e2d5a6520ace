/-! READING A HEAP: the reference -/
def pu_tm (T : Nat → Nat) (n : Nat) (zm : km_S) : Prop := n ≤ 60 ∧ zm.1 1 = nI n ∧ ∀ i, i < n → T i < 256 ∧ zm.2.1 3 i = nI (T i)
def pu_M (n : Nat) (zm0 : km_S) (s : pu_S) (zm : km_S) : Prop := pr_fq [3, 4] [4, 19] zm0 zm ∧ s.1 ≤ n ∧ zm.1 3 = nI s.1 ∧ zm.1 4 = nI s.2.2
theorem pu_tm_M {T : Nat → Nat} {n : Nat} {zm0 zm : km_S} {s : pu_S} (h : pu_tm T n zm0) (M : pu_M n zm0 s zm) : pu_tm T n zm := ⟨h.1, by rw [M.1.1 1 (by decide)]; exact h.2.1, by rw [M.1.2 3 (by decide)]; exact h.2.2⟩
theorem pu_tm_lo {T : Nat → Nat} {n p : Nat} {zm : km_S} (h : pu_tm T n zm) : pu_lo (pu_sg T n p) := pu_sg_lo fun i hi => (h.2.2 i hi).1
theorem pu_m_here {T : Nat → Nat} {n p : Nat} {zm : km_S} (h : pu_tm T n zm) (h3 : zm.1 3 = nI p) (hp : p ≤ n) : fm_here zm = some (pu_s (pu_sg T n p), zm) := by
  have h1 := h.1
  unfold fm_here pu_sg
  rw [h.2.1, h3]
  by_cases c : p < n
  · rw [if_neg (nI_ge c (by omega)), kq_rd (show p < 60 by omega) kq_km, Option.bind_some, (h.2.2 p c).2, if_pos c]; rfl
  · rw [if_pos (nI_le (by omega) (by omega)), if_neg c]; rfl
theorem pu_m_up0 {f : Nat → Int32} {k : Nat} {v : Int32} (h : f k = v) : va_up f k v = f := by rw [← h]; exact kj_upf f k
theorem pu_m_fails0 {z : km_S} {x : Int32} (h : z.1 4 = 0) : fm_fails x z = some (va_up z.1 4 x, z.2) := by
  unfold fm_fails fm_fails_16; rw [if_pos h]; rfl
theorem pu_m_fails1 {z : km_S} {x : Int32} (h : ¬ z.1 4 = 0) : fm_fails x z = some z := by
  unfold fm_fails fm_fails_16 km_pI; rw [if_neg h, Option.bind_some, kj_upf]
theorem pu_m_goes0 {z : km_S} {p : Nat} (h : z.1 4 = 0) (h3 : z.1 3 = nI p) : fm_goes z = some (va_up z.1 3 (nI (p + 1)), z.2) := by
  unfold fm_goes fm_goes_17 km_pI; rw [if_pos h, Option.bind_some, h3, nI_1]
theorem pu_m_goes1 {z : km_S} (h : ¬ z.1 4 = 0) : fm_goes z = some z := by
  unfold fm_goes fm_goes_17 km_pI; rw [if_neg h, Option.bind_some, Int32.add_zero, kj_upf]
theorem pu_M_fail {n k : Nat} {zm0 zm : km_S} {s : pu_S} (M : pu_M n zm0 s zm) : pu_M n zm0 (s.1, s.2.1, k) (va_up zm.1 4 (nI k), zm.2) := by
  obtain ⟨c1, c2, c3, c4⟩ := M
  refine ⟨pr_fq_t c1 ⟨fun i hi => ?_, fun _ _ => rfl⟩, c2, ?_, ?_⟩
  · dsimp only; rw [va_up_ne _ _ (by simp at hi; omega)]
  · dsimp only; rw [va_up_ne _ _ (by decide)]; exact c3
  · dsimp only; rw [va_up_self]
theorem pu_M_go {n : Nat} {zm0 zm : km_S} {s : pu_S} (M : pu_M n zm0 s zm) (h : s.1 < n) : pu_M n zm0 (s.1 + 1, s.2) (va_up zm.1 3 (nI (s.1 + 1)), zm.2) := by
  obtain ⟨c1, c2, c3, c4⟩ := M
  refine ⟨pr_fq_t c1 ⟨fun i hi => ?_, fun _ _ => rfl⟩, h, ?_, ?_⟩
  · dsimp only; rw [va_up_ne _ _ (by simp at hi; omega)]
  · dsimp only; rw [va_up_self]
  · dsimp only; rw [va_up_ne _ _ (by decide)]; exact c4
theorem pu_M_arr {n : Nat} {zm0 zm : km_S} {s : pu_S} {A : Nat → Nat → Int32} (M : pu_M n zm0 s zm) (h : ∀ k, k ≠ 4 → k ≠ 19 → A k = zm.2.1 k) : pu_M n zm0 s (zm.1, A, zm.2.2) :=
  ⟨pr_fq_t M.1 ⟨fun _ _ => rfl, fun k hk => h k (by simp at hk; omega) (by simp at hk; omega)⟩, M.2⟩
theorem pu_in {v lo hi : Nat} (hv : v < 2 ^ 31) (hl : lo < 2 ^ 31) (hh : hi < 2 ^ 31) : fm_in (nI v) (nI lo) (nI hi) = some (pq_b (decide (lo ≤ v ∧ v ≤ hi))) := by
  unfold fm_in
  by_cases c1 : v < lo
  · rw [if_pos (nI_lt c1 hl), decide_eq_false (by omega)]; rfl
  · rw [if_neg (nI_nlt (by omega) hv)]
    by_cases c2 : hi < v
    · rw [if_pos (nI_lt c2 hv), decide_eq_false (by omega)]; rfl
    · rw [if_neg (nI_nlt (by omega) hh), decide_eq_true (by omega)]; rfl
theorem pu_m_digit {T : Nat → Nat} {n p lo hi : Nat} {z : km_S} (h : pu_tm T n z) (h3 : z.1 3 = nI p) (hp : p ≤ n) (h4 : z.1 4 = 0) (hl : lo ≤ 9) (hh : hi ≤ 9) : (pu_dig (pu_sg T n p) = none → fm_digit (nI lo) (nI hi) z = some (-1, (va_up z.1 4 (nI 1), z.2))) ∧ ∀ v, pu_dig (pu_sg T n p) = some v → (¬ (lo ≤ v ∧ v ≤ hi) → fm_digit (nI lo) (nI hi) z = some (-1, (va_up z.1 4 (nI 2), z.2))) ∧ (lo ≤ v ∧ v ≤ hi → fm_digit (nI lo) (nI hi) z = some (nI v, z)) := by
  unfold fm_digit fm_digit_23 fm_digit_37
  rw [pu_m_here h h3 hp, Option.bind_some]
  dsimp only
  refine ⟨fun e => ?_, fun v e => ?_⟩
  · have q := (pu_dig_none (pu_tm_lo h) e).2
    have q1 : fm_in (pu_s (pu_sg T n p) - 48) 0 9 = some 0 := by
      exact (pq_in0 (x := pu_s (pu_sg T n p) - 48) (n := 9) (by omega)).trans (if_pos q)
    have w : ¬ ((va_up z.1 4 1, z.2) : km_S).1 4 = 0 := by dsimp only; rw [va_up_self]; decide
    rw [q1, Option.bind_some, if_pos rfl, pu_m_fails0 h4, Option.bind_some, pu_m_fails1 w, Option.bind_some, if_neg w]
    have : ∃ x, fm_in (pu_s (pu_sg T n p) - 48) (nI lo) (nI hi) = some x := by
      unfold fm_in; split
      · exact ⟨_, rfl⟩
      · split <;> exact ⟨_, rfl⟩
    obtain ⟨x, hx⟩ := this
    rw [hx, Option.bind_some, ite_self]; rfl
  · obtain ⟨_, _, q3, q4⟩ := pu_dig_some (pu_tm_lo h) e
    have q1 : fm_in (nI v) 0 9 = some 1 := by
      rw [show (9 : Int32) = nI 9 from rfl, show (0 : Int32) = nI 0 from rfl, pu_in (by omega) (by omega) (by omega), decide_eq_true (by omega)]; rfl
    rw [q3, q1, Option.bind_some, if_neg kq_10, pu_in (by omega) (by omega) (by omega), Option.bind_some]
    refine ⟨fun c => ?_, fun c => ?_⟩
    · have w : ¬ ((va_up z.1 4 2, z.2) : km_S).1 4 = 0 := by dsimp only; rw [va_up_self]; decide
      rw [decide_eq_false c, if_pos (show pq_b false = 0 from rfl), pu_m_fails0 h4, Option.bind_some, if_neg w]; rfl
    · rw [decide_eq_true c, if_neg (show ¬ pq_b true = 0 by decide), if_pos h4]
theorem pu_m_digit1 {T : Nat → Nat} {n p : Nat} {lo hi : Int32} {z : km_S} (h : pu_tm T n z) (h3 : z.1 3 = nI p) (hp : p ≤ n) (h4 : ¬ z.1 4 = 0) : fm_digit lo hi z = some (-1, z) := by
  have io : ∀ x l u, ∃ y, fm_in x l u = some y := fun x l u => by
    unfold fm_in; split
    · exact ⟨_, rfl⟩
    · split <;> exact ⟨_, rfl⟩
  unfold fm_digit fm_digit_23 fm_digit_37
  rw [pu_m_here h h3 hp, Option.bind_some]
  dsimp only
  obtain ⟨x, hx⟩ := io (pu_s (pu_sg T n p) - 48) 0 9
  obtain ⟨y, hy⟩ := io (pu_s (pu_sg T n p) - 48) lo hi
  rw [hx, Option.bind_some, pu_m_fails1 h4, Option.bind_some, hy, Option.bind_some, pu_m_fails1 h4, Option.bind_some, if_neg h4, ite_self, ite_self]
theorem pu_m_takes0 {T : Nat → Nat} {n k : Nat} {zm0 z : km_S} {s : pu_S} (h : pu_tm T n z) (M : pu_M n zm0 s z) (h0 : s.2.2 = 0) (hk : k < 256) : (pu_sg T n s.1 = some k → fm_takes (nI k) z = some (va_up z.1 3 (nI (s.1 + 1)), z.2)) ∧ (pu_sg T n s.1 ≠ some k → fm_takes (nI k) z = some (va_up z.1 4 (nI 1), z.2)) := by
  have e1 := pu_s_eq (k := k) (pu_tm_lo (p := s.1) h) hk
  have h4 : z.1 4 = 0 := by rw [M.2.2.2, h0]; rfl
  unfold fm_takes fm_takes_13
  rw [pu_m_here h M.2.2.1 M.2.1, Option.bind_some]
  dsimp only
  refine ⟨fun q => ?_, fun q => ?_⟩
  · rw [if_pos (e1.mpr q), pu_m_goes0 h4 M.2.2.1]; rfl
  · rw [if_neg (mt e1.mp q), pu_m_fails0 h4, Option.bind_some, pu_m_goes1 (by dsimp only; rw [va_up_self]; decide)]; rfl
theorem pu_m_takes1 {T : Nat → Nat} {n : Nat} {x : Int32} {zm0 z : km_S} {s : pu_S} (h : pu_tm T n z) (M : pu_M n zm0 s z) (h0 : ¬ z.1 4 = 0) : fm_takes x z = some z := by
  unfold fm_takes fm_takes_13
  rw [pu_m_here h M.2.2.1 M.2.1, Option.bind_some]
  dsimp only
  rw [pu_m_fails1 h0, Option.bind_some, pu_m_goes1 h0, Option.bind_some, ite_self]
/-- what the reference has made -/
def pu_MB (a b c : Nat) (τ : Nat → Option Nat) (zm : km_S) : Prop := zm.2.1 4 0 = 1 ∧ zm.2.1 4 1 = nI a ∧ zm.2.1 4 2 = nI b ∧ zm.2.1 4 3 = nI c ∧ ∀ t, t < 16 → zm.2.1 4 (4 + t) = nI (pu_v τ t)
def pu_MT (τ : Nat → Option Nat) (zm : km_S) : Prop := ∀ t, t < 16 → zm.2.1 19 t = pq_b (τ t).isSome
theorem pu_rd4 {z : km_S} {k : Nat} {v : Int32} (h : z.2.1 4 k = v) (hk : k < 20) : km_rd z 4 (nI k) = some v := pq_rdn h hk
def pu_nb (z : km_S) (x y : Int32) (o : Option Nat) : Prop := fm_isToldAt x y z = some (pq_b o.isSome, z) ∧ ∀ u, o = some u → ∃ q, fm_at x y = some q ∧ km_rd z 4 q = some (nI u)
theorem pu_nb_in {a b c i j : Nat} {τ : Nat → Option Nat} {z : km_S} (B : pu_MB a b c τ z) (M : pu_MT τ z) (hi : i < 4) (hj : j < 4) : pu_nb z (nI i) (nI j) (τ (4 * i + j)) := by
  have q3 : ∀ k, k < 4 → fm_in (nI k) 0 3 = some 1 := fun k hk => by
    rw [show (3 : Int32) = nI 3 from rfl, show (0 : Int32) = nI 0 from rfl, pu_in (by omega) (by omega) (by omega), decide_eq_true (by omega)]; rfl
  refine ⟨?_, fun u e => ⟨nI (4 + (4 * i + j)), ?_, ?_⟩⟩
  · unfold fm_isToldAt
    rw [q3 i hi, Option.bind_some, if_neg kq_10, q3 j hj, Option.bind_some, if_neg kq_10, show (4 : Int32) * nI i = nI (4 * i) from pk_mul 4 i, nI_add, pq_rdn (M _ (by omega)) (show 4 * i + j < 16 by omega), Option.bind_some]
    cases τ (4 * i + j) with
    | none => exact if_pos rfl
    | some u => exact if_neg kq_10
  · unfold fm_at
    rw [show (4 : Int32) * nI i = nI (4 * i) from pk_mul 4 i, show (4 : Int32) + nI (4 * i) = nI (4 + 4 * i) from nI_add 4 _, nI_add, Nat.add_assoc]
  · rw [pu_rd4 (B.2.2.2.2 _ (by omega)) (by omega)]
    unfold pu_v; rw [e]; rfl
theorem pu_nb_out {x y : Int32} {z : km_S} (h : x < 0 ∨ (3 : Int32) < x ∨ y < 0 ∨ (3 : Int32) < y) : pu_nb z x y none := by
  refine ⟨?_, fun u e => by cases e⟩
  unfold fm_isToldAt
  rw [show (3 : Int32) = nI 3 from rfl, pq_in0 (by omega), pq_in0 (by omega)]
  by_cases c1 : x < 0 ∨ nI 3 < x
  · rw [if_pos c1]; rfl
  · rw [if_neg c1, Option.bind_some, if_neg kq_10, if_pos (show y < 0 ∨ nI 3 < y from by rcases h with h | h | h | h; exact absurd (Or.inl h) c1; exact absurd (Or.inr h) c1; exact Or.inl h; exact Or.inr h)]; rfl
theorem pu_nb_4 {a b c i j : Nat} {τ : Nat → Option Nat} {z : km_S} (B : pu_MB a b c τ z) (M : pu_MT τ z) (hi : i < 4) (hj : j < 4) : pu_nb z (nI i - 1) (nI j) (pu_up τ i j) ∧ pu_nb z (nI i) (nI j - 1) (pu_lf τ i j) ∧ pu_nb z (nI i + 1) (nI j) (pu_dn τ i j) ∧ pu_nb z (nI i) (nI j + 1) (pu_rt τ i j) := by
  refine ⟨?_, ?_, ?_, ?_⟩
  · unfold pu_up
    by_cases c : i = 0
    · rw [if_pos c, c]; exact pu_nb_out (Or.inl (by decide))
    · rw [if_neg c, show nI i - 1 = nI (i - 1) from pk_sub (b := 1) (by omega)]; exact pu_nb_in B M (by omega) hj
  · unfold pu_lf
    by_cases c : j = 0
    · rw [if_pos c, c]; exact pu_nb_out (Or.inr (Or.inr (Or.inl (by decide))))
    · rw [if_neg c, show nI j - 1 = nI (j - 1) from pk_sub (b := 1) (by omega)]; exact pu_nb_in B M hi (by omega)
  · unfold pu_dn
    by_cases c : i = 3
    · rw [if_pos c, c]; exact pu_nb_out (Or.inr (Or.inl (by decide)))
    · rw [if_neg c, nI_1]; exact pu_nb_in B M (by omega) hj
  · unfold pu_rt
    by_cases c : j = 3
    · rw [if_pos c, c]; exact pu_nb_out (Or.inr (Or.inr (Or.inr (by decide))))
    · rw [if_neg c, nI_1]; exact pu_nb_in B M hi (by omega)
/-- readsHeight -/
def pu_R (n a b c : Nat) (zm0 : km_S) (s : pu_S) (zm : km_S) : Prop := pu_M n zm0 s zm ∧ pu_MB a b c s.2.1 zm ∧ pu_MT s.2.1 zm
theorem pu_m_height {T : Nat → Nat} {n a b c i j : Nat} {zm0 z : km_S} {s : pu_S} (tm : pu_tm T n zm0) (hc : c ≤ 4) (R : pu_R n a b c zm0 s z) (G : pu_G a b c n s) (h0 : s.2.2 = 0) (hi : i < 4) (hj : j < 4) : ∃ z', fm_readsHeight (nI i) (nI j) z = some z' ∧ pu_R n a b c zm0 (pu_h T n c i j s) z' := by
  obtain ⟨M, B, MT⟩ := id R
  have tm' := pu_tm_M tm M
  have h4 : z.1 4 = 0 := by rw [M.2.2.2, h0]; rfl
  obtain ⟨d1, d2⟩ := pu_m_digit (lo := 0) (hi := c) tm' M.2.2.1 M.2.1 h4 (by omega) (by omega)
  unfold fm_readsHeight
  rw [show km_rd z 4 3 = some (nI c) from pu_rd4 (k := 3) B.2.2.2.1 (by decide), Option.bind_some]
  have w : ∀ k : Nat, 0 < k → k < 5 → ¬ ((va_up z.1 4 (nI k), z.2) : km_S).1 4 = 0 := fun k q1 q2 => by dsimp only; rw [va_up_self]; exact nI_ne0 q1 (by omega)
  have end1 : ∀ (k : Nat) (x : Int32), 0 < k → k < 5 → fm_readsHeight_156 (nI i) (nI j) x (va_up z.1 4 (nI k), z.2) = some (va_up z.1 4 (nI k), z.2) := fun k x q1 q2 => by
    unfold fm_readsHeight_156 fm_readsHeight_185
    rw [if_neg (w k q1 q2), pu_m_goes1 (w k q1 q2)]; rfl
  cases e : pu_dig (pu_sg T n s.1) with
  | none =>
    rw [pu_h_0 e, show fm_digit 0 (nI c) z = _ from d1 e, Option.bind_some]
    dsimp only
    rw [if_neg (w 1 (by omega) (by omega)), end1 1 _ (by omega) (by omega)]
    exact ⟨_, rfl, pu_M_fail M, B, MT⟩
  | some v =>
    obtain ⟨d3, d4⟩ := d2 v e
    by_cases vc : v ≤ c
    · rw [show fm_digit 0 (nI c) z = _ from d4 ⟨by omega, vc⟩, Option.bind_some]
      dsimp only
      rw [if_pos h4]
      obtain ⟨⟨n1, m1⟩, ⟨n2, m2⟩, ⟨n3, m3⟩, ⟨n4, m4⟩⟩ := pu_nb_4 B MT hi hj
      have b1 : ∀ u, pu_up s.2.1 i j = some u → u ≤ 4 := fun u e => by
        unfold pu_up at e; split at e
        · cases e
        · have := pu_I_9 G.2.1 (show 4 * (i - 1) + j < 16 by omega) e; omega
      have b2 : ∀ u, pu_lf s.2.1 i j = some u → u ≤ 4 := fun u e => by
        unfold pu_lf at e; split at e
        · cases e
        · have := pu_I_9 G.2.1 (show 4 * i + (j - 1) < 16 by omega) e; omega
      have b3 : ∀ u, pu_dn s.2.1 i j = some u → u ≤ 4 := fun u e => by
        unfold pu_dn at e; split at e
        · cases e
        · have := pu_I_9 G.2.1 (show 4 * (i + 1) + j < 16 by omega) e; omega
      have b4 : ∀ u, pu_rt s.2.1 i j = some u → u ≤ 4 := fun u e => by
        unfold pu_rt at e; split at e
        · cases e
        · have := pu_I_9 G.2.1 (show 4 * i + (j + 1) < 16 by omega) e; omega
      have s4 : ∀ x4, fm_readsHeight_107 (nI i) (nI j) (nI v) x4 z = fm_readsHeight_139 (nI i) (nI j) (nI v) x4 (pq_b (decide (v < (pu_rt s.2.1 i j).getD 0))) z := by
        intro x4
        unfold fm_readsHeight_107 fm_readsHeight_138 fm_readsHeight_134
        rw [n4, Option.bind_some]
        dsimp only
        cases eo : pu_rt s.2.1 i j with
        | none => exact if_pos rfl
        | some u =>
          obtain ⟨q, q1, q2⟩ := m4 u eo
          have := b4 u eo
          rw [if_neg (show ¬ pq_b (some u).isSome = 0 from kq_10), q1, Option.bind_some, q2, Option.bind_some]
          by_cases c1 : u ≤ v
          · rw [if_pos (nI_le c1 (by omega)), decide_eq_false (show ¬ v < (some u).getD 0 from Nat.not_lt.mpr c1)]; rfl
          · rw [if_neg (nI_ge (by omega) (by omega)), decide_eq_true (show v < (some u).getD 0 from Nat.lt_of_not_le c1)]; rfl
      have s3 : ∀ x4, fm_readsHeight_78 (nI i) (nI j) (nI v) x4 z = fm_readsHeight_139 (nI i) (nI j) (nI v) x4 (pq_b (decide (v < (pu_dn s.2.1 i j).getD 0 ∨ v < (pu_rt s.2.1 i j).getD 0))) z := by
        intro x4
        unfold fm_readsHeight_78
        rw [n3, Option.bind_some]
        dsimp only
        rw [s4 x4]
        cases eo : pu_dn s.2.1 i j with
        | none =>
          rw [if_pos (show pq_b (none : Option Nat).isSome = 0 from rfl)]
          congr 2
          exact decide_eq_decide.mpr ⟨Or.inr, fun q => q.resolve_left (Nat.not_lt_zero v)⟩
        | some u =>
          obtain ⟨q, q1, q2⟩ := m3 u eo
          have := b3 u eo
          rw [if_neg (show ¬ pq_b (some u).isSome = 0 from kq_10), q1, Option.bind_some, q2, Option.bind_some]
          by_cases c1 : v < u
          · rw [if_pos (nI_lt c1 (by omega)), decide_eq_true (Or.inl (show v < (some u).getD 0 from c1))]; rfl
          · rw [if_neg (nI_nlt (by omega) (by omega))]
            congr 2
            exact decide_eq_decide.mpr ⟨Or.inr, fun q => q.resolve_left c1⟩
      have s2 : fm_readsHeight_46 (nI i) (nI j) (nI v) z = fm_readsHeight_78 (nI i) (nI j) (nI v) (pq_b (decide (¬ v ≤ (pu_lf s.2.1 i j).getD c))) z := by
        unfold fm_readsHeight_46 fm_readsHeight_77 fm_readsHeight_73
        rw [n2, Option.bind_some]
        dsimp only
        cases eo : pu_lf s.2.1 i j with
        | none =>
          rw [if_pos (show pq_b (none : Option Nat).isSome = 0 from rfl), decide_eq_false (fun q => q vc)]; rfl
        | some u =>
          obtain ⟨q, q1, q2⟩ := m2 u eo
          have := b2 u eo
          rw [if_neg (show ¬ pq_b (some u).isSome = 0 from kq_10), q1, Option.bind_some, q2, Option.bind_some]
          by_cases c1 : v ≤ u
          · rw [if_pos (nI_le c1 (by omega)), decide_eq_false (fun q => q c1)]; rfl
          · rw [if_neg (nI_ge (by omega) (by omega)), decide_eq_true (show ¬ v ≤ (some u).getD c from c1)]; rfl
      have s1 : ((fm_isToldAt (nI i - 1) (nI j) z).bind fun o3 => if (o3.1) = 0 then fm_readsHeight_46 (nI i) (nI j) (nI v) (o3.2) else (fm_at (nI i - 1) (nI j)).bind fun o4 => (km_rd (o3.2) 4 o4).bind fun v5 => if v5 < nI v then fm_readsHeight_73 (nI i) (nI j) (nI v) (o3.2) else fm_readsHeight_46 (nI i) (nI j) (nI v) (o3.2)) = fm_readsHeight_78 (nI i) (nI j) (nI v) (pq_b (decide (¬ v ≤ (pu_up s.2.1 i j).getD c ∨ ¬ v ≤ (pu_lf s.2.1 i j).getD c))) z := by
        rw [n1, Option.bind_some]
        dsimp only
        rw [s2]
        unfold fm_readsHeight_73
        cases eo : pu_up s.2.1 i j with
        | none =>
          rw [if_pos (show pq_b (none : Option Nat).isSome = 0 from rfl)]
          congr 2
          exact decide_eq_decide.mpr ⟨Or.inr, fun q => q.resolve_left (fun q => q vc)⟩
        | some u =>
          obtain ⟨q, q1, q2⟩ := m1 u eo
          have := b1 u eo
          rw [if_neg (show ¬ pq_b (some u).isSome = 0 from kq_10), q1, Option.bind_some, q2, Option.bind_some]
          by_cases c1 : u < v
          · rw [if_pos (nI_lt c1 (by omega)), decide_eq_true (Or.inl (show ¬ v ≤ (some u).getD c from Nat.not_le.mpr c1))]; rfl
          · rw [if_neg (nI_nlt (by omega) (by omega))]
            congr 2
            exact decide_eq_decide.mpr ⟨Or.inr, fun q => q.resolve_left (fun q => q (Nat.le_of_not_lt c1))⟩
      rw [s1, s3]
      rcases (show pu_ok s.2.1 c i j v = false ∨ pu_ok s.2.1 c i j v = true by cases pu_ok s.2.1 c i j v <;> simp) with o | o
      · have o' := of_decide_eq_false o
        have : fm_readsHeight_139 (nI i) (nI j) (nI v) (pq_b (decide (¬ v ≤ (pu_up s.2.1 i j).getD c ∨ ¬ v ≤ (pu_lf s.2.1 i j).getD c))) (pq_b (decide (v < (pu_dn s.2.1 i j).getD 0 ∨ v < (pu_rt s.2.1 i j).getD 0))) z = fm_readsHeight_151 (nI i) (nI j) (nI v) z := by
          unfold fm_readsHeight_139
          by_cases q1 : ¬ v ≤ (pu_up s.2.1 i j).getD c ∨ ¬ v ≤ (pu_lf s.2.1 i j).getD c
          · rw [decide_eq_true q1]; exact if_neg kq_10
          · rw [decide_eq_false q1, if_pos (show pq_b false = 0 from rfl), decide_eq_true (show v < (pu_dn s.2.1 i j).getD 0 ∨ v < (pu_rt s.2.1 i j).getD 0 by omega)]; exact if_neg kq_10
        rw [this, pu_h_2 e o]
        unfold fm_readsHeight_151
        rw [pu_m_fails0 h4, Option.bind_some, show (2 : Int32) = nI 2 from rfl, end1 2 _ (by omega) (by omega)]
        exact ⟨_, rfl, pu_M_fail M, B, MT⟩
      · have o' := of_decide_eq_true o
        have lt := pu_dig_lt e
        rw [pu_h_1 e o, decide_eq_false (show ¬ (¬ v ≤ (pu_up s.2.1 i j).getD c ∨ ¬ v ≤ (pu_lf s.2.1 i j).getD c) by omega), decide_eq_false (show ¬ (v < (pu_dn s.2.1 i j).getD 0 ∨ v < (pu_rt s.2.1 i j).getD 0) by omega)]
        unfold fm_readsHeight_139 fm_readsHeight_156 fm_readsHeight_185 fm_at
        rw [if_pos (show pq_b false = 0 from rfl), if_pos (show pq_b false = 0 from rfl), if_pos h4, Option.bind_some, show (4 : Int32) * nI i = nI (4 * i) from pk_mul 4 i, show (4 : Int32) + nI (4 * i) = nI (4 + 4 * i) from nI_add 4 _, nI_add, nI_add, kq_wr (show 4 + 4 * i + j < 20 by omega) kq_km, Option.bind_some]
        unfold km_wz
        rw [if_neg (kq_c (show 4 * i + j < km_len 19 from (show 4 * i + j < 16 by omega)) kq_km), nI_clamp (by omega), Option.bind_some, show vp_nar .boolean 1 = 1 by decide]
        dsimp only
        rw [pu_m_goes0 (z := (z.1, va_up (va_up z.2.1 4 (upd (z.2.1 4) (4 + 4 * i + j) (nI v))) 19 (upd (va_up z.2.1 4 (upd (z.2.1 4) (4 + 4 * i + j) (nI v)) 19) (4 * i + j) 1), z.2.2)) (p := s.1) h4 M.2.2.1, Option.bind_some]
        refine ⟨_, rfl, ?_, ?_, ?_⟩
        · have := pu_M_go (pu_M_arr (A := va_up (va_up z.2.1 4 (upd (z.2.1 4) (4 + 4 * i + j) (nI v))) 19 (upd (va_up z.2.1 4 (upd (z.2.1 4) (4 + 4 * i + j) (nI v)) 19) (4 * i + j) 1)) M (fun k q1 q2 => by rw [va_up_ne _ _ q2, va_up_ne _ _ q1])) lt
          dsimp only at this
          exact ⟨this.1, this.2.1, this.2.2.1, this.2.2.2.trans (by dsimp only; rw [h0])⟩
        · obtain ⟨B0, B1, B2, B3, B4⟩ := B
          refine ⟨?_, ?_, ?_, ?_, fun t ht => ?_⟩
          · dsimp only; rw [va_up_ne _ _ (by decide), va_up_self, pk_un (by omega)]; exact B0
          · dsimp only; rw [va_up_ne _ _ (by decide), va_up_self, pk_un (by omega)]; exact B1
          · dsimp only; rw [va_up_ne _ _ (by decide), va_up_self, pk_un (by omega)]; exact B2
          · dsimp only; rw [va_up_ne _ _ (by decide), va_up_self, pk_un (by omega)]; exact B3
          · dsimp only
            rw [va_up_ne _ _ (by decide), va_up_self]
            unfold pu_v pu_set
            by_cases q : t = 4 * i + j
            · rw [if_pos q, q, ← Nat.add_assoc, pk_us]; rfl
            · rw [if_neg q, pk_un (by omega)]; exact B4 t ht
        · intro t ht
          dsimp only
          rw [va_up_self, va_up_ne _ _ (by decide)]
          unfold pu_set
          by_cases q : t = 4 * i + j
          · rw [if_pos q, q, pk_us]; rfl
          · rw [if_neg q, pk_un q]; exact MT t ht
    · have o : pu_ok s.2.1 c i j v = false := by
        cases q : pu_ok s.2.1 c i j v
        · rfl
        · exact absurd (pu_ok_c G.2.1 hi hj q) vc
      rw [pu_h_2 e o, show fm_digit 0 (nI c) z = _ from d3 (by omega), Option.bind_some]
      dsimp only
      rw [if_neg (w 2 (by omega) (by omega)), end1 2 _ (by omega) (by omega)]
      exact ⟨_, rfl, pu_M_fail M, B, MT⟩
