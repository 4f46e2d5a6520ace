/-! the reference turns a heap -/
def pq_bg (f : Nat → Int32) (A B C : Int32) (t : Nat) : Int32 := if t = 0 then 1 else if t = 1 then A else if t = 2 then B else if t = 3 then C else if t < 20 then 0 else f t
theorem pq_up2 {z : km_S} {k : Nat} {f g : Nat → Int32} : (((z.1, va_up z.2.1 k f, z.2.2) : km_S).1, va_up ((z.1, va_up z.2.1 k f, z.2.2) : km_S).2.1 k g, ((z.1, va_up z.2.1 k f, z.2.2) : km_S).2.2) = ((z.1, va_up z.2.1 k g, z.2.2) : km_S) := by
  simp only [bx_uu]
/-- a write where the array stands as said -/
theorem pq_wrg {z : km_S} {k n : Nat} {f : Nat → Int32} {v : Int32} (h : n < km_len k) : km_wr (z.1, va_up z.2.1 k f, z.2.2) k (nI n) v = some (z.1, va_up z.2.1 k (upd f n v), z.2.2) := by
  rw [kq_wr h kq_km]
  simp only [bx_uu, va_up_self]
theorem pm_begins {z : km_S} {k : Nat} {A B C : Int32} (hl : 20 ≤ km_len k) : fm_begins k A B C z = some (z.1, va_up z.2.1 k (pq_bg (z.2.1 k) A B C), z.2.2) := by
  unfold fm_begins lm_begins_3
  refine kq_runb (fun t => (A, B, C, nI t, (z.1, va_up z.2.1 k (fun j => if j < t then 0 else z.2.1 k j), z.2.2))) 20 (A, B, C, (z.1, va_up z.2.1 k (fun j => if j < 20 then 0 else z.2.1 k j), z.2.2)) ?_ (by omega) (fun t ht => ?_) rfl ?_
  · simp only [Nat.not_lt_zero, if_false]
    rw [show (fun j => z.2.1 k j) = z.2.1 k from rfl, kj_upf]; rfl
  · dsimp only
    unfold fm_begins_3
    rw [if_neg (show ¬ (20 : Int32) ≤ nI t from nI_ge (b := 20) ht (by omega)), pq_wrg (by omega), Option.bind_some, nI_1]
    have e0 : upd (fun j => if j < t then 0 else z.2.1 k j) t 0 = fun j => if j < t + 1 then 0 else z.2.1 k j := by
     funext j
     unfold upd
     by_cases e : j = t
     · subst e; rw [if_pos rfl, if_pos (by omega)]
     · rw [if_neg e]
       dsimp only
       by_cases e2 : j < t
       · rw [if_pos e2, if_pos (by omega)]
       · rw [if_neg e2, if_neg (by omega)]
    rw [e0]
  · dsimp only
    rw [show (0 : Int32) = nI 0 from rfl, pq_wrg (by omega), Option.bind_some, show (1 : Int32) = nI 1 from rfl, pq_wrg (by omega), Option.bind_some, show (2 : Int32) = nI 2 from rfl, pq_wrg (by omega), Option.bind_some, show (3 : Int32) = nI 3 from rfl, pq_wrg (by omega), Option.bind_some]
    congr 4
    funext j
    unfold upd pq_bg
    by_cases e3 : j = 3
    · subst e3; rfl
    by_cases e2 : j = 2
    · subst e2; rfl
    by_cases e1 : j = 1
    · subst e1; rfl
    by_cases e0 : j = 0
    · subst e0; rfl
    rw [if_neg e3, if_neg e2, if_neg e1, if_neg e0, if_neg e0, if_neg e1, if_neg e2, if_neg e3]; rfl
theorem pm_higher {z : km_S} {k o a b c : Nat} {h : Nat → Nat} (H : pq_hv a b c h) (hb : pq_mb (z.2.1 k) o a b c h) (hl : o + 20 ≤ km_len k) {j y : Nat} (hj : j < 4) (hy : y < 100) : fm_higher k (nI o) (nI j) (nI y) z = some (nI (pq_sum a fun i => if y < h (4 * i + j) then 1 else 0), z) := by
  have hk := kq_km (k := k); have ha := H.1
  unfold fm_higher lm_higher_6
  refine kq_runb (fun t => (nI o, nI j, nI y, nI (pq_sum t fun i => if y < h (4 * i + j) then 1 else 0), nI t, z)) a (nI (pq_sum a fun i => if y < h (4 * i + j) then 1 else 0), z) rfl (by omega) (fun t ht => ?_) ?_ rfl
  · dsimp only
    unfold fm_higher_6 fm_higher_37
    have q := pq_hv_h H (4 * t + j) (by omega)
    rw [show nI o + 1 = nI (o + 1) from nI_add o 1, pq_rda hb hl, Option.bind_some, if_neg (nI_ge ht (by omega)), pq_at, Option.bind_some, nI_add, pq_rdh hb hl (4 * t + j) (by omega) (by omega), Option.bind_some, nI_1, pq_sum]
    simp (disch := omega) only [nI_leI]
    by_cases c1 : h (4 * t + j) ≤ y
    · rw [if_pos c1, if_neg (by omega)]
      simp only [kq_lit, nI_add]
    · rw [if_neg c1, if_pos (by omega)]
      simp only [kq_lit, nI_add]
  · dsimp only
    unfold fm_higher_6
    rw [show nI o + 1 = nI (o + 1) from nI_add o 1, pq_rda hb hl, Option.bind_some, if_pos (nI_le (Nat.le_refl a) (by omega))]
/-- the loop of turns, given what it writes -/
theorem pm_turnsL {z : km_S} {k0 k1 o : Nat} {x2 A B C : Int32} {a' b' c' : Nat} {h' : Nat → Nat} (H : pq_hv a' b' c' h') (hl : 20 ≤ km_len k1)
    (val : ∀ (g : Nat → Int32) (i j : Nat), i < a' → j < b' → g 2 = nI b' → fm_turns_84 k0 k1 (nI o) x2 A B C (nI i) (nI j) (z.1, va_up z.2.1 k1 g, z.2.2) = some (.inl (nI o, x2, A, B, C, nI i, nI (j + 1), (z.1, va_up z.2.1 k1 (upd g (4 + 4 * i + j) (nI (h' (4 * i + j)))), z.2.2)))) :
    ∃ g, fm_turns_67 k0 k1 (nI o) x2 A B C (nI c') (nI b') (nI a') z = some (z.1, va_up z.2.1 k1 g, z.2.2) ∧ pq_mb g 0 a' b' c' h' ∧ ∀ t, 20 ≤ t → g t = z.2.1 k1 t := by
  have ha := H.1; have hb := H.2.1
  unfold fm_turns_67 lm_turns_73
  rw [pm_begins hl, Option.bind_some]
  have inner : ∀ (g : Nat → Int32) (i : Nat), i < a' → g 2 = nI b' → ∃ g', lm_turns_84 k0 k1 5000 (nI o) x2 A B C (nI i) 0 (z.1, va_up z.2.1 k1 g, z.2.2) = some (nI o, x2, A, B, C, nI i, (z.1, va_up z.2.1 k1 g', z.2.2)) ∧ (∀ t, t < 4 ∨ 20 ≤ t → g' t = g t) ∧ ∀ t, t < 16 → g' (4 + t) = if t / 4 = i ∧ t % 4 < b' then nI (h' t) else g (4 + t) := by
    intro g i hi hg
    unfold lm_turns_84
    have key := kq_it0 (step := fun (s : (Int32 × Int32 × Int32 × Int32 × Int32 × Int32 × Int32 × km_S)) => fm_turns_84 k0 k1 (s.1) (s.2.1) (s.2.2.1) (s.2.2.2.1) (s.2.2.2.2.1) (s.2.2.2.2.2.1) (s.2.2.2.2.2.2.1) (s.2.2.2.2.2.2.2))
      (fun k s => ∃ g', s = (nI o, x2, A, B, C, nI i, nI k, (z.1, va_up z.2.1 k1 g', z.2.2)) ∧ (∀ t, t < 4 ∨ 20 ≤ t → g' t = g t) ∧ ∀ t, t < 16 → g' (4 + t) = if t / 4 = i ∧ t % 4 < k then nI (h' t) else g (4 + t))
      (fun r => ∃ g', r = (nI o, x2, A, B, C, nI i, (z.1, va_up z.2.1 k1 g', z.2.2)) ∧ (∀ t, t < 4 ∨ 20 ≤ t → g' t = g t) ∧ ∀ t, t < 16 → g' (4 + t) = if t / 4 = i ∧ t % 4 < b' then nI (h' t) else g (4 + t)) b' (by omega) (by
        rintro k s hk ⟨g', rfl, h1, h2⟩
        refine ⟨_, val g' i k hi hk (by rw [h1 2 (by omega), hg]), upd g' (4 + 4 * i + k) (nI (h' (4 * i + k))), rfl, fun t ht => ?_, fun t ht => ?_⟩
        · rw [pk_un (by omega)]; exact h1 t ht
        · by_cases e : t = 4 * i + k
          · subst e
            rw [show 4 + (4 * i + k) = 4 + 4 * i + k by omega, pk_us, if_pos (by omega)]
          · rw [pk_un (by omega), h2 t ht]
            by_cases e2 : t / 4 = i ∧ t % 4 < k
            · rw [if_pos e2, if_pos (by omega)]
            · rw [if_neg e2, if_neg (by omega)]) (by
        rintro s ⟨g', rfl, h1, h2⟩
        refine ⟨_, ?_, g', rfl, h1, h2⟩
        dsimp only
        unfold fm_turns_84
        rw [show (2 : Int32) = nI 2 from rfl, pq_rdn (v := nI b') (by show va_up z.2.1 k1 g' k1 2 = _; rw [va_up_self, h1 2 (by omega), hg]) (by omega), Option.bind_some, if_pos (nI_le (Nat.le_refl b') (by omega))])
      (s := (nI o, x2, A, B, C, nI i, 0, (z.1, va_up z.2.1 k1 g, z.2.2))) ⟨g, rfl, fun _ _ => rfl, fun t ht => by rw [if_neg (by omega)]⟩
    obtain ⟨r, k1, g', rfl, k2, k3⟩ := key
    exact ⟨g', k1, k2, k3⟩
  have key := kq_it0 (step := fun (s : (Int32 × Int32 × Int32 × Int32 × Int32 × Int32 × km_S)) => fm_turns_73 k0 k1 (s.1) (s.2.1) (s.2.2.1) (s.2.2.2.1) (s.2.2.2.2.1) (s.2.2.2.2.2.1) (s.2.2.2.2.2.2))
    (fun k s => ∃ g', s = (nI o, x2, A, B, C, nI k, (z.1, va_up z.2.1 k1 g', z.2.2)) ∧ (∀ t, t < 4 ∨ 20 ≤ t → g' t = pq_bg (z.2.1 k1) (nI a') (nI b') (nI c') t) ∧ ∀ t, t < 16 → g' (4 + t) = if t / 4 < k ∧ t % 4 < b' then nI (h' t) else 0)
    (fun r => ∃ g', r = ((z.1, va_up z.2.1 k1 g', z.2.2) : km_S) ∧ (∀ t, t < 4 ∨ 20 ≤ t → g' t = pq_bg (z.2.1 k1) (nI a') (nI b') (nI c') t) ∧ ∀ t, t < 16 → g' (4 + t) = if t / 4 < a' ∧ t % 4 < b' then nI (h' t) else 0) a' (by omega) (by
      rintro k s hk ⟨g', rfl, h1, h2⟩
      obtain ⟨g2, q1, q2, q3⟩ := inner g' k hk (by rw [h1 2 (by omega)]; rfl)
      refine ⟨(nI o, x2, A, B, C, nI (k + 1), (z.1, va_up z.2.1 k1 g2, z.2.2)), ?_, g2, rfl, fun t ht => by rw [q2 t ht, h1 t ht], fun t ht => ?_⟩
      · dsimp only
        unfold fm_turns_73
        rw [show (1 : Int32) = nI 1 from rfl, pq_rdn (v := nI a') (by show va_up z.2.1 k1 g' k1 1 = _; rw [va_up_self, h1 1 (by omega)]; rfl) (by omega), Option.bind_some, if_neg (nI_ge hk (by omega)), q1, Option.bind_some]
        simp only [nI_1, nI_add]
      · rw [q3 t ht, h2 t ht]
        by_cases e2 : t / 4 = k ∧ t % 4 < b'
        · rw [if_pos e2, if_pos (by omega)]
        · rw [if_neg e2]
          by_cases e3 : t / 4 < k ∧ t % 4 < b'
          · rw [if_pos e3, if_pos (by omega)]
          · rw [if_neg e3, if_neg (by omega)]) (by
      rintro s ⟨g', rfl, h1, h2⟩
      refine ⟨_, ?_, g', rfl, h1, h2⟩
      dsimp only
      unfold fm_turns_73
      rw [show (1 : Int32) = nI 1 from rfl, pq_rdn (v := nI a') (by show va_up z.2.1 k1 g' k1 1 = _; rw [va_up_self, h1 1 (by omega)]; rfl) (by omega), Option.bind_some, if_pos (nI_le (Nat.le_refl a') (by omega))])
    (s := (nI o, x2, A, B, C, 0, (z.1, va_up z.2.1 k1 (pq_bg (z.2.1 k1) (nI a') (nI b') (nI c')), z.2.2))) ⟨_, rfl, fun _ _ => rfl, fun t ht => by
      rw [if_neg (by omega)]; unfold pq_bg; rw [if_neg (by omega), if_neg (by omega), if_neg (by omega), if_neg (by omega), if_pos (by omega)]⟩
  obtain ⟨r, p1, g', rfl, p2, p3⟩ := key
  refine ⟨g', by rw [p1]; rfl, ⟨by rw [p2 0 (by omega)]; rfl, by rw [p2 1 (by omega)]; rfl, by rw [p2 2 (by omega)]; rfl, by rw [p2 3 (by omega)]; rfl, fun t ht => ?_⟩, fun t ht => ?_⟩
  · rw [show 0 + 4 + t = 4 + t by omega, p3 t ht]
    by_cases e : t / 4 < a' ∧ t % 4 < b'
    · rw [if_pos e]
    · rw [if_neg e]
      have := (H.2.2.2.2 (t / 4) (t % 4) (by omega) (by omega)).2.1 e
      rw [show 4 * (t / 4) + t % 4 = t by omega] at this
      rw [this]; rfl
  · rw [p2 t (by omega)]
    unfold pq_bg
    rw [if_neg (by omega), if_neg (by omega), if_neg (by omega), if_neg (by omega), if_neg (by omega)]
/-- the turned heap by its number -/
def pq_th (w a b c : Nat) (h : Nat → Nat) : Nat → Nat := if w = 0 then pq_T h else if w = 1 then pq_R a h else pq_C a b c h
def pq_ta (w a b : Nat) : Nat := if w = 2 then a else b
def pq_tb (w a b c : Nat) : Nat := if w = 0 then a else if w = 1 then c else b
def pq_tc (w a c : Nat) : Nat := if w = 1 then a else c
theorem pq_hv_t {w a b c : Nat} {h : Nat → Nat} (hw : w < 3) (H : pq_hv a b c h) : pq_hv (pq_ta w a b) (pq_tb w a b c) (pq_tc w a c) (pq_th w a b c h) := by
  have : w = 0 ∨ w = 1 ∨ w = 2 := by omega
  rcases this with rfl | rfl | rfl
  · exact pq_hv_T H
  · exact pq_hv_R H
  · exact pq_hv_C H
theorem pm_turns {z : km_S} {k0 k1 o w a b c : Nat} {h : Nat → Nat} (hw : w < 3) (H : pq_hv a b c h) (hb : pq_mb (z.2.1 k0) o a b c h) (hl0 : o + 20 ≤ km_len k0) (hl : 20 ≤ km_len k1) (hk : k0 ≠ k1) :
    ∃ g, fm_turns k0 k1 (nI o) (nI w) z = some (z.1, va_up z.2.1 k1 g, z.2.2) ∧ pq_mb g 0 (pq_ta w a b) (pq_tb w a b c) (pq_tc w a c) (pq_th w a b c h) ∧ ∀ t, 20 ≤ t → g t = z.2.1 k1 t := by
  have hb' : ∀ g : Nat → Int32, pq_mb (((z.1, va_up z.2.1 k1 g, z.2.2) : km_S).2.1 k0) o a b c h := fun g => by
    show pq_mb (va_up z.2.1 k1 g k0) o a b c h
    rw [va_up_ne _ _ hk]; exact hb
  have ha := H.1; have hb4 := H.2.1; have hc4 := H.2.2.1
  unfold fm_turns
  rw [show nI o + 1 = nI (o + 1) from nI_add o 1, pq_rda hb hl0, Option.bind_some, show nI o + 2 = nI (o + 2) from nI_add o 2, pq_rdb hb hl0, Option.bind_some, show nI o + 3 = nI (o + 3) from nI_add o 3, pq_rdc hb hl0, Option.bind_some]
  unfold fm_turns_34 fm_turns_55
  have : w = 0 ∨ w = 1 ∨ w = 2 := by omega
  rcases this with rfl | rfl | rfl
  · rw [if_neg (by decide), if_pos (by decide), if_neg (by decide)]
    refine pm_turnsL (a' := b) (b' := a) (c' := c) (h' := pq_T h) (pq_hv_T H) hl fun g i j hi hj hg => ?_
    unfold fm_turns_84
    rw [show (2 : Int32) = nI 2 from rfl, pq_rdn (k := k1) (v := nI a) (by show va_up z.2.1 k1 g k1 2 = _; rw [va_up_self, hg]) (by omega), Option.bind_some, if_neg (nI_ge hj (by omega)), if_neg (by decide)]
    unfold fm_turns_125
    rw [pq_at, Option.bind_some, if_pos (by decide), pq_at, Option.bind_some, nI_add, pq_rdh (hb' g) hl0 (4 * j + i) (by omega) (by omega), Option.bind_some]
    unfold fm_turns_172
    rw [pq_wrg (by omega), Option.bind_some, nI_1, pq_T_at (by omega)]
  · rw [if_neg (by decide), if_neg (by decide), if_pos (by decide), if_pos (by decide)]
    refine pm_turnsL (a' := b) (b' := c) (c' := a) (h' := pq_R a h) (pq_hv_R H) hl fun g i j hi hj hg => ?_
    unfold fm_turns_84
    rw [show (2 : Int32) = nI 2 from rfl, pq_rdn (k := k1) (v := nI c) (by show va_up z.2.1 k1 g k1 2 = _; rw [va_up_self, hg]) (by omega), Option.bind_some, if_neg (nI_ge hj (by omega)), if_neg (by decide)]
    unfold fm_turns_125
    rw [pq_at, Option.bind_some, if_neg (by decide), if_pos (by decide), pm_higher H (hb' g) hl0 (by omega) (by omega), Option.bind_some]
    unfold fm_turns_172
    rw [pq_wrg (by omega), Option.bind_some, nI_1, pq_R_at (by omega)]
  · rw [if_pos (by decide), if_neg (by decide), if_neg (by decide), if_neg (by decide)]
    refine pm_turnsL (a' := a) (b' := b) (c' := c) (h' := pq_C a b c h) (pq_hv_C H) hl fun g i j hi hj hg => ?_
    have q := (H.2.2.2.2 (a - 1 - i) (b - 1 - j) (by omega) (by omega)).1
    unfold fm_turns_84
    rw [show km_rd (z.1, va_up z.2.1 k1 g, z.2.2) k1 2 = some (nI b) from pq_rdn (n := 2) (by show va_up z.2.1 k1 g k1 2 = _; rw [va_up_self, hg]) (by omega), Option.bind_some, if_neg (nI_ge hj (by omega)), if_pos (by decide), show (nI a - 1 - nI i) = nI (a - 1 - i) by
        simp (disch := omega) only [kq_lit, pk_sub], show (nI b - 1 - nI j) = nI (b - 1 - j) by
        simp (disch := omega) only [kq_lit, pk_sub], pq_at, Option.bind_some, nI_add, pq_rdh (hb' g) hl0 (4 * (a - 1 - i) + (b - 1 - j)) (by omega) (by omega), Option.bind_some, pk_sub q]
    unfold fm_turns_125
    rw [pq_at, Option.bind_some, if_neg (by decide), if_neg (by decide)]
    unfold fm_turns_172
    rw [pq_wrg (by omega), Option.bind_some, nI_1, pq_C_at (by omega), if_pos ⟨hi, hj⟩]
