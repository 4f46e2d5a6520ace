/-! the pool grows -/
def pq_ext (P P' : va_W) : Prop := (∀ a v, kx_hp P a = some v → kx_hp P' a = some v) ∧ ∀ a v, kx_bx P a = some v → kx_bx P' a = some v
theorem pq_pl_app {P Q : va_W} {a : Nat} {e : va_E} (h : kx_pl P a = some e) : kx_pl (P ++ Q) a = some e := by
  unfold kx_pl at *
  rw [List.find?_append]
  cases q : P.find? (fun x => x.1 == a) with
  | none => rw [q] at h; simp at h
  | some y => rw [q] at h; simpa using h
theorem pq_hp_pl {P : va_W} {a : Nat} {v : Nat × Int64} : kx_hp P a = some v ↔ kx_pl P a = some (.inr (1, [.ref v.1, .long v.2])) := by
  unfold kx_hp
  constructor
  · intro h
    split at h
    · rename_i b c e
      cases h; exact e
    · cases h
  · intro h; rw [h]; rfl
theorem pq_bx_pl {P : va_W} {a : Nat} {v : Int32 × Int32 × Int32} : kx_bx P a = some v ↔ kx_pl P a = some (.inr (0, [.int v.1, .int v.2.1, .int v.2.2])) := by
  unfold kx_bx
  constructor
  · intro h
    split at h
    · rename_i b c e e'
      cases h; exact e'
    · cases h
  · intro h; rw [h]; rfl
theorem pq_ext_app {P Q : va_W} : pq_ext P (P ++ Q) := ⟨fun _ _ h => pq_hp_pl.mpr (pq_pl_app (pq_hp_pl.mp h)), fun _ _ h => pq_bx_pl.mpr (pq_pl_app (pq_bx_pl.mp h))⟩
theorem pq_pl_new {P Q : va_W} {q : Nat} {e : va_E} (h : ∀ x ∈ P, x.1 ≠ q) : kx_pl (P ++ (q, e) :: Q) q = some e := by
  unfold kx_pl
  rw [List.find?_append, List.find?_eq_none.mpr (fun x hx => by simpa using h x hx)]
  simp
theorem pq_blk_ext {P P' : va_W} (he : pq_ext P P') {r : Option Nat} {f : Nat → Int32} {o : Nat} (b : pq_blk P r f o) : pq_blk P' r f o := by
  rcases b with b | ⟨a, b, c, hh, ad, bx, h1, h2, h3, h4, h5⟩
  · exact Or.inl b
  · exact Or.inr ⟨a, b, c, hh, ad, bx, h1, h2, he.1 _ _ h3, he.2 _ _ h4, h5⟩
theorem pq_Inv_ext {cA : Nat → ClassId} {zx : kx_S} {P P' : va_W} {zm : km_S} (he : pq_ext P P') (hg : ∃ gs, P' = pq_flat cA gs ∧ pq_rws (zx.2.2.2 3) gs) (hI : pq_Inv cA zx P zm) : pq_Inv cA zx P' zm := by
  obtain ⟨_, ht, hf, hp, ⟨w, n, w1, w2, w3, w4, w5, w6⟩, him⟩ := hI
  exact ⟨hg, ht, hf, fun k hk => pq_blk_ext he (hp k hk), ⟨w, n, w1, w2, w3, w4, w5, fun e k h1 h2 => pq_blk_ext he (w6 e k h1 h2)⟩, fun t ht => ⟨(him t ht).1, (him t ht).2.imp id fun q => ⟨q.1, fun k hk => pq_blk_ext he (q.2 k hk)⟩⟩⟩
theorem pq_flat_app {cA : Nat → ClassId} {gs hs : List pq_G} : pq_flat cA (gs ++ hs) = pq_flat cA gs ++ pq_flat cA hs := by
  induction gs with
  | nil => rfl
  | cons g gs ih => rw [List.cons_append, pq_flat, pq_flat, ih, List.append_assoc]
theorem pq_rws_app {ra : Nat → Option Nat} {gs hs : List pq_G} (h : pq_rws ra gs) : pq_rws ra (gs ++ hs) := by
  intro b c b1 b2 c1 c2
  rcases h b c b1 b2 c1 c2 with q | ⟨a, q, n, r, i, q1, q2, q3⟩
  · exact Or.inl q
  · refine Or.inr ⟨a, q, n, r, i, q1, ?_, q3⟩
    rw [List.getElem?_append_left (List.getElem?_eq_some_iff.mp q2).1]; exact q2
theorem pq_Inv_app {cA : Nat → ClassId} {zx : kx_S} {P : va_W} {zm : km_S} (Q : va_W) (hI : pq_Inv cA zx P zm) : pq_Inv cA zx (P ++ Q) zm := by
  obtain ⟨gs, g1, g2⟩ := hI.1
  refine pq_Inv_ext pq_ext_app ⟨gs ++ [.inl Q], ?_, pq_rws_app g2⟩ hI
  rw [pq_flat_app, ← g1]
  show P ++ Q = P ++ (Q ++ [])
  rw [List.append_nil]
/-- a heap made in a box that is there -/
theorem pq_new1 {P : va_W} {q bx : Nat} {E : Int64} {A : Int32 × Int32 × Int32} (h : ∀ x ∈ P, x.1 ≠ q) (hb : kx_bx P bx = some A) : kx_hp (P ++ [((q, .inr (1, [.ref bx, .long E])) : Nat × va_E)]) q = some (bx, E) ∧ kx_bx (P ++ [((q, .inr (1, [.ref bx, .long E])) : Nat × va_E)]) bx = some A :=
  ⟨pq_hp_pl.mpr (pq_pl_new h), pq_ext_app.2 _ _ hb⟩
/-- a heap made with its box -/
theorem pq_new2 {P : va_W} {q q3 : Nat} {E : Int64} {A B C : Int32} {e0 : va_E} (h : ∀ x ∈ P, x.1 ≠ q) (h3 : ∀ x ∈ P ++ [((q, e0) : Nat × va_E)], x.1 ≠ q3) : kx_hp (P ++ [((q, .inr (1, [.ref q3, .long E])) : Nat × va_E), ((q3, .inr (0, [.int A, .int B, .int C])) : Nat × va_E)]) q = some (q3, E) ∧ kx_bx (P ++ [((q, .inr (1, [.ref q3, .long E])) : Nat × va_E), ((q3, .inr (0, [.int A, .int B, .int C])) : Nat × va_E)]) q3 = some (A, B, C) := by
  refine ⟨pq_hp_pl.mpr (pq_pl_new h), pq_bx_pl.mpr ?_⟩
  have : P ++ [((q, .inr (1, [.ref q3, .long E])) : Nat × va_E), ((q3, .inr (0, [.int A, .int B, .int C])) : Nat × va_E)] = (P ++ [((q, .inr (1, [.ref q3, .long E])) : Nat × va_E)]) ++ [((q3, .inr (0, [.int A, .int B, .int C])) : Nat × va_E)] := by simp
  rw [this]
  refine pq_pl_new fun x hx => ?_
  rw [List.mem_append, List.mem_singleton] at hx
  rcases hx with hx | rfl
  · exact h3 x (List.mem_append_left _ hx)
  · exact h3 (q, e0) (List.mem_append_right _ (List.mem_singleton.mpr rfl))
/-! a height set anew -/
def pq_u (h : Nat → Nat) (t v : Nat) (s : Nat) : Nat := if s = t then v else h s
theorem pq_enc_u {h : Nat → Nat} {v : Nat} : ∀ {n t : Nat}, t < n → pq_enc (pq_u h t v) n + 16 ^ (n - 1 - t) * h t = pq_enc h n + 16 ^ (n - 1 - t) * v
  | 0, t, ht => absurd ht (by omega)
  | n + 1, t, ht => by
    by_cases e : t = n
    · subst e
      have h1 : pq_enc (pq_u h t v) t = pq_enc h t := pq_enc_eq fun s hs => if_neg (by omega)
      rw [pq_enc, pq_enc, h1, show pq_u h t v t = v from if_pos rfl]
      simp; omega
    · have h1 := pq_enc_u (h := h) (v := v) (n := n) (t := t) (by omega)
      rw [pq_enc, pq_enc, show pq_u h t v n = h n from if_neg (by omega), show n + 1 - 1 - t = (n - 1 - t) + 1 by omega, Nat.pow_succ]
      have e1 : 16 ^ (n - 1 - t) * 16 * h t = 16 * (16 ^ (n - 1 - t) * h t) := by rw [Nat.mul_comm (16 ^ (n - 1 - t)) 16, Nat.mul_assoc]
      have e2 : 16 ^ (n - 1 - t) * 16 * v = 16 * (16 ^ (n - 1 - t) * v) := by rw [Nat.mul_comm (16 ^ (n - 1 - t)) 16, Nat.mul_assoc]
      rw [e1, e2]; omega
def pq_cv (w : Bool) (x : Nat) : Nat := if w then x + 1 else x - 1
theorem pq_hv_u {w : Bool} {a b c : Nat} {h : Nat → Nat} (H : pq_hv a b c h) {i j : Nat} (hi : i < a) (hj : j < b) (hw : pq_chg w a b c h i j = true) : (w = false → 0 < h (4 * i + j)) ∧ pq_hv a b c (pq_u h (4 * i + j) (pq_cv w (h (4 * i + j)))) := by
  have H' := H
  obtain ⟨ha, hb, hc, hm, hh⟩ := H
  cases w
  · have hw' : pq_shr a b h i j = true := hw
    unfold pq_shr at hw'
    rw [decide_eq_true_eq, pq_g_in hi hj] at hw'
    have d1 : i + 1 < 4 → h (4 * (i + 1) + j) < h (4 * i + j) := fun q => by
      by_cases e : i + 1 < a
      · have := hw'.1; rwa [pq_g_in e hj] at this
      · rw [(hh (i + 1) j q (by omega)).2.1 (by omega)]; omega
    have d2 : j + 1 < 4 → h (4 * i + (j + 1)) < h (4 * i + j) := fun q => by
      by_cases e : j + 1 < b
      · have := hw'.2; rwa [pq_g_in hi e] at this
      · rw [(hh i (j + 1) (by omega) q).2.1 (by omega)]; omega
    refine ⟨fun _ => by omega, ha, hb, hc, hm, fun i' j' hi' hj' => ?_⟩
    have q := hh i' j' hi' hj'
    unfold pq_u pq_cv
    simp only [Bool.false_eq_true, if_false]
    refine ⟨?_, fun n => ?_, fun n => ?_, fun n => ?_⟩
    · split
      · have := (hh i j (by omega) (by omega)).1; omega
      · exact q.1
    · rw [if_neg (by omega)]; exact q.2.1 n
    · have q3 := q.2.2.1 n
      by_cases e1 : 4 * (i' + 1) + j' = 4 * i + j
      · rw [if_pos e1, if_neg (by omega)]; rw [e1] at q3; omega
      · rw [if_neg e1]
        by_cases e2 : 4 * i' + j' = 4 * i + j
        · rw [if_pos e2]
          have e3 : i' = i := by omega
          have e4 : j' = j := by omega
          subst e3; subst e4
          have := d1 n; omega
        · rw [if_neg e2]; exact q3
    · have q3 := q.2.2.2 n
      by_cases e1 : 4 * i' + (j' + 1) = 4 * i + j
      · rw [if_pos e1, if_neg (by omega)]; rw [e1] at q3; omega
      · rw [if_neg e1]
        by_cases e2 : 4 * i' + j' = 4 * i + j
        · rw [if_pos e2]
          have e3 : i' = i := by omega
          have e4 : j' = j := by omega
          subst e3; subst e4
          have := d2 n; omega
        · rw [if_neg e2]; exact q3
  · have hw' : pq_grow a b c h i j = true := hw
    unfold pq_grow at hw'
    rw [decide_eq_true_eq, pq_g_in hi hj] at hw'
    have d1 : ∀ k, i = k + 1 → h (4 * i + j) < h (4 * k + j) := fun k e => by
      subst e
      have := hw'.1
      unfold pq_up at this
      rw [if_neg (by omega), Nat.add_sub_cancel, pq_g_in (by omega) hj] at this
      exact this
    have d2 : ∀ k, j = k + 1 → h (4 * i + j) < h (4 * i + k) := fun k e => by
      subst e
      have := hw'.2
      unfold pq_lf at this
      rw [if_neg (by omega), Nat.add_sub_cancel, pq_g_in hi (by omega)] at this
      exact this
    have d3 : h (4 * i + j) < c := by
      have := hw'.1
      unfold pq_up at this
      split at this
      · exact this
      · rw [pq_g_in (by omega) hj] at this
        have := (hh (i - 1) j (by omega) (by omega)).1
        omega
    refine ⟨fun e => (by cases e), ha, hb, hc, hm, fun i' j' hi' hj' => ?_⟩
    have q := hh i' j' hi' hj'
    unfold pq_u pq_cv
    simp only [if_true]
    refine ⟨?_, fun n => ?_, fun n => ?_, fun n => ?_⟩
    · split
      · omega
      · exact q.1
    · rw [if_neg (by omega)]; exact q.2.1 n
    · have q3 := q.2.2.1 n
      by_cases e1 : 4 * (i' + 1) + j' = 4 * i + j
      · rw [if_pos e1, if_neg (by omega)]
        have e4 : j' = j := by omega
        subst e4
        have := d1 i' (by omega); omega
      · rw [if_neg e1]
        by_cases e2 : 4 * i' + j' = 4 * i + j
        · rw [if_pos e2]; rw [e2] at q3; omega
        · rw [if_neg e2]; exact q3
    · have q3 := q.2.2.2 n
      by_cases e1 : 4 * i' + (j' + 1) = 4 * i + j
      · rw [if_pos e1, if_neg (by omega)]
        have e4 : i' = i := by omega
        subst e4
        have := d2 j' (by omega); omega
      · rw [if_neg e1]
        by_cases e2 : 4 * i' + j' = 4 * i + j
        · rw [if_pos e2]; rw [e2] at q3; omega
        · rw [if_neg e2]; exact q3
