/-! KIN: the class's list -/
def pr_hb (P : va_W) (ad : Nat) (x : pr_V) : Prop := ∃ bx, kx_hp P ad = some (bx, lN (pq_enc x.2.2.2 16)) ∧ kx_bx P bx = some (nI x.1, nI x.2.1, nI x.2.2.1)
theorem pr_hb_ext {P P' : va_W} {ad : Nat} {x : pr_V} (h : pr_hb P ad x) (e : pq_ext P P') : pr_hb P' ad x := by
  obtain ⟨bx, h1, h2⟩ := h
  exact ⟨bx, e.1 _ _ h1, e.2 _ _ h2⟩
theorem pr_p16 : (16 : Nat) ^ 16 = 18446744073709551616 := by decide
theorem pr_before {x y : pr_V} (hx : pr_va x) (hy : pr_va y) : fh_before (nI x.1) (nI x.2.1) (nI x.2.2.1) (lN (pq_enc x.2.2.2 16)) (nI y.1) (nI y.2.1) (nI y.2.2.1) (lN (pq_enc y.2.2.2 16)) = some (pq_b (decide (pr_ky x < pr_ky y))) := by
  have a1 := hx.1; have a2 := hx.2.1; have a3 := hx.2.2.1
  have b1 := hy.1; have b2 := hy.2.1; have b3 := hy.2.2.1
  have l1 := pq_enc_lt (h := x.2.2.2) (n := 16) fun t ht => Nat.lt_of_le_of_lt (pq_hv_h hx t ht) (by decide)
  have l2 := pq_enc_lt (h := y.2.2.2) (n := 16) fun t ht => Nat.lt_of_le_of_lt (pq_hv_h hy t ht) (by decide)
  rw [pr_ky_num, pr_ky_num, pr_p16]
  rw [pr_p16] at l1 l2
  have cmp : 0 ≤ lg_cmp (lN (pq_enc x.2.2.2 16)) (lN (pq_enc y.2.2.2 16)) ↔ pq_enc y.2.2.2 16 ≤ pq_enc x.2.2.2 16 := by
    rw [lg_cmp_ge, pk_lLE (pq_enc_lt63 (pq_hv_h hy)) (pq_enc_lt63 (pq_hv_h hx))]
  unfold fh_before
  generalize pq_enc x.2.2.2 16 = E1 at *
  generalize pq_enc y.2.2.2 16 = E2 at *
  by_cases c1 : x.1 = y.1
  · rw [if_pos (by rw [c1])]
    by_cases c2 : x.2.1 = y.2.1
    · rw [if_pos (by rw [c2])]
      by_cases c3 : x.2.2.1 = y.2.2.1
      · rw [if_pos (by rw [c3])]
        by_cases c4 : E2 ≤ E1
        · rw [if_pos (cmp.mpr c4), decide_eq_false (by omega)]; rfl
        · rw [if_neg (mt cmp.mp c4), decide_eq_true (by omega)]; rfl
      · rw [if_neg (mt (nI_eq (by omega) (by omega)).mp c3)]
        by_cases c4 : y.2.2.1 ≤ x.2.2.1
        · rw [if_pos (nI_le c4 (by omega)), decide_eq_false (by omega)]; rfl
        · rw [if_neg (nI_ge (by omega) (by omega)), decide_eq_true (by omega)]; rfl
    · rw [if_neg (mt (nI_eq (by omega) (by omega)).mp c2)]
      by_cases c4 : y.2.1 ≤ x.2.1
      · rw [if_pos (nI_le c4 (by omega)), decide_eq_false (by omega)]; rfl
      · rw [if_neg (nI_ge (by omega) (by omega)), decide_eq_true (by omega)]; rfl
  · rw [if_neg (mt (nI_eq (by omega) (by omega)).mp c1)]
    by_cases c4 : y.1 ≤ x.1
    · rw [if_pos (nI_le c4 (by omega)), decide_eq_false (by omega)]; rfl
    · rw [if_neg (nI_ge (by omega) (by omega)), decide_eq_true (by omega)]; rfl
theorem pr_equalTo {x y : pr_V} (hx : pr_va x) (hy : pr_va y) : fh_equalTo (nI x.1) (nI x.2.1) (nI x.2.2.1) (lN (pq_enc x.2.2.2 16)) (nI y.1) (nI y.2.1) (nI y.2.2.1) (lN (pq_enc y.2.2.2 16)) = some (pq_b (decide (pr_ky x = pr_ky y))) := by
  have a1 := hx.1; have a2 := hx.2.1; have a3 := hx.2.2.1
  have b1 := hy.1; have b2 := hy.2.1; have b3 := hy.2.2.1
  unfold fh_equalTo
  rw [pq_same a1.2 a2.2 a3.2 b1.2 b2.2 b3.2, Option.bind_some]
  have k := pr_ky_eq hx hy
  by_cases c1 : x.1 = y.1 ∧ x.2.1 = y.2.1 ∧ x.2.2.1 = y.2.2.1
  · rw [decide_eq_true c1, if_neg (by decide)]
    have cm := pq_cmp (pq_hv_h hx) (pq_hv_h hy)
    by_cases c2 : ∀ t, t < 16 → x.2.2.2 t = y.2.2.2 t
    · rw [if_pos (cm.mpr c2), decide_eq_true (k.mpr ⟨c1.1, c1.2.1, c1.2.2, c2⟩)]; rfl
    · rw [if_neg (mt cm.mp c2), decide_eq_false fun e => c2 (k.mp e).2.2.2]; rfl
  · rw [decide_eq_false c1, if_pos (show pq_b false = 0 from rfl), decide_eq_false fun e => c1 ⟨(k.mp e).1, (k.mp e).2.1, (k.mp e).2.2.1⟩]; rfl
def pr_mem (P : va_W) (zx : kx_S) (L : List Nat) : Prop := zx.1 9 = nI L.length ∧ ∀ i, i < L.length → ∃ ad x, zx.2.2.2 4 i = some ad ∧ pr_va x ∧ pr_hb P ad x ∧ pr_ky x = L.getD i 0
theorem pr_mem_ext {P P' : va_W} {zx : kx_S} {L : List Nat} (h : pr_mem P zx L) (e : pq_ext P P') : pr_mem P' zx L := ⟨h.1, fun i hi => by
  obtain ⟨ad, x, h1, h2, h3, h4⟩ := h.2 i hi
  exact ⟨ad, x, h1, h2, pr_hb_ext h3 e, h4⟩⟩
/-- only the kin's fields differ -/
def pr_xf (zx zx' : kx_S) : Prop := (∀ k, k ≠ 9 → zx'.1 k = zx.1 k) ∧ zx'.2.1 = zx.2.1 ∧ ∀ k, k ≠ 4 → zx'.2.2.2 k = zx.2.2.2 k
theorem pr_xf_t {z z' z'' : kx_S} (h : pr_xf z z') (h' : pr_xf z' z'') : pr_xf z z'' := ⟨fun k hk => (h'.1 k hk).trans (h.1 k hk), h'.2.1.trans h.2.1, fun k hk => (h'.2.2 k hk).trans (h.2.2 k hk)⟩
theorem pr_xf_Inv {cA : Nat → ClassId} {zx zx' : kx_S} {P : va_W} {zm : km_S} (h : pr_xf zx zx') (hI : pq_Inv cA zx P zm) : pq_Inv cA zx' P zm :=
  pr_Inv_x hI (fun k hk => h.1 k (by omega)) (fun k _ => by rw [h.2.1]) (fun k hk => h.2.2 k (by omega))
theorem pr_insert {P : va_W} {zx : kx_S} {L : List Nat} {ad : Nat} {x : pr_V} (hm : pr_mem P zx L) (hs : L.Pairwise (· < ·)) (hl : L.length < 12) (hx : pr_va x) (hb : pr_hb P ad x) :
    ∃ zx' L', fk_insert P ad zx = some zx' ∧ pr_mem P zx' L' ∧ L'.Pairwise (· < ·) ∧ (∀ k, k ∈ L' ↔ k = pr_ky x ∨ k ∈ L) ∧ L'.length ≤ L.length + 1 ∧ pr_xf zx zx' := by
  obtain ⟨A, B, eL, hA, hB⟩ := pr_cut (pr_ky x) L hs
  have lenL : L.length = A.length + B.length := by rw [eL, List.length_append]
  obtain ⟨bx, b1, b2⟩ := id hb
  have getA : ∀ t, t < A.length → L.getD t 0 < pr_ky x := fun t ht => by
    rw [eL, List.getD_eq_getElem?_getD, List.getElem?_append_left ht, List.getElem?_eq_getElem ht, Option.getD_some]
    exact hA _ (List.getElem_mem ht)
  have getB : ∀ t, t < B.length → pr_ky x ≤ L.getD (A.length + t) 0 := fun t ht => by
    rw [eL, List.getD_eq_getElem?_getD, List.getElem?_append_right (by omega), Nat.add_sub_cancel_left, List.getElem?_eq_getElem ht, Option.getD_some]
    exact hB _ (List.getElem_mem ht)
  have stp : ∀ t, t < L.length → fk_insert_2 P ad (nI t) zx = if L.getD t 0 < pr_ky x then some (.inl (ad, nI t + 1, zx)) else some (.inr (ad, nI t, zx)) := by
    intro t ht
    obtain ⟨ad', y, m1, m2, ⟨bx', m3, m4⟩, m5⟩ := hm.2 t ht
    unfold fk_insert_2
    rw [hm.1, if_neg (nI_ge ht (by omega)), kq_xrr (show t < 12 by omega) kq_kxR, Option.bind_some, m1, Option.bind_some, m3, Option.bind_some, m4, Option.bind_some, b1, Option.bind_some, b2, Option.bind_some]
    dsimp only
    rw [pr_before m2 hx, Option.bind_some, m5]
    by_cases c : L.getD t 0 < pr_ky x
    · rw [decide_eq_true c, if_neg (by decide), if_pos c]
    · rw [decide_eq_false c, if_pos (show pq_b false = 0 from rfl), if_neg c]
  have find : lk_insert_2 P 5000 ad 0 zx = some (ad, nI A.length, zx) := by
    unfold lk_insert_2
    refine kq_run0 (fun t => (ad, nI t, zx)) A.length rfl (by omega) (fun t ht => ?_) ?_
    · dsimp only
      rw [stp t (by omega), if_pos (getA t ht), nI_1]
    · dsimp only
      by_cases c : A.length < L.length
      · rw [stp _ c, if_neg]
        have := getB 0 (by omega)
        rw [Nat.add_zero] at this
        omega
      · unfold fk_insert_2
        rw [hm.1, if_pos (nI_le (by omega) (by omega))]
  -- what is put in
  have ins : pr_ky x ∉ L → ∃ zx', fk_insert_60 P ad (nI A.length) zx = some zx' ∧ pr_mem P zx' (A ++ pr_ky x :: B) ∧ pr_xf zx zx' := by
    intro hnot
    have shift : lk_insert_65 P 5000 ad (nI A.length) (nI L.length) zx = some (ad, nI A.length, (zx.1, zx.2.1, zx.2.2.1, va_up zx.2.2.2 4 (fun i => if A.length < i ∧ i ≤ L.length then zx.2.2.2 4 (i - 1) else zx.2.2.2 4 i))) := by
      unfold lk_insert_65
      refine kq_run0 (fun t => (ad, nI A.length, nI (L.length - t), (zx.1, zx.2.1, zx.2.2.1, va_up zx.2.2.2 4 (fun i => if L.length - t < i ∧ i ≤ L.length then zx.2.2.2 4 (i - 1) else zx.2.2.2 4 i)))) (L.length - A.length) ?_ (by omega) (fun t ht => ?_) ?_
      · have : (fun i => if L.length - 0 < i ∧ i ≤ L.length then zx.2.2.2 4 (i - 1) else zx.2.2.2 4 i) = zx.2.2.2 4 := by
          funext i; rw [if_neg (by omega)]
        rw [this, kj_upf]; rfl
      · dsimp only
        obtain ⟨ad', y, m1, m2, ⟨bx', m3, m4⟩, m5⟩ := hm.2 (L.length - t - 1) (by omega)
        unfold fk_insert_65
        rw [if_neg (nI_ge (by omega) (by omega)), show nI (L.length - t) - 1 = nI (L.length - t - 1) from pk_sub (b := 1) (by omega), kq_xrr (show L.length - t - 1 < 12 by omega) kq_kxR, Option.bind_some]
        dsimp only
        rw [va_up_self, if_neg (by omega), m1]
        unfold kx_wh
        rw [if_pos (by simp [m3])]
        unfold kx_wq
        rw [if_neg (kq_c (show L.length - t < kx_lenR 4 from (by show L.length - t < 12; omega)) kq_kxR), nI_clamp (by omega), Option.bind_some, show nI (L.length - t) + (-1) = nI (L.length - (t + 1)) by rw [show L.length - t = (L.length - (t + 1)) + 1 by omega, pk_m1]]
        dsimp only
        rw [bx_uu, va_up_self]
        have : va_up (fun i => if L.length - t < i ∧ i ≤ L.length then zx.2.2.2 4 (i - 1) else zx.2.2.2 4 i) (L.length - t) (some ad') = fun i => if L.length - (t + 1) < i ∧ i ≤ L.length then zx.2.2.2 4 (i - 1) else zx.2.2.2 4 i := by
          funext i
          by_cases e : i = L.length - t
          · subst e; rw [va_up_self, if_pos (by omega), m1]
          · rw [va_up_ne _ _ e]
            by_cases e2 : L.length - t < i ∧ i ≤ L.length
            · rw [if_pos e2, if_pos (by omega)]
            · rw [if_neg e2, if_neg (by omega)]
        rw [this]
      · dsimp only
        unfold fk_insert_65
        rw [show L.length - (L.length - A.length) = A.length by omega, if_pos (nI_le (Nat.le_refl _) (by omega))]
    unfold fk_insert_60
    rw [hm.1, shift, Option.bind_some]
    dsimp only
    unfold kx_wh
    rw [if_pos (by simp [b1])]
    unfold kx_wq
    rw [if_neg (kq_c (show A.length < kx_lenR 4 from (by show A.length < 12; omega)) kq_kxR), nI_clamp (by omega), Option.bind_some]
    unfold kx_pI
    rw [Option.bind_some]
    refine ⟨_, rfl, ⟨?_, fun i hi => ?_⟩, fun k hk => va_up_ne _ _ hk, rfl, fun k hk => ?_⟩
    · dsimp only
      rw [va_up_self, hm.1, nI_1, List.length_append, List.length_cons, lenL, Nat.add_assoc]
    · dsimp only
      rw [bx_uu, va_up_self, va_up_self]
      have hi' : i ≤ L.length := by rw [List.length_append, List.length_cons] at hi; omega
      rcases Nat.lt_trichotomy i A.length with q | q | q
      · obtain ⟨ad', y, m1, m2, m3, m4⟩ := hm.2 i (by omega)
        refine ⟨ad', y, by rw [va_up_ne _ _ (by omega), if_neg (by omega)]; exact m1, m2, m3, ?_⟩
        rw [m4, eL, List.getD_eq_getElem?_getD, List.getElem?_append_left q, List.getD_eq_getElem?_getD, List.getElem?_append_left q]
      · subst q
        refine ⟨ad, x, by rw [va_up_self], hx, hb, ?_⟩
        rw [List.getD_eq_getElem?_getD, List.getElem?_append_right (Nat.le_refl _), Nat.sub_self]; rfl
      · obtain ⟨ad', y, m1, m2, m3, m4⟩ := hm.2 (i - 1) (by omega)
        refine ⟨ad', y, by rw [va_up_ne _ _ (by omega), if_pos (by omega)]; exact m1, m2, m3, ?_⟩
        rw [m4, eL, List.getD_eq_getElem?_getD, List.getElem?_append_right (by omega), List.getD_eq_getElem?_getD, List.getElem?_append_right (by omega), show i - A.length = (i - 1 - A.length) + 1 by omega, List.getElem?_cons_succ]
    · dsimp only
      rw [va_up_ne _ _ hk, va_up_ne _ _ hk]
  have done : pr_ky x ∉ L → ∃ zx' L', fk_insert_60 P ad (nI A.length) zx = some zx' ∧ pr_mem P zx' L' ∧ L'.Pairwise (· < ·) ∧ (∀ k, k ∈ L' ↔ k = pr_ky x ∨ k ∈ L) ∧ L'.length ≤ L.length + 1 ∧ pr_xf zx zx' := by
    intro hnot
    obtain ⟨zx', i1, i2, i3⟩ := ins hnot
    have hs' := hs
    rw [eL, List.pairwise_append] at hs'
    refine ⟨zx', A ++ pr_ky x :: B, i1, i2, ?_, fun k => ?_, ?_, i3⟩
    · rw [List.pairwise_append, List.pairwise_cons]
      refine ⟨hs'.1, ⟨fun y hy => ?_, hs'.2.1⟩, fun y hy w hw => ?_⟩
      · have := hB y hy
        have ne : pr_ky x ≠ y := fun e => hnot (by rw [eL, e]; exact List.mem_append_right _ hy)
        omega
      · rcases List.mem_cons.mp hw with rfl | hw
        · exact hA y hy
        · exact hs'.2.2 y hy w hw
    · rw [eL, List.mem_append, List.mem_append, List.mem_cons]
      constructor
      · rintro (h | h | h)
        · exact Or.inr (Or.inl h)
        · exact Or.inl h
        · exact Or.inr (Or.inr h)
      · rintro (h | h | h)
        · exact Or.inr (Or.inl h)
        · exact Or.inl h
        · exact Or.inr (Or.inr h)
    · rw [List.length_append, List.length_cons, lenL]; omega
  unfold fk_insert
  rw [find, Option.bind_some]
  unfold fk_insert_29
  dsimp only
  rw [hm.1, if_neg (show ¬ (12 : Int32) ≤ nI L.length from nI_ge (b := 12) hl (by omega))]
  by_cases c : A.length < L.length
  · obtain ⟨ad', y, m1, m2, ⟨bx', m3, m4⟩, m5⟩ := hm.2 A.length c
    rw [if_neg (nI_ge c (by omega)), kq_xrr (show A.length < 12 by omega) kq_kxR, Option.bind_some, m1, Option.bind_some, m3, Option.bind_some, m4, Option.bind_some, b1, Option.bind_some, b2, Option.bind_some]
    dsimp only
    rw [pr_equalTo m2 hx, Option.bind_some, m5]
    by_cases e : L.getD A.length 0 = pr_ky x
    · rw [decide_eq_true e, if_neg (by decide)]
      have hin : pr_ky x ∈ L := by
        rw [← e, pr_gD c]; exact List.getElem_mem c
      refine ⟨zx, L, rfl, hm, hs, fun k => ⟨Or.inr, ?_⟩, by omega, fun _ _ => rfl, rfl, fun _ _ => rfl⟩
      rintro (rfl | h)
      · exact hin
      · exact h
    · rw [decide_eq_false e, if_pos (show pq_b false = 0 from rfl)]
      refine done fun hin => ?_
      rw [eL, List.mem_append] at hin
      rcases hin with h | h
      · have := hA _ h; omega
      · -- the first of B is the least
        obtain ⟨j, hj, ej⟩ := List.mem_iff_getElem.mp h
        have g0 := getB 0 (by omega)
        rw [Nat.add_zero] at g0
        have gj : L.getD (A.length + j) 0 = pr_ky x := by
          rw [eL, List.getD_eq_getElem?_getD, List.getElem?_append_right (by omega), Nat.add_sub_cancel_left, List.getElem?_eq_getElem hj, Option.getD_some, ej]
        rcases Nat.eq_zero_or_pos j with q | q
        · subst q; rw [Nat.add_zero] at gj; exact e gj
        · have := pr_sorted_get hs (i := A.length) (j := A.length + j) (by omega) (by omega)
          omega
  · rw [if_pos (nI_le (by omega) (by omega))]
    refine done fun hin => ?_
    have : B = [] := List.eq_nil_of_length_eq_zero (by omega)
    rw [eL, this, List.append_nil] at hin
    have := hA _ hin; omega
/-- turned(how) -/
theorem pr_turned {cA : Nat → ClassId} {zx : kx_S} {P : va_W} {ad w : Nat} {x : pr_V} (hw : w < 3) (hx : pr_va x) (hb : pr_hb P ad x) {K : Option Nat → kx_S → va_W → Prop}
    (hK : ∀ q Q, pr_hb (P ++ Q) q (pr_tn w x) → K (some q) zx (P ++ Q)) : vh_turned cA ad (nI w) zx P K := by
  obtain ⟨bx, e1, e2⟩ := hb
  have ex : ∀ Q, pq_ext P (P ++ Q) := fun Q => pq_ext_app
  unfold vh_turned
  have : w = 0 ∨ w = 1 ∨ w = 2 := by omega
  rcases this with rfl | rfl | rfl
  · refine ⟨fun _ q hq q3 hq3 => ?_, fun n => absurd (show nI 0 = 0 from rfl) n⟩
    refine ⟨_, (ex _).1 _ _ e1, _, (ex _).2 _ _ e2, _, (ex _).1 _ _ e1, _, (ex _).2 _ _ e2, _, (ex _).1 _ _ e1, _, (ex _).2 _ _ e2, _, (ex _).1 _ _ e1, _, (ex _).1 _ _ e1, _, (ex _).2 _ _ e2, _, pq_transposed hx, ?_⟩
    obtain ⟨n1, n2⟩ := pq_new2 (E := lN (pq_enc (pq_T x.2.2.2) 16)) (A := nI x.2.1) (B := nI x.1) (C := nI x.2.2.1) hq hq3
    exact hK q _ ⟨q3, n1, n2⟩
  · refine ⟨fun n => absurd n (by decide), fun _ => ⟨fun _ q hq q3 hq3 => ?_, fun n => absurd (show nI 1 = 1 from rfl) n⟩⟩
    refine ⟨_, (ex _).1 _ _ e1, _, (ex _).2 _ _ e2, _, (ex _).1 _ _ e1, _, (ex _).2 _ _ e2, _, (ex _).1 _ _ e1, _, (ex _).2 _ _ e2, _, (ex _).1 _ _ e1, _, (ex _).1 _ _ e1, _, (ex _).2 _ _ e2, _, pq_rotated hx, ?_⟩
    obtain ⟨n1, n2⟩ := pq_new2 (E := lN (pq_enc (pq_R x.1 x.2.2.2) 16)) (A := nI x.2.1) (B := nI x.2.2.1) (C := nI x.1) hq hq3
    exact hK q _ ⟨q3, n1, n2⟩
  · refine ⟨fun n => absurd n (by decide), fun _ => ⟨fun n => absurd n (by decide), fun _ q hq => ?_⟩⟩
    refine ⟨_, (ex _).1 _ _ e1, _, (ex _).1 _ _ e1, _, (ex _).1 _ _ e1, _, (ex _).2 _ _ e2, _, pq_complemented hx, ?_⟩
    obtain ⟨n1, n2⟩ := pq_new1 (E := lN (pq_enc (pq_C x.1 x.2.1 x.2.2.1 x.2.2.2) 16)) hq e2
    exact hK q _ ⟨bx, n1, n2⟩
