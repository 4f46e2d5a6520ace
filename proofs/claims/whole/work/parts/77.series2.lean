/-! SERIES: the class's product of series, modulo 2^64 -/
def pr_sb (x y : Nat) : Nat := (x + (2 ^ 64 - y)) % 2 ^ 64
def pr_ad (x y : Nat) : Nat := (x + y) % 2 ^ 64
theorem pr_lsub {x y : Nat} (hy : y < 2 ^ 64) : lN x - lN y = lN (pr_sb x y) := by
  apply wb_inj
  rw [Int64.toBitVec_sub, wb_tb, wb_tb, wb_tb]
  apply BitVec.eq_of_toNat_eq
  unfold pr_sb
  rw [BitVec.toNat_sub, BitVec.toNat_ofNat, BitVec.toNat_ofNat, BitVec.toNat_ofNat, Nat.mod_mod, Nat.mod_eq_of_lt hy, Nat.add_comm (2 ^ 64 - y), Nat.mod_add_mod]
theorem pr_ladd (x y : Nat) : lN x + lN y = lN (pr_ad x y) := by
  rw [lN_add]
  apply wb_inj
  rw [wb_tb, wb_tb]
  apply BitVec.eq_of_toNat_eq
  unfold pr_ad
  rw [BitVec.toNat_ofNat, BitVec.toNat_ofNat, Nat.mod_mod]
def pr_pm (k : Nat) (l : List Nat) : List Nat := List.zipWith pr_sb l (List.replicate k 0 ++ l)
def pr_pg (k : Nat) : List Nat → List Nat → List Nat
  | [], acc => acc
  | x :: xs, acc => pr_pg k xs (pr_ad x (acc.getD (k - 1) 0) :: acc)
def pr_pd (k : Nat) (l : List Nat) : List Nat := (pr_pg k l []).reverse
theorem pr_gD {l : List Nat} {n : Nat} (h : n < l.length) : l.getD n 0 = l[n] := by
  rw [List.getD_eq_getElem?_getD, List.getElem?_eq_getElem h, Option.getD_some]
theorem pr_pm_len (k : Nat) (l : List Nat) : (pr_pm k l).length = l.length := by
  unfold pr_pm; rw [List.length_zipWith, List.length_append, List.length_replicate]; omega
theorem pr_pm_at {k n : Nat} {l : List Nat} (hn : n < l.length) : (pr_pm k l).getD n 0 = pr_sb (l.getD n 0) (if k ≤ n then l.getD (n - k) 0 else 0) := by
  have h1 : n < (List.replicate k 0 ++ l).length := by rw [List.length_append]; omega
  have e : (List.replicate k 0 ++ l)[n] = if k ≤ n then l.getD (n - k) 0 else 0 := by
    by_cases c : k ≤ n
    · rw [if_pos c, List.getElem_append_right (by rw [List.length_replicate]; exact c), pr_gD (by omega)]
      congr 1
      rw [List.length_replicate]
    · rw [if_neg c, List.getElem_append_left (by rw [List.length_replicate]; omega), List.getElem_replicate]
  have h2 : n < (pr_pm k l).length := by rw [pr_pm_len]; exact hn
  rw [pr_gD h2, pr_gD hn, ← e]
  exact List.getElem_zipWith
theorem pr_pg_len (k : Nat) : ∀ (l acc : List Nat), (pr_pg k l acc).length = l.length + acc.length
  | [], acc => by simp [pr_pg]
  | x :: xs, acc => by rw [pr_pg, pr_pg_len k xs]; simp; omega
theorem pr_pg_at {k : Nat} (hk : 1 ≤ k) : ∀ (l acc : List Nat), (∀ m, m < acc.length → (pr_pg k l acc).reverse.getD m 0 = acc.reverse.getD m 0) ∧ ∀ n, n < l.length → (pr_pg k l acc).reverse.getD (acc.length + n) 0 = pr_ad (l.getD n 0) (if k ≤ acc.length + n then (pr_pg k l acc).reverse.getD (acc.length + n - k) 0 else 0)
  | [], acc => ⟨fun _ _ => rfl, fun n hn => absurd hn (by simp)⟩
  | x :: xs, acc => by
    obtain ⟨h1, h2⟩ := pr_pg_at hk xs (pr_ad x (acc.getD (k - 1) 0) :: acc)
    have er : (pr_ad x (acc.getD (k - 1) 0) :: acc).reverse = acc.reverse ++ [pr_ad x (acc.getD (k - 1) 0)] := List.reverse_cons
    have keep : ∀ m, m < acc.length → (pr_pg k (x :: xs) acc).reverse.getD m 0 = acc.reverse.getD m 0 := fun m hm => by
      rw [pr_pg, h1 m (by simp; omega), er, List.getD_eq_getElem?_getD, List.getElem?_append_left (by simpa using hm), ← List.getD_eq_getElem?_getD]
    refine ⟨keep, fun n hn => ?_⟩
    cases n with
    | zero =>
      rw [Nat.add_zero, show (x :: xs).getD 0 0 = x from rfl]
      have e1 : (pr_pg k (x :: xs) acc).reverse.getD acc.length 0 = pr_ad x (acc.getD (k - 1) 0) := by
        rw [pr_pg, h1 _ (by simp), er, List.getD_eq_getElem?_getD, List.getElem?_append_right (by simp)]
        simp
      rw [e1]
      congr 1
      by_cases c : k ≤ acc.length
      · rw [if_pos c, keep _ (by omega), pr_gD (by omega), pr_gD (by rw [List.length_reverse]; omega), List.getElem_reverse]
        congr 1
        omega
      · rw [if_neg c, List.getD_eq_getElem?_getD, List.getElem?_eq_none (by omega)]; rfl
    | succ n =>
      have := h2 n (by simpa using hn)
      rw [show (pr_ad x (acc.getD (k - 1) 0) :: acc).length + n = acc.length + (n + 1) by simp; omega] at this
      rw [pr_pg, this]; rfl
theorem pr_pd_len (k : Nat) (l : List Nat) : (pr_pd k l).length = l.length := by
  unfold pr_pd; rw [List.length_reverse, pr_pg_len]; simp
theorem pr_pd_at {k n : Nat} {l : List Nat} (hk : 1 ≤ k) (hn : n < l.length) : (pr_pd k l).getD n 0 = pr_ad (l.getD n 0) (if k ≤ n then (pr_pd k l).getD (n - k) 0 else 0) := by
  have := (pr_pg_at hk l []).2 n hn
  simpa [pr_pd] using this
def pr_pr (c i : Nat) : Nat → List Nat → List Nat
  | 0, l => l
  | j + 1, l => pr_pd (i + j) (pr_pm (i + j + c) (pr_pr c i j l))
def pr_pc (b c : Nat) : Nat → List Nat
  | 0 => 1 :: List.replicate 48 0
  | i + 1 => pr_pr c (i + 1) b (pr_pc b c i)
def pr_lok (l : List Nat) : Prop := l.length = 49 ∧ ∀ n, l.getD n 0 < 2 ^ 64
theorem pr_lok_pm {k : Nat} {l : List Nat} (h : pr_lok l) : pr_lok (pr_pm k l) := by
  refine ⟨by rw [pr_pm_len]; exact h.1, fun n => ?_⟩
  by_cases c : n < l.length
  · rw [pr_pm_at c]; exact Nat.mod_lt _ (by decide)
  · rw [List.getD_eq_getElem?_getD, List.getElem?_eq_none (by rw [pr_pm_len]; omega)]; decide
theorem pr_lok_pd {k : Nat} {l : List Nat} (hk : 1 ≤ k) (h : pr_lok l) : pr_lok (pr_pd k l) := by
  refine ⟨by rw [pr_pd_len]; exact h.1, fun n => ?_⟩
  by_cases c : n < l.length
  · rw [pr_pd_at hk c]; exact Nat.mod_lt _ (by decide)
  · rw [List.getD_eq_getElem?_getD, List.getElem?_eq_none (by rw [pr_pd_len]; omega)]; decide
theorem pr_lok_pr {c i : Nat} (hi : 1 ≤ i) {l : List Nat} (h : pr_lok l) : ∀ j, pr_lok (pr_pr c i j l)
  | 0 => h
  | j + 1 => pr_lok_pd (by omega) (pr_lok_pm (pr_lok_pr hi h j))
theorem pr_lok_pc {b c : Nat} : ∀ i, pr_lok (pr_pc b c i)
  | 0 => by
    refine ⟨rfl, fun n => ?_⟩
    by_cases e : n < 49
    · have K : ∀ n, n < 49 → (pr_pc b c 0).getD n 0 < 2 ^ 64 := by
        show ∀ n, n < 49 → (1 :: List.replicate 48 0).getD n 0 < 2 ^ 64
        decide
      exact K n e
    · rw [List.getD_eq_getElem?_getD, List.getElem?_eq_none (by show 49 ≤ n; omega)]; decide
  | i + 1 => pr_lok_pr (by omega) (pr_lok_pc i) b
/-! the loops -/
theorem pr_xrl {z : kx_S} {j : Nat} (h : j < 49) : kx_rl z 1 (nI j) = some (z.2.2.1 1 j) := by
  unfold kx_rl; rw [if_neg (kq_c (show j < kx_lenJ 1 from h) (by decide)), nI_clamp (by omega)]
theorem pr_xwl {z : kx_S} {j : Nat} {f : Nat → Int64} {v : Int64} (h : j < 49) : kx_wl (z.1, z.2.1, va_up z.2.2.1 1 f, z.2.2.2) 1 (nI j) v = some (z.1, z.2.1, va_up z.2.2.1 1 (vp_updL f j v), z.2.2.2) := by
  unfold kx_wl; rw [if_neg (kq_c (show j < kx_lenJ 1 from h) (by decide)), nI_clamp (by omega)]
  simp only [bx_uu, va_up_self]
theorem pr_xrn {z : kx_S} {j : Nat} {f : Nat → Int64} {v : Int64} (h : j < 49) (hv : f j = v) : kx_rl (z.1, z.2.1, va_up z.2.2.1 1 f, z.2.2.2) 1 (nI j) = some v := by
  rw [pr_xrl h]; dsimp only; rw [va_up_self, hv]
theorem pr_mulLoop {P : va_W} {A B C : Int32} {z : kx_S} {f : Nat → Int64} {l : List Nat} {most i j k : Nat} (hl : pr_lok l) (hm : most ≤ 48) (hk : 1 ≤ k) (hk2 : k < 100) (hf : ∀ n, n ≤ most → f n = lN (l.getD n 0)) : ∃ f', lc_heapsOfVolume_63 P A B C 5000 (nI most) (nI i) (nI j) (nI k) (nI most) (z.1, z.2.1, va_up z.2.2.1 1 f, z.2.2.2) = some (nI most, nI i, nI j, (z.1, z.2.1, va_up z.2.2.1 1 f', z.2.2.2)) ∧ ∀ n, n ≤ most → f' n = lN ((pr_pm k l).getD n 0) := by
  have old : ∀ n, n ≤ most → n < k → lN (l.getD n 0) = lN ((pr_pm k l).getD n 0) := fun n hn h => by
    rw [pr_pm_at (by rw [hl.1]; omega), if_neg (by omega), ← pr_lsub (by decide)]
    show lN (l.getD n 0) = lN (l.getD n 0) - 0
    rw [Int64.sub_zero]
  unfold lc_heapsOfVolume_63
  obtain ⟨x, x1, f', rfl, x2⟩ := kq_it0 (step := fun (s : (Int32 × Int32 × Int32 × Int32 × Int32 × kx_S)) => fc_heapsOfVolume_63 P A B C (s.1) (s.2.1) (s.2.2.1) (s.2.2.2.1) (s.2.2.2.2.1) (s.2.2.2.2.2))
    (fun t x => ∃ f', x = (nI most, nI i, nI j, nI k, nI (most - t), (z.1, z.2.1, va_up z.2.2.1 1 f', z.2.2.2)) ∧ ∀ n, n ≤ most → f' n = if most - t < n then lN ((pr_pm k l).getD n 0) else lN (l.getD n 0))
    (fun x => ∃ f', x = (nI most, nI i, nI j, ((z.1, z.2.1, va_up z.2.2.1 1 f', z.2.2.2) : kx_S)) ∧ ∀ n, n ≤ most → f' n = lN ((pr_pm k l).getD n 0)) (most + 1 - k) (by omega) (by
      rintro t x ht ⟨f', rfl, h1⟩
      dsimp only
      unfold fc_heapsOfVolume_63
      rw [if_neg (nI_nlt (by omega) (by omega)), pr_xrn (v := lN (l.getD (most - t) 0)) (by omega) (by rw [h1 _ (by omega), if_neg (by omega)]), Option.bind_some, pk_sub (by omega), pr_xrn (v := lN (l.getD (most - t - k) 0)) (by omega) (by rw [h1 _ (by omega), if_neg (by omega)]), Option.bind_some, pr_xwl (by omega), Option.bind_some, pr_lsub (hl.2 _), show nI (most - t) + (-1) = nI (most - (t + 1)) by rw [show most - t = (most - (t + 1)) + 1 by omega, pk_m1]]
      refine ⟨_, rfl, _, rfl, fun n hn => ?_⟩
      by_cases e : n = most - t
      · subst e
        rw [pk_uLs, if_pos (show most - (t + 1) < most - t by omega), pr_pm_at (by rw [hl.1]; omega), if_pos (show k ≤ most - t by omega)]
      · rw [pk_uLn e, h1 n hn]
        by_cases e2 : most - t < n
        · rw [if_pos e2, if_pos (by omega)]
        · rw [if_neg e2, if_neg (by omega)]) (by
      rintro x ⟨f', rfl, h1⟩
      refine ⟨_, ?_, f', rfl, fun n hn => ?_⟩
      · dsimp only
        unfold fc_heapsOfVolume_63
        rw [if_pos (nI_lt (by omega) (by omega))]
      · rw [h1 n hn]
        by_cases e2 : most - (most + 1 - k) < n
        · rw [if_pos e2]
        · rw [if_neg e2]; exact old n hn (by omega))
    (s := (nI most, nI i, nI j, nI k, nI most, (z.1, z.2.1, va_up z.2.2.1 1 f, z.2.2.2))) ⟨f, rfl, fun n hn => by rw [if_neg (by omega)]; exact hf n hn⟩
  exact ⟨f', x1, x2⟩
theorem pr_divLoop {P : va_W} {A B C : Int32} {z : kx_S} {f : Nat → Int64} {l : List Nat} {most i j k : Nat} (hl : pr_lok l) (hm : most ≤ 48) (hk : 1 ≤ k) (hk2 : k < 100) (hf : ∀ n, n ≤ most → f n = lN (l.getD n 0)) : ∃ f', lc_heapsOfVolume_109 P A B C 5000 (nI most) (nI i) (nI j) (nI k) (nI k) (z.1, z.2.1, va_up z.2.2.1 1 f, z.2.2.2) = some (nI most, nI i, nI j, (z.1, z.2.1, va_up z.2.2.1 1 f', z.2.2.2)) ∧ ∀ n, n ≤ most → f' n = lN ((pr_pd k l).getD n 0) := by
  have old : ∀ n, n ≤ most → n < k → lN (l.getD n 0) = lN ((pr_pd k l).getD n 0) := fun n hn h => by
    rw [pr_pd_at hk (by rw [hl.1]; omega), if_neg (by omega), ← pr_ladd]
    show lN (l.getD n 0) = lN (l.getD n 0) + 0
    rw [Int64.add_zero]
  unfold lc_heapsOfVolume_109
  obtain ⟨x, x1, f', rfl, x2⟩ := kq_it0 (step := fun (s : (Int32 × Int32 × Int32 × Int32 × Int32 × kx_S)) => fc_heapsOfVolume_109 P A B C (s.1) (s.2.1) (s.2.2.1) (s.2.2.2.1) (s.2.2.2.2.1) (s.2.2.2.2.2))
    (fun t x => ∃ f', x = (nI most, nI i, nI j, nI k, nI (k + t), (z.1, z.2.1, va_up z.2.2.1 1 f', z.2.2.2)) ∧ ∀ n, n ≤ most → f' n = if n < k + t then lN ((pr_pd k l).getD n 0) else lN (l.getD n 0))
    (fun x => ∃ f', x = (nI most, nI i, nI j, ((z.1, z.2.1, va_up z.2.2.1 1 f', z.2.2.2) : kx_S)) ∧ ∀ n, n ≤ most → f' n = lN ((pr_pd k l).getD n 0)) (most + 1 - k) (by omega) (by
      rintro t x ht ⟨f', rfl, h1⟩
      dsimp only
      unfold fc_heapsOfVolume_109
      rw [if_neg (nI_nlt (by omega) (by omega)), pr_xrn (v := lN (l.getD (k + t) 0)) (by omega) (by rw [h1 _ (by omega), if_neg (by omega)]), Option.bind_some, pk_sub (by omega), pr_xrn (v := lN ((pr_pd k l).getD (k + t - k) 0)) (by omega) (by rw [h1 _ (by omega), if_pos (by omega)]), Option.bind_some, pr_xwl (by omega), Option.bind_some, pr_ladd, nI_1]
      refine ⟨_, rfl, _, rfl, fun n hn => ?_⟩
      by_cases e : n = k + t
      · subst e
        rw [pk_uLs, if_pos (show k + t < k + (t + 1) by omega), pr_pd_at (n := k + t) hk (by rw [hl.1]; omega), if_pos (show k ≤ k + t by omega)]
      · rw [pk_uLn e, h1 n hn]
        by_cases e2 : n < k + t
        · rw [if_pos e2, if_pos (by omega)]
        · rw [if_neg e2, if_neg (by omega)]) (by
      rintro x ⟨f', rfl, h1⟩
      refine ⟨_, ?_, f', rfl, fun n hn => ?_⟩
      · dsimp only
        unfold fc_heapsOfVolume_109
        rw [if_pos (nI_lt (by omega) (by omega))]
      · rw [h1 n hn]
        by_cases e2 : n < k + (most + 1 - k)
        · rw [if_pos e2]
        · omega)
    (s := (nI most, nI i, nI j, nI k, nI k, (z.1, z.2.1, va_up z.2.2.1 1 f, z.2.2.2))) ⟨f, rfl, fun n hn => by
      by_cases e : n < k + 0
      · rw [if_pos e, hf n hn]; exact old n hn (by omega)
      · rw [if_neg e]; exact hf n hn⟩
  exact ⟨f', x1, x2⟩
theorem pr_heapsOfVolume {P : va_W} {z : kx_S} {a b c v : Nat} (ha : a ≤ 4) (o : pr_ok b c) (hv : v ≤ 48) : ∃ z', fc_heapsOfVolume P (nI a) (nI b) (nI c) (nI v) z = some (nI ((pr_pc b c a).getD v 0), z') ∧ z'.1 = z.1 ∧ z'.2.1 = z.2.1 ∧ z'.2.2.2 = z.2.2.2 := by
  have hb := o.2.1; have hc := o.2.2.2; have hc1 := o.2.2.1
  obtain ⟨g, g1, g2, _⟩ := pr_fillL (n := 49) (v := 0) (f := z.2.2.1 1) (by omega)
  have row : ∀ (f : Nat → Int64) (i : Nat), 1 ≤ i → i ≤ 4 → ∀ l, pr_lok l → (∀ n, n ≤ v → f n = lN (l.getD n 0)) → ∃ f', lc_heapsOfVolume_37 P (nI a) (nI b) (nI c) 5000 (nI v) (nI i) 1 (z.1, z.2.1, va_up z.2.2.1 1 f, z.2.2.2) = some (nI v, nI i, (z.1, z.2.1, va_up z.2.2.1 1 f', z.2.2.2)) ∧ ∀ n, n ≤ v → f' n = lN ((pr_pr c i b l).getD n 0) := by
    intro f i hi hi4 l hl hf
    unfold lc_heapsOfVolume_37
    obtain ⟨x, x1, f', rfl, x2⟩ := kq_it0 (step := fun (s : (Int32 × Int32 × Int32 × kx_S)) => fc_heapsOfVolume_37 P (nI a) (nI b) (nI c) (s.1) (s.2.1) (s.2.2.1) (s.2.2.2))
      (fun j x => ∃ f', x = (nI v, nI i, nI (j + 1), (z.1, z.2.1, va_up z.2.2.1 1 f', z.2.2.2)) ∧ ∀ n, n ≤ v → f' n = lN ((pr_pr c i j l).getD n 0))
      (fun x => ∃ f', x = (nI v, nI i, ((z.1, z.2.1, va_up z.2.2.1 1 f', z.2.2.2) : kx_S)) ∧ ∀ n, n ≤ v → f' n = lN ((pr_pr c i b l).getD n 0)) b (by omega) (by
        rintro j x hj ⟨f', rfl, h1⟩
        have lo := pr_lok_pr (c := c) hi hl j
        obtain ⟨f2, m1, m2⟩ := pr_mulLoop (P := P) (A := nI a) (B := nI b) (C := nI c) (z := z) (f := f') (most := v) (i := i) (j := j + 1) (k := i + j + c) lo hv (by omega) (by omega) h1
        obtain ⟨f3, d1, d2⟩ := pr_divLoop (P := P) (A := nI a) (B := nI b) (C := nI c) (z := z) (f := f2) (most := v) (i := i) (j := j + 1) (k := i + j) (pr_lok_pm (k := i + j + c) lo) hv (by omega) (by omega) m2
        dsimp only
        unfold fc_heapsOfVolume_37
        rw [if_neg (nI_nlt (by omega) (by omega)), nI_add, nI_add, show nI (i + (j + 1) + c) - 1 = nI (i + j + c) by
          rw [show i + (j + 1) + c = (i + j + c) + 1 by omega, nI_pred], m1, Option.bind_some]
        dsimp only
        rw [nI_add, show nI (i + (j + 1)) - 1 = nI (i + j) by rw [← Nat.add_assoc, nI_pred], d1, Option.bind_some, nI_1]
        exact ⟨_, rfl, f3, rfl, d2⟩) (by
        rintro x ⟨f', rfl, h1⟩
        refine ⟨_, ?_, f', rfl, h1⟩
        dsimp only
        unfold fc_heapsOfVolume_37
        rw [if_pos (nI_lt (by omega) (by omega))])
      (s := (nI v, nI i, 1, (z.1, z.2.1, va_up z.2.2.1 1 f, z.2.2.2))) ⟨f, rfl, hf⟩
    exact ⟨f', x1, x2⟩
  have e48 : (if (48 : Int32) < nI v then (48 : Int32) else nI v) = nI v := if_neg (nI_nlt (a := 48) (b := v) hv (by omega))
  unfold fc_heapsOfVolume
  rw [g1, Option.bind_some, show (0 : Int32) = nI 0 from rfl, pr_xwl (by omega), Option.bind_some, e48]
  refine kq_pair ?_
  unfold lc_heapsOfVolume_25
  refine kq_itb (fun i x => ∃ f', x = (nI v, nI (i + 1), (z.1, z.2.1, va_up z.2.2.1 1 f', z.2.2.2)) ∧ ∀ n, n ≤ v → f' n = lN ((pr_pc b c i).getD n 0))
    (fun x => ∃ f', x = (nI v, ((z.1, z.2.1, va_up z.2.2.1 1 f', z.2.2.2) : kx_S)) ∧ ∀ n, n ≤ v → f' n = lN ((pr_pc b c a).getD n 0)) a (by omega) ⟨_, rfl, fun n hn => ?_⟩ ?_ ?_ ?_
  · by_cases e : n = 0
    · subst e; rw [pk_uLs]; rfl
    · rw [pk_uLn e, g2 n (by omega)]
      obtain ⟨m, rfl⟩ : ∃ m, n = m + 1 := ⟨n - 1, by omega⟩
      have K : ∀ m, m < 48 → (1 :: List.replicate 48 0).getD (m + 1) 0 = 0 := by decide
      show (0 : Int64) = lN ((1 :: List.replicate 48 0).getD (m + 1) 0)
      rw [K m (by omega)]; rfl
  · rintro i x hi ⟨f', rfl, h1⟩
    obtain ⟨f2, r1, r2⟩ := row f' (i + 1) (by omega) (by omega) _ (pr_lok_pc i) h1
    dsimp only
    unfold fc_heapsOfVolume_25
    rw [if_neg (nI_nlt (by omega) (by omega)), r1, Option.bind_some, nI_1]
    exact ⟨_, rfl, f2, rfl, r2⟩
  · rintro x ⟨f', rfl, h1⟩
    refine ⟨_, ?_, f', rfl, h1⟩
    dsimp only
    unfold fc_heapsOfVolume_25
    rw [if_pos (nI_lt (by omega) (by omega))]
  · rintro x ⟨f', rfl, h1⟩
    dsimp only
    rw [pr_xrn (v := lN ((pr_pc b c a).getD v 0)) (by omega) (h1 v (Nat.le_refl v)), Option.bind_some]
    exact ⟨_, rfl, lN_i _, rfl, rfl, rfl⟩
/-! both by numbers in base 2^32 -/
def pr_X : Nat := 2 ^ 32
def pr_kc (f : Nat → Nat) (n : Nat) : Nat := pq_sum n fun u => f u * pr_X ^ u
theorem pr_kc_lt {f : Nat → Nat} : ∀ {n : Nat}, (∀ u, u < n → f u < pr_X) → pr_kc f n < pr_X ^ n
  | 0, _ => by simp [pr_kc, pq_sum]
  | n + 1, h => by
    have h1 := pr_kc_lt (n := n) fun u hu => h u (by omega)
    have h2 := Nat.mul_le_mul_right (pr_X ^ n) (show f n + 1 ≤ pr_X from h n (by omega))
    unfold pr_kc at *
    rw [pq_sum, Nat.pow_succ, Nat.mul_comm _ pr_X]
    rw [Nat.add_mul, Nat.one_mul] at h2
    omega
theorem pr_kc_inj {f g : Nat → Nat} : ∀ {n : Nat}, (∀ u, u < n → f u < pr_X) → (∀ u, u < n → g u < pr_X) → pr_kc f n = pr_kc g n → ∀ u, u < n → f u = g u
  | 0, _, _, _, u, hu => absurd hu (by omega)
  | n + 1, hf, hg, e, u, hu => by
    have h1 := pr_kc_lt (n := n) fun u hu => hf u (by omega)
    have h2 := pr_kc_lt (n := n) fun u hu => hg u (by omega)
    have e' : pr_kc f n + f n * pr_X ^ n = pr_kc g n + g n * pr_X ^ n := e
    have pos : 0 < pr_X ^ n := Nat.pow_pos (by decide)
    have e1 : f n = g n := by
      have q1 : (pr_kc f n + f n * pr_X ^ n) / pr_X ^ n = f n := by
        rw [Nat.add_mul_div_right _ _ pos, Nat.div_eq_of_lt h1, Nat.zero_add]
      have q2 : (pr_kc g n + g n * pr_X ^ n) / pr_X ^ n = g n := by
        rw [Nat.add_mul_div_right _ _ pos, Nat.div_eq_of_lt h2, Nat.zero_add]
      rw [← q1, ← q2, e']
    by_cases c : u = n
    · subst c; exact e1
    · rw [e1] at e'
      exact pr_kc_inj (n := n) (fun u hu => hf u (by omega)) (fun u hu => hg u (by omega)) (by omega) u (by omega)
theorem pr_kc_split {f : Nat → Nat} (n : Nat) : ∀ d, pr_kc f (n + d) = pr_kc f n + pr_X ^ n * pr_kc (fun u => f (n + u)) d
  | 0 => by simp [pr_kc, pq_sum]
  | d + 1 => by
    have ih := pr_kc_split (f := f) n d
    unfold pr_kc at *
    rw [← Nat.add_assoc, pq_sum, ih, pq_sum, Nat.mul_add, Nat.add_assoc]
    congr 2
    show f (n + d) * pr_X ^ (n + d) = pr_X ^ n * (f (n + d) * pr_X ^ d)
    rw [Nat.pow_add, Nat.mul_left_comm]
theorem pr_kc_zero {f : Nat → Nat} {n : Nat} (h : ∀ u, u < n → f u = 0) : pr_kc f n = 0 := by
  unfold pr_kc
  rw [pq_sum_eq (g := fun _ => 0) fun u hu => by rw [h u hu, Nat.zero_mul]]
  exact pq_sum_zero
theorem pr_kc_shift {f : Nat → Nat} {m : Nat} (hm : m ≤ 49) (hf : ∀ u, u < 49 → f u < pr_X) : pr_kc (fun u => if m ≤ u then f (u - m) else 0) 49 = pr_X ^ m * pr_kc f 49 % pr_X ^ 49 := by
  have e1 := pr_kc_split (f := fun u => if m ≤ u then f (u - m) else 0) m (49 - m)
  rw [show m + (49 - m) = 49 by omega, pr_kc_zero (n := m) (fun u hu => if_neg (by omega)), Nat.zero_add] at e1
  have e2 : pr_kc (fun u => (fun u => if m ≤ u then f (u - m) else 0) (m + u)) (49 - m) = pr_kc f (49 - m) := by
    unfold pr_kc
    refine pq_sum_eq fun u hu => ?_
    dsimp only
    rw [if_pos (by omega), show m + u - m = u by omega]
  rw [e1, e2]
  have e3 := pr_kc_split (f := f) (49 - m) m
  rw [show 49 - m + m = 49 by omega] at e3
  have l := pr_kc_lt (f := f) (n := 49 - m) fun u hu => hf u (by omega)
  have p : pr_X ^ m * pr_X ^ (49 - m) = pr_X ^ 49 := by rw [← Nat.pow_add, show m + (49 - m) = 49 by omega]
  rw [e3, Nat.mul_add, ← Nat.mul_assoc, p, Nat.add_mul_mod_self_left, Nat.mod_eq_of_lt]
  rw [← p]
  exact Nat.mul_lt_mul_of_pos_left l (Nat.pow_pos (by decide))
theorem pr_B_le {b c : Nat} (o : pr_ok b c) : ∀ i r u, pr_B b c i r u ≤ 70 ^ i
  | 0, r, u => by unfold pr_B; split <;> simp
  | i + 1, r, u => by
    have hN := pr_N_le o
    rw [pr_B]
    have h1 := pq_sum_le (n := pr_N b c) (m := 70 ^ i) (f := fun r' => if pr_LE b c r r' ∧ pr_m b c r ≤ u then pr_B b c i r' (u - pr_m b c r) else 0) fun r' _ => by
      split
      · exact pr_B_le o i r' _
      · exact Nat.zero_le _
    have h2 := Nat.mul_le_mul_right (70 ^ i) hN.2
    rw [Nat.pow_succ, Nat.mul_comm (70 ^ i) 70]
    omega
theorem pr_B_lt {b c i r u : Nat} (o : pr_ok b c) (hi : i ≤ 4) : pr_B b c i r u ≤ 2 ^ 25 := by
  have h1 := pr_B_le o i r u
  have h2 : 70 ^ i ≤ 70 ^ 4 := Nat.pow_le_pow_right (by omega) hi
  have h3 : 70 ^ 4 ≤ 2 ^ 25 := by decide
  omega
/-- the levels, quickly -/
def pr_stp (R : List (List Nat)) (L : List Nat) : List Nat := R.map fun s => pr_X ^ (s.getD 0 0 + s.getD 1 0 + s.getD 2 0 + s.getD 3 0) * (List.zipWith (fun r p => if pq_le s r then p else 0) R L).sum % pr_X ^ 49
def pr_lev (R : List (List Nat)) : Nat → List Nat
  | 0 => List.replicate (R.length - 1) 0 ++ [1]
  | i + 1 => pr_stp R (pr_lev R i)
theorem pr_zip_sum {g : List Nat → Nat → Nat} : ∀ (R : List (List Nat)) (L : List Nat), R.length = L.length → (List.zipWith g R L).sum = pq_sum R.length fun r => g (R.getD r []) (L.getD r 0)
  | [], [], _ => rfl
  | [], _ :: _, h => by simp at h
  | _ :: _, [], h => by simp at h
  | x :: R, y :: L, h => by
    rw [List.zipWith_cons_cons, List.sum_cons, pr_zip_sum R L (by simpa using h), List.length_cons, pr_sum_cons]
    rfl
theorem pr_lev_len (R : List (List Nat)) (h : 1 ≤ R.length) : ∀ i, (pr_lev R i).length = R.length
  | 0 => by simp [pr_lev]; omega
  | i + 1 => by simp [pr_lev, pr_stp]
theorem pr_lev_B {b c : Nat} (o : pr_ok b c) : ∀ i, i ≤ 4 → ∀ s, s < pr_N b c → (pr_lev (pq_rows b c) i).getD s 0 = pr_kc (pr_B b c i s) 49
  | 0, _, s, hs => by
    have hN := pr_N_le o
    have e : (pr_lev (pq_rows b c) 0).getD s 0 = if s = pr_N b c - 1 then 1 else 0 := by
      show (List.replicate (pr_N b c - 1) 0 ++ [1]).getD s 0 = _
      by_cases q : s = pr_N b c - 1
      · rw [if_pos q, List.getD_eq_getElem?_getD, List.getElem?_append_right (by rw [List.length_replicate]; omega), List.length_replicate, q, Nat.sub_self]; rfl
      · rw [if_neg q, List.getD_eq_getElem?_getD, List.getElem?_append_left (by rw [List.length_replicate]; omega), List.getElem?_replicate, if_pos (by omega)]; rfl
    rw [e]
    unfold pr_kc
    rw [pr_sum_cons (n := 48), pq_sum_eq (g := fun _ => 0) fun u _ => by
      show pr_B b c 0 s (u + 1) * pr_X ^ (u + 1) = 0
      rw [show pr_B b c 0 s (u + 1) = 0 from if_neg (by omega), Nat.zero_mul], pq_sum_zero]
    show _ = pr_B b c 0 s 0 * pr_X ^ 0 + 0
    rw [Nat.pow_zero, Nat.mul_one, Nat.add_zero]
    unfold pr_B
    by_cases q : s = pr_N b c - 1
    · rw [if_pos q, if_pos ⟨q, rfl⟩]
    · rw [if_neg q, if_neg fun x => q x.1]
  | i + 1, hi, s, hs => by
    have hN := pr_N_le o
    have hs' : s < (pq_rows b c).length := hs
    have hm := pr_m_le o hs
    have e1 : (pr_lev (pq_rows b c) (i + 1)).getD s 0 = pr_X ^ pr_m b c s * (pq_sum (pr_N b c) fun r => if pr_LE b c s r then (pr_lev (pq_rows b c) i).getD r 0 else 0) % pr_X ^ 49 := by
      show (pr_stp (pq_rows b c) (pr_lev (pq_rows b c) i)).getD s 0 = _
      unfold pr_stp
      have er : (pq_rows b c)[s] = pq_row b c s := by
        unfold pq_row; rw [List.getD_eq_getElem?_getD, List.getElem?_eq_getElem hs', Option.getD_some]
      rw [List.getD_eq_getElem?_getD, List.getElem?_map, List.getElem?_eq_getElem hs', Option.map_some, Option.getD_some, er, pr_zip_sum _ _ (pr_lev_len _ (by show 1 ≤ pr_N b c; omega) i).symm]
      have em : (pq_row b c s).getD 0 0 + (pq_row b c s).getD 1 0 + (pq_row b c s).getD 2 0 + (pq_row b c s).getD 3 0 = pr_m b c s := by
        unfold pr_m pr_v; simp only [pq_sum, Nat.zero_add]
      rw [em]; rfl
    rw [e1]
    have e2 : (pq_sum (pr_N b c) fun r => if pr_LE b c s r then (pr_lev (pq_rows b c) i).getD r 0 else 0) = pr_kc (fun u => pq_sum (pr_N b c) fun r => if pr_LE b c s r then pr_B b c i r u else 0) 49 := by
      unfold pr_kc
      have : (pq_sum 49 fun u => (pq_sum (pr_N b c) fun r => if pr_LE b c s r then pr_B b c i r u else 0) * pr_X ^ u) = pq_sum 49 fun u => pq_sum (pr_N b c) fun r => (if pr_LE b c s r then pr_B b c i r u else 0) * pr_X ^ u := pq_sum_eq fun u _ => by
        rw [Nat.mul_comm, pq_sum_mul]
        exact pq_sum_eq fun r _ => Nat.mul_comm _ _
      rw [this, pq_sum_swap]
      refine pq_sum_eq fun r hr => ?_
      cases e : pr_LE b c s r
      · rw [if_neg (by decide), pq_sum_eq (g := fun _ => 0) fun u _ => by rw [if_neg (by decide), Nat.zero_mul]]
        exact pq_sum_zero.symm
      · rw [if_pos rfl, pr_lev_B o i (by omega) r hr]
        unfold pr_kc
        exact pq_sum_eq fun u _ => by rw [if_pos rfl]
    rw [e2, ← pr_kc_shift (by omega) fun u _ => by
      have h1 := pq_sum_le (n := pr_N b c) (m := 2 ^ 25) (f := fun r => if pr_LE b c s r then pr_B b c i r u else 0) fun r _ => by
        split
        · exact pr_B_lt o (by omega)
        · exact Nat.zero_le _
      have h2 := Nat.mul_le_mul_right (2 ^ 25) hN.2
      have h3 : 70 * 2 ^ 25 < pr_X := by decide
      omega]
    unfold pr_kc
    refine pq_sum_eq fun u _ => ?_
    congr 1
    rw [pr_B]
    dsimp only
    by_cases e : pr_m b c s ≤ u
    · rw [if_pos e]
      refine pq_sum_eq fun r _ => ?_
      cases q : pr_LE b c s r
      · rw [if_neg (by decide), if_neg (by simp)]
      · rw [if_pos rfl, if_pos ⟨rfl, e⟩]
    · rw [if_neg e, pq_sum_eq (g := fun _ => 0) fun r _ => if_neg fun q => e q.2]
      exact pq_sum_zero.symm
def pr_code (l : List Nat) : Nat := l.foldr (fun x y => x + pr_X * y) 0
theorem pr_code_kc : ∀ (l : List Nat), pr_code l = pr_kc (fun u => l.getD u 0) l.length
  | [] => rfl
  | x :: l => by
    have e := pr_kc_split (f := fun u => (x :: l).getD u 0) 1 l.length
    rw [Nat.add_comm 1] at e
    rw [List.length_cons, e]
    show x + pr_X * pr_code l = _
    rw [pr_code_kc l]
    have e1 : pr_kc (fun u => (x :: l).getD u 0) 1 = x := by simp [pr_kc, pq_sum]
    have e2 : pr_kc (fun u => (fun u => (x :: l).getD u 0) (1 + u)) l.length = pr_kc (fun u => l.getD u 0) l.length := by
      unfold pr_kc
      exact pq_sum_eq fun u _ => by
        dsimp only
        rw [Nat.add_comm 1 u]; rfl
    rw [e1, e2, Nat.pow_one]
/-- THE TWO COUNTS, for each box -/
def pr_ckser (b c : Nat) : Bool := pq_all 4 fun a => !(decide ((a + 1) * b * c ≤ 48)) || (decide ((pr_lev (pq_rows b c) (a + 1)).sum = pr_code (pr_pc b c (a + 1))) && ((pr_pc b c (a + 1)).all (fun x => decide (x < 2 ^ 30)) && ((pr_pc b c (a + 1)).drop ((a + 1) * b * c + 1)).all (fun x => decide (x = 0))))
theorem pr_ser1 : ∀ c, c < 4 → pr_ckser 1 (c + 1) = true := by decide +kernel
theorem pr_ser2 : ∀ c, c < 4 → pr_ckser 2 (c + 1) = true := by decide +kernel
theorem pr_ser3 : ∀ c, c < 4 → pr_ckser 3 (c + 1) = true := by decide +kernel
theorem pr_ser4 : ∀ c, c < 3 → pr_ckser 4 (c + 1) = true := by decide +kernel
theorem pr_ser44 : pr_ckser 4 4 = true := by decide +kernel
theorem pr_ser {b c : Nat} (o : pr_ok b c) {a : Nat} (ha : 1 ≤ a ∧ a ≤ 4) (hm : a * b * c ≤ 48) : (pr_lev (pq_rows b c) a).sum = pr_code (pr_pc b c a) ∧ (pr_pc b c a).all (fun x => decide (x < 2 ^ 30)) = true ∧ ((pr_pc b c a).drop (a * b * c + 1)).all (fun x => decide (x = 0)) = true := by
  have h : pr_ckser b c = true := pr_ball (p := fun b c => pr_ckser b c = true) (fun b hb c hc => by
    have : b = 0 ∨ b = 1 ∨ b = 2 ∨ b = 3 := by omega
    rcases this with rfl | rfl | rfl | rfl
    · exact pr_ser1 c hc
    · exact pr_ser2 c hc
    · exact pr_ser3 c hc
    · by_cases e : c = 3
      · subst e; exact pr_ser44
      · exact pr_ser4 c (by omega)) o
  unfold pr_ckser at h
  rw [pq_all_iff] at h
  obtain ⟨a, rfl⟩ : ∃ x, a = x + 1 := ⟨a - 1, by omega⟩
  have h2 := h a (by omega)
  rw [decide_eq_true hm] at h2
  simp only [Bool.not_true, Bool.false_or, Bool.and_eq_true, decide_eq_true_eq] at h2
  exact h2
theorem pr_lsum : ∀ (l : List Nat), l.sum = pq_sum l.length fun r => l.getD r 0
  | [] => rfl
  | x :: l => by rw [List.sum_cons, pr_lsum l, List.length_cons, pr_sum_cons]; rfl
theorem pr_series {a b c v : Nat} (ha : 1 ≤ a ∧ a ≤ 4) (o : pr_ok b c) (hm : a * b * c ≤ 48) (hv : v < 49) : (pq_sum (pr_N b c) fun r => pr_B b c a r v) = (pr_pc b c a).getD v 0 ∧ (a * b * c < v → (pr_pc b c a).getD v 0 = 0) := by
  have hN := pr_N_le o
  obtain ⟨h1, h2, h3⟩ := pr_ser o ha hm
  have len := (pr_lok_pc (b := b) (c := c) a).1
  have all : ∀ u, (pr_pc b c a).getD u 0 < pr_X := fun u => by
    by_cases e : u < (pr_pc b c a).length
    · have := List.all_eq_true.mp h2 _ (List.getElem_mem e)
      rw [pr_gD e]
      have h4 := of_decide_eq_true this
      have h5 : 2 ^ 30 < pr_X := by decide
      omega
    · rw [List.getD_eq_getElem?_getD, List.getElem?_eq_none (by omega)]; decide
  refine ⟨?_, fun h => ?_⟩
  · rw [pr_lsum, pr_lev_len _ (by show 1 ≤ pr_N b c; omega), pr_code_kc, len] at h1
    have e : (pq_sum (pq_rows b c).length fun r => (pr_lev (pq_rows b c) a).getD r 0) = pr_kc (fun u => pq_sum (pr_N b c) fun r => pr_B b c a r u) 49 := by
      have q : (pq_sum (pq_rows b c).length fun r => (pr_lev (pq_rows b c) a).getD r 0) = pq_sum (pr_N b c) fun r => pr_kc (pr_B b c a r) 49 := pq_sum_eq fun r hr => pr_lev_B o a ha.2 r hr
      rw [q]
      unfold pr_kc
      rw [pq_sum_swap]
      refine pq_sum_eq fun u _ => ?_
      rw [Nat.mul_comm, pq_sum_mul]
      exact pq_sum_eq fun r _ => Nat.mul_comm _ _
    rw [e] at h1
    exact pr_kc_inj (fun u _ => by
      have q1 := pq_sum_le (n := pr_N b c) (m := 2 ^ 25) (f := fun r => pr_B b c a r u) fun r _ => pr_B_lt o ha.2
      have q2 := Nat.mul_le_mul_right (2 ^ 25) hN.2
      have q3 : 70 * 2 ^ 25 < pr_X := by decide
      omega) (fun u _ => all u) h1 v hv
  · have hv' : v < (pr_pc b c a).length := by omega
    rw [pr_gD hv']
    have hmem : (pr_pc b c a)[v] ∈ (pr_pc b c a).drop (a * b * c + 1) := by
      rw [List.mem_iff_getElem]
      refine ⟨v - (a * b * c + 1), by rw [List.length_drop]; omega, ?_⟩
      rw [List.getElem_drop]
      congr 1
      omega
    exact of_decide_eq_true (List.all_eq_true.mp h3 _ hmem)
/-- series(a, b, c, v) -/
theorem pq_s20 (cA : Nat → ClassId) : kl_s20 cA (pq_Inv cA) := by
  intro zx P zm hI a1 a2 a3 a4
  unfold vc_series fm_series
  refine pr_of (fun h0 => ⟨fun _ => ?_, fun _ e => by cases e⟩) (fun a b c bx ha o hm e1 e2 e3 h1 hb => ⟨fun e => (by cases e), fun a3' e => ?_⟩)
  · rw [h0]; exact ⟨_, rfl, rfl, hI⟩
  cases e
  subst e1 e2 e3
  have hIa := pq_Inv_app [((bx, .inr (0, [.int (nI a), .int (nI b), .int (nI c)])) : Nat × va_E)] hI
  rw [h1, Option.bind_some, if_neg kq_10]
  refine ⟨fun c1 => ?_, fun c1 => ?_⟩
  · rw [if_pos c1]
    obtain ⟨v, hv31, rfl⟩ := nI_of (Int32.not_lt.mpr c1)
    -- the reference, for a volume that it counts
    have ref : v < 49 → ∃ z', ((fm_laysRows (nI b) (nI c) zm).bind fun o2 => (lm_series_35 5000 (nI a) (nI b) (nI v) 0 o2).bind fun r3 => (fm_countVolume (r3.1) (r3.2.1) (r3.2.2.1) (r3.2.2.2)).bind fun o4 => some ((o4.1), (o4.2))) = some (nI ((pr_pc b c a).getD v 0), z') ∧ pr_fq [5] [6, 13, 14] zm z' := by
      intro hv
      obtain ⟨z1, l1, l2, l3, _⟩ := pm_laysRows (z := zm) o
      obtain ⟨z2, m1, m2, m3⟩ := pm_seriesRows (A := nI a) (V := nI v) o l2
      obtain ⟨z3, n1, n2⟩ := pm_countVolume (a := a) ha.2 o m2 hv
      rw [l1, Option.bind_some, m1, Option.bind_some]
      dsimp only
      rw [n1, (pr_series ha o hm hv).1]
      exact ⟨_, rfl, pr_fq_t (pr_fq_t (pr_fq_w l3 (by simp) (by simp)) (pr_fq_w m3 (by simp) (by simp))) (pr_fq_w n2 (by simp) (by simp))⟩
    rw [pk_mul, pk_mul]
    have hle : ∀ w, w ≤ 48 → (nI v ≤ nI w ↔ v ≤ w) := fun w hw => nI_leI hv31 (by omega)
    refine ⟨fun c2 => ?_, fun c2 => ?_⟩
    · have hv : v ≤ a * b * c := (hle _ hm).mp c2
      obtain ⟨z', r1, r2, r3, r4⟩ := pr_heapsOfVolume (P := P ++ [((bx, .inr (0, [.int (nI a), .int (nI b), .int (nI c)])) : Nat × va_E)]) (z := zx) (a := a) ha.2 o (show v ≤ 48 by omega)
      refine ⟨_, hb, _, r1, ?_⟩
      dsimp only
      obtain ⟨z2, s1, s2⟩ := ref (by omega)
      rw [if_pos (show nI v ≤ 48 from (hle 48 (by omega)).mpr (by omega)), s1]
      exact ⟨_, rfl, rfl, pr_Inv_m (pr_Inv_x hIa (fun k _ => by rw [r2]) (fun k _ => by rw [r3]) (fun k _ => by rw [r4])) s2 (by decide) (by intro k hk; simp; omega)⟩
    · have hv : ¬ v ≤ a * b * c := mt (hle _ hm).mpr c2
      by_cases c3 : v < 49
      · obtain ⟨z2, s1, s2⟩ := ref c3
        rw [if_pos (show nI v ≤ 48 from (hle 48 (by omega)).mpr (by omega)), s1, (pr_series ha o hm c3).2 (by omega)]
        exact ⟨_, rfl, rfl, pr_Inv_m hIa s2 (by decide) (by intro k hk; simp; omega)⟩
      · rw [if_neg (show ¬ nI v ≤ 48 from mt (hle 48 (by omega)).mp (by omega))]
        exact ⟨_, rfl, rfl, hIa⟩
  · rw [if_neg c1]; exact ⟨_, rfl, rfl, hIa⟩
