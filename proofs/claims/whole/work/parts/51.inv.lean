/-! WHAT BOTH SIDES ARE SAID TO HOLD -/
/-- heights of a heap in a box of sides a, b, c: h (4 i + j) -/
def pq_hv (a b c : Nat) (h : Nat → Nat) : Prop := (1 ≤ a ∧ a ≤ 4) ∧ (1 ≤ b ∧ b ≤ 4) ∧ (1 ≤ c ∧ c ≤ 4) ∧ a * b * c ≤ 48 ∧ ∀ i j, i < 4 → j < 4 → h (4 * i + j) ≤ c ∧ (¬ (i < a ∧ j < b) → h (4 * i + j) = 0) ∧ (i + 1 < 4 → h (4 * (i + 1) + j) ≤ h (4 * i + j)) ∧ (j + 1 < 4 → h (4 * i + (j + 1)) ≤ h (4 * i + j))
/-- the first n heights in one number, four bits each -/
def pq_enc (h : Nat → Nat) : Nat → Nat
  | 0 => 0
  | n + 1 => pq_enc h n * 16 + h n
/-- a place of the class and twenty ints of the reference say the same -/
def pq_blk (P : va_W) (r : Option Nat) (f : Nat → Int32) (off : Nat) : Prop :=
  (r = none ∧ ∀ t, t < 20 → f (off + t) = 0) ∨
  ∃ (a b c : Nat) (h : Nat → Nat) (ad bx : Nat), r = some ad ∧ pq_hv a b c h ∧ kx_hp P ad = some (bx, lN (pq_enc h 16)) ∧ kx_bx P bx = some (nI a, nI b, nI c) ∧ f off = 1 ∧ f (off + 1) = nI a ∧ f (off + 2) = nI b ∧ f (off + 3) = nI c ∧ ∀ t, t < 16 → f (off + 4 + t) = nI (h t)
/-- all rows with b heights of at most c, in their order -/
def pq_rows : Nat → Nat → List (List Nat)
  | 0, _ => [[]]
  | b + 1, c => (List.range (c + 1)).flatMap fun x => (pq_rows b x).map (x :: ·)
def pq_row (b c k : Nat) : List Nat := (pq_rows b c).getD k []
def pq_pack (l : List Nat) : Nat := l.getD 0 0 * 4096 + l.getD 1 0 * 256 + l.getD 2 0 * 16 + l.getD 3 0
def pq_le (s r : List Nat) : Bool := (List.range 4).all fun j => decide (s.getD j 0 ≤ r.getD j 0)
/-- how many heaps of m more rows go on under row k -/
def pq_U (b c : Nat) : Nat → Nat → Nat
  | 0, _ => 1
  | m + 1, k => ((List.range (k + 1)).map fun s => if pq_le (pq_row b c s) (pq_row b c k) then pq_U b c m s else 0).sum
/-- what a Rows of (b, c) holds -/
def pq_rok (b c n : Nat) (r : kr_S) : Prop := n = (pq_rows b c).length ∧ (∀ k, k < n → r.1 k = nI (pq_pack (pq_row b c k))) ∧ ∀ m k, m < 5 → k < n → r.2.1 m k = nI (pq_U b c m k)
/-- the pool: cells, and Rows among them -/
abbrev pq_G : Type := va_W ⊕ (Nat × (Nat → Nat) × Nat × kr_S)
def pq_cells (cA : Nat → ClassId) (g : pq_G) : va_W := match g with
  | .inl w => w
  | .inr x => kr_w cA x.1 x.2.1 x.2.2.1 x.2.2.2
def pq_flat (cA : Nat → ClassId) : List pq_G → va_W
  | [] => []
  | g :: gs => pq_cells cA g ++ pq_flat cA gs
def pq_rws (ra : Nat → Option Nat) (gs : List pq_G) : Prop := ∀ b c, 1 ≤ b → b ≤ 4 → 1 ≤ c → c ≤ 4 → ra ((b - 1) * 4 + c - 1) = none ∨ ∃ (a : Nat) (q : Nat → Nat) (n : Nat) (r : kr_S) (i : Nat), ra ((b - 1) * 4 + c - 1) = some a ∧ gs[i]? = some (.inr (a, q, n, r)) ∧ pq_rok b c n r
def pq_tape (lx : Int32) (bx : Nat → Int32) (lm : Int32) (bm : Nat → Int32) : Prop := ∃ n, n ≤ 60 ∧ lx = nI n ∧ lm = nI n ∧ ∀ i, i < n → ∃ v, v < 256 ∧ bx i = nI v ∧ bm i = nI v
def pq_past (P : va_W) (newest size : Int32) (kept : Nat → Option Nat) (acts : Int32) (past : Nat → Int32) : Prop := ∃ w n, w < 12 ∧ n ≤ 12 ∧ newest = nI w ∧ size = nI n ∧ acts = nI n ∧ ∀ e k, e < n → k < 4 → pq_blk P (kept (4 * ((w + 13 + e - n) % 12) + k)) past (80 * e + 20 * k)
def pq_img (P : va_W) (ik : Nat → Int32) (im : Nat → Option Nat) (mk : Nat → Int32) (mi : Nat → Int32) : Prop := ∀ t, t < 2 → ik t = mk t ∧ (mk t = 0 ∨ (mk t = 1 ∧ ∀ k, k < 4 → pq_blk P (im (4 * t + k)) mi (80 * t + 20 * k)))
/-- THE INVARIANT -/
def pq_Inv (cA : Nat → ClassId) (zx : kx_S) (P : va_W) (zm : km_S) : Prop :=
  (∃ gs, P = pq_flat cA gs ∧ pq_rws (zx.2.2.2 3) gs) ∧ pq_tape (zx.1 4) (zx.2.1 0) (zm.1 1) (zm.2.1 3) ∧ zx.1 0 = zm.1 2 ∧ (∀ k, k < 4 → pq_blk P (zx.2.2.2 0 k) (zm.2.1 0) (20 * k)) ∧ pq_past P (zx.1 7) (zx.1 8) (zx.2.2.2 1) (zm.1 0) (zm.2.1 1) ∧ pq_img P (zx.2.1 4) (zx.2.2.2 2) (zm.2.1 18) (zm.2.1 2)
theorem pq_init (cA : Nat → ClassId) : pq_Inv cA kx_0 [] km_0 :=
  ⟨⟨[], rfl, fun _ _ _ _ _ _ => Or.inl rfl⟩, ⟨0, by decide, rfl, rfl, fun i h => absurd h (by omega)⟩, rfl, fun _ _ => Or.inl ⟨rfl, fun _ _ => rfl⟩, ⟨0, 0, by decide, by decide, rfl, rfl, rfl, fun e k h => absurd h (by omega)⟩, fun _ _ => ⟨rfl, Or.inl rfl⟩⟩
/-- fault() -/
theorem pq_s2 (cA : Nat → ClassId) : kl_s2 cA (pq_Inv cA) := fun zx P zm h _ => ⟨(zx.1 0, zx), rfl, (zm.1 2, zm), rfl, h.2.2.1, h⟩
/-- feed(letter) -/
theorem pq_s0 (cA : Nat → ClassId) : kl_s0 cA (pq_Inv cA) := by
  intro zx P zm ⟨hg, ht, hf, hp, hpa, him⟩ a1
  obtain ⟨n, hn, h1, h2, hb⟩ := id ht
  unfold fc_feed fm_feed fm_in
  by_cases c1 : a1 < 0
  · rw [if_pos c1, if_pos c1]
    exact ⟨_, rfl, _, rfl, rfl, hg, ht, hf, hp, hpa, him⟩
  rw [if_neg c1, if_neg c1]
  by_cases c2 : a1 ≤ 255
  · rw [if_pos c2, if_neg (Int32.not_lt.mpr c2), Option.bind_some, if_neg (by decide)]
    unfold ft_append
    rw [h1, h2]
    by_cases c3 : n = 60
    · subst c3
      rw [if_neg (by decide), if_pos (by decide), Option.bind_some, if_pos rfl]
      exact ⟨_, rfl, _, rfl, rfl, hg, ht, hf, hp, hpa, him⟩
    · have hlt : n < 60 := by omega
      have h60 : ¬ nI n = 60 := fun q => c3 ((nI_eq (b := 60) (by omega) (by decide)).mp q)
      rw [if_pos (show nI n < 60 from nI_lt (b := 60) hlt (by decide)), if_neg h60, kq_xwr (show n < kx_len 0 from hlt) kq_kx, Option.bind_some, kq_wr (show n < km_len 3 from hlt) kq_km, Option.bind_some]
      obtain ⟨v, hv, rfl⟩ := nI_of2 (x := a1) (M := 255) (n := 255) rfl c1 c2
      refine ⟨_, rfl, _, rfl, ?_, hg, ?_, hf, hp, hpa, him⟩
      · show va_up zx.1 4 (zx.1 4 + 1) 4 = va_up zm.1 1 (zm.1 1 + 1) 1
        rw [va_up_self, va_up_self, h1, h2]
      · refine ⟨n + 1, by omega, ?_, ?_, fun i hi => ?_⟩
        · show va_up zx.1 4 (zx.1 4 + 1) 4 = _
          rw [va_up_self, h1]; exact nI_1 n
        · show va_up zm.1 1 (zm.1 1 + 1) 1 = _
          rw [va_up_self, h2]; exact nI_1 n
        · show ∃ v', v' < 256 ∧ va_up zx.2.1 0 (upd (zx.2.1 0) n (nI v)) 0 i = nI v' ∧ va_up zm.2.1 3 (upd (zm.2.1 3) n (nI v)) 3 i = nI v'
          rw [va_up_self, va_up_self]
          by_cases e : i = n
          · subst e
            exact ⟨v, by omega, pk_us, pk_us⟩
          · obtain ⟨w, hw, b1, b2⟩ := hb i (by omega)
            exact ⟨w, hw, by rw [pk_un e]; exact b1, by rw [pk_un e]; exact b2⟩
  · rw [if_neg c2, if_pos (Int32.not_le.mp c2), Option.bind_some, if_pos rfl]
    exact ⟨_, rfl, _, rfl, rfl, hg, ht, hf, hp, hpa, him⟩
