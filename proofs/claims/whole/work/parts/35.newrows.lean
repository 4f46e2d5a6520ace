section KNB
variable {p : Program} {l : Launch} {e : Env} {R : Room} {s : State} {m : MethodId} {args : Array Value} {below : List Frame} {meth : Method} {c : Code} {cells slots : Nat} {Q : State → Prop} {cc : ByteArray} {nL : Nat} {Ts : List Cond} {own : String} {ret : Option FieldType} {D : va_G} {tys : List (ClassId × FieldType)} {A : Nat → Prop} {ww : va_W} {pc : Nat} {lv : List (Nat × Value)} {rest : List Value}
theorem kn_newaZ (F : kj_Fx p s m args meth c cc nL Ts own ret D tys A) {n : Int32} {N' : Nat} {cB : ClassId} (hdg : decode cc pc = .ok (.newarray .boolean, 2)) (harr : Cond.arrayClass .boolean ∈ Ts) (t0 : Nat) (ht : tys[t0]? = some (cB, .boolean)) (hn : ¬ n < 0) (hN : n.toNatClampNeg = N') (hb4 : N' ≤ 100000) (hcells : cells + 1 ≤ R.cells) (hslots : slots + N' ≤ R.slots)
    (kk : ∀ q : Nat, (∀ x ∈ ww, x.1 ≠ q) → kj_J p l e R s m args below meth c (cells + 1) (slots + N') Q nL D A (ww ++ [(q, .inl (cB, N', .inl (fun _ => 0)))]) (pc + 2) lv (.ref q :: rest)) : kj_J p l e R s m args below meth c cells slots Q nL D A ww pc lv (.int n :: rest) := by
  obtain ⟨hx, hb, hml, hown, hts, hr, hlocks, hK, hA⟩ := F
  intro H locs ls ⟨hP, hD, hS, hl⟩
  refine va_newa (D := D) (atype := .boolean) (ty := .boolean) (a0 := (N', .inl (fun _ => 0))) hx hb (hts _ harr) rfl hK hP hD hS hA (fun _ => rfl) hn hN (by show N' * 1 ≤ _; omega) hcells hslots hdg (fun q cA' H1 hK1 hP1 hD1 hS1 => ?_)
  have h1 : s.vm.findClass ("[" ++ FieldType.boolean.toString) = some cA' := (hK1.2 tys.length (cA', .boolean) (by simp)).2
  have h2 : s.vm.findClass ("[" ++ FieldType.boolean.toString) = some cB := (hK.2 t0 _ ht).2
  have h3 : cA' = cB := Option.some.inj (h1.symm.trans h2)
  subst h3
  exact kk q (fun x hx => kn_fresh hD1 hx) H1 locs ls ⟨hP1, hD1, hS1, hl⟩
theorem kn_newq (F : kj_Fx p s m args meth c cc nL Ts own ret D tys A) {C : String} (hO : va_AO C s) {index : Nat} {n : Int32} {N' : Nat} {cB : ClassId} (hdg : decode cc pc = .ok (.anewarray index, 3)) (hcl : Cond.classLink own index C ∈ Ts) (t0 : Nat) (ht : tys[t0]? = some (cB, .object C)) (hn : ¬ n < 0) (hN : n.toNatClampNeg = N') (hb4 : N' ≤ 100000) (hcells : cells + 1 ≤ R.cells) (hslots : slots + N' ≤ R.slots)
    (kk : ∀ q : Nat, (∀ x ∈ ww, x.1 ≠ q) → kj_J p l e R s m args below meth c (cells + 1) (slots + N') Q nL D A (ww ++ [(q, .inl (cB, N', .inr (.inr (.inr (.inr (fun _ => none))))))]) (pc + 3) lv (.ref q :: rest)) : kj_J p l e R s m args below meth c cells slots Q nL D A ww pc lv (.int n :: rest) := by
  obtain ⟨hx, hb, hml, hown, hts, hr, hlocks, hK, hA⟩ := F
  intro H locs ls ⟨hP, hD, hS, hl⟩
  refine va_newq (D := D) hx hb hown (hts _ hcl) hO hK hP hD hS hA hn hN (by omega) hcells hslots hdg (fun q cA' H1 hK1 hP1 hD1 hS1 => ?_)
  obtain ⟨_, _, _, _, _, h1⟩ := (hK1.2 tys.length (cA', .object C) (by simp)).2
  obtain ⟨_, _, _, _, _, h2⟩ := (hK.2 t0 _ ht).2
  have h3 : cA' = cB := Option.some.inj (h1.symm.trans h2)
  subst h3
  exact kk q (fun x hx => kn_fresh hD1 hx) H1 locs ls ⟨hP1, hD1, hS1, hl⟩
theorem kj_perm {ww' : va_W} {st : List Value} (is : List Nat) (hn : va_nd is = true) (h : is.map (fun i => ww[i]?) = ww'.map some) (k : kj_J p l e R s m args below meth c cells slots Q nL D A ww' pc lv st) : kj_J p l e R s m args below meth c cells slots Q nL D A ww pc lv st :=
  fun H locs ls ⟨hP, hD, hS, hl⟩ => k H locs ls ⟨fun i q hq => by
    have h1 : (ww'.map some)[i]? = some (some q) := by rw [List.getElem?_map, hq]; rfl
    rw [← h, List.getElem?_map] at h1
    obtain ⟨j, hj, h2⟩ := Option.map_eq_some_iff.mp h1
    exact hP j q h2, hD.sub is hn h, hS, hl⟩
end KNB
theorem kc_at {X L : va_W} {i : Nat} {x : Nat × va_E} (h : L[i]? = some x) : (X ++ L)[X.length + i]? = some x := by
  rw [List.getElem?_append_right (Nat.le_add_right _ _), Nat.add_sub_cancel_left]; exact h
theorem kc_set {X L L' : va_W} {i : Nat} {x : Nat × va_E} (h : L.set i x = L') : (X ++ L).set (X.length + i) x = X ++ L' := by
  rw [List.set_append_right _ _ (Nat.le_add_right _ _), Nat.add_sub_cancel_left, h]
theorem kc_push {X L L' M : va_W} (h : L ++ M = L') : (X ++ L) ++ M = X ++ L' := by rw [List.append_assoc, h]
