section KNA
variable {p : Program} {l : Launch} {e : Env} {R : Room} {s : State} {m : MethodId} {args : Array Value} {below : List Frame} {meth : Method} {c : Code} {cells slots : Nat} {Q : State → Prop} {cc : ByteArray} {nL : Nat} {Ts : List Cond} {own : String} {ret : Option FieldType} {D : va_G} {tys : List (ClassId × FieldType)} {A : Nat → Prop} {ww : va_W} {pc : Nat} {lv : List (Nat × Value)} {rest : List Value}
theorem kn_fresh {x : Nat × va_E} {q : Nat} {e1 : va_E} (hD1 : va_D A (ww ++ [(q, e1)])) (hx : x ∈ ww) : x.1 ≠ q := by
  intro e
  obtain ⟨i, hi⟩ := List.getElem?_of_mem hx
  have h1 : (ww ++ [(q, e1)])[i]? = some x := by rw [List.getElem?_append_left (List.getElem?_eq_some_iff.mp hi).1]; exact hi
  have h2 : (ww ++ [(q, e1)])[ww.length]? = some (q, e1) := by simp
  have h3 := hD1.1 i ww.length x _ h1 h2 e
  have h4 := (List.getElem?_eq_some_iff.mp hi).1
  omega
theorem kn_newaI (F : kj_Fx p s m args meth c cc nL Ts own ret D tys A) {n : Int32} {N' : Nat} {cB : ClassId} (hdg : decode cc pc = .ok (.newarray .int, 2)) (harr : Cond.arrayClass .int ∈ Ts) (t0 : Nat) (ht : tys[t0]? = some (cB, .int)) (hn : ¬ n < 0) (hN : n.toNatClampNeg = N') (hb4 : N' ≤ 100000) (hcells : cells + 1 ≤ R.cells) (hslots : slots + N' ≤ R.slots)
    (kk : ∀ q : Nat, (∀ x ∈ ww, x.1 ≠ q) → kj_J p l e R s m args below meth c (cells + 1) (slots + N') Q nL D A (ww ++ [(q, .inl (cB, N', .inl (fun _ => 0)))]) (pc + 2) lv (.ref q :: rest)) : kj_J p l e R s m args below meth c cells slots Q nL D A ww pc lv (.int n :: rest) := by
  obtain ⟨hx, hb, hml, hown, hts, hr, hlocks, hK, hA⟩ := F
  intro H locs ls ⟨hP, hD, hS, hl⟩
  refine va_newa (D := D) (atype := .int) (ty := .int) (a0 := (N', .inl (fun _ => 0))) hx hb (hts _ harr) rfl hK hP hD hS hA (fun _ => rfl) hn hN (by show N' * 4 ≤ _; omega) hcells hslots hdg (fun q cA' H1 hK1 hP1 hD1 hS1 => ?_)
  have h1 : s.vm.findClass ("[" ++ FieldType.int.toString) = some cA' := (hK1.2 tys.length (cA', .int) (by simp)).2
  have h2 : s.vm.findClass ("[" ++ FieldType.int.toString) = some cB := (hK.2 t0 _ ht).2
  have h3 : cA' = cB := Option.some.inj (h1.symm.trans h2)
  subst h3
  exact kk q (fun x hx => kn_fresh hD1 hx) H1 locs ls ⟨hP1, hD1, hS1, hl⟩
theorem kn_newaL (F : kj_Fx p s m args meth c cc nL Ts own ret D tys A) {n : Int32} {N' : Nat} {cB : ClassId} (hdg : decode cc pc = .ok (.newarray .long, 2)) (harr : Cond.arrayClass .long ∈ Ts) (t0 : Nat) (ht : tys[t0]? = some (cB, .long)) (hn : ¬ n < 0) (hN : n.toNatClampNeg = N') (hb4 : N' ≤ 100000) (hcells : cells + 1 ≤ R.cells) (hslots : slots + N' ≤ R.slots)
    (kk : ∀ q : Nat, (∀ x ∈ ww, x.1 ≠ q) → kj_J p l e R s m args below meth c (cells + 1) (slots + N') Q nL D A (ww ++ [(q, .inl (cB, N', .inr (.inl (fun _ => 0))))]) (pc + 2) lv (.ref q :: rest)) : kj_J p l e R s m args below meth c cells slots Q nL D A ww pc lv (.int n :: rest) := by
  obtain ⟨hx, hb, hml, hown, hts, hr, hlocks, hK, hA⟩ := F
  intro H locs ls ⟨hP, hD, hS, hl⟩
  refine va_newa (D := D) (atype := .long) (ty := .long) (a0 := (N', .inr (.inl (fun _ => 0)))) hx hb (hts _ harr) rfl hK hP hD hS hA (fun _ => rfl) hn hN (by show N' * 8 ≤ _; omega) hcells hslots hdg (fun q cA' H1 hK1 hP1 hD1 hS1 => ?_)
  have h1 : s.vm.findClass ("[" ++ FieldType.long.toString) = some cA' := (hK1.2 tys.length (cA', .long) (by simp)).2
  have h2 : s.vm.findClass ("[" ++ FieldType.long.toString) = some cB := (hK.2 t0 _ ht).2
  have h3 : cA' = cB := Option.some.inj (h1.symm.trans h2)
  subst h3
  exact kk q (fun x hx => kn_fresh hD1 hx) H1 locs ls ⟨hP1, hD1, hS1, hl⟩
theorem kn_mna (F : kj_Fx p s m args meth c cc nL Ts own ret D tys A) (hO : va_AOA .int s) {index : Nat} {k : Int32} {K' : Nat} {cB cC : ClassId} (hdg : decode cc pc = .ok (.multianewarray index 2, 4)) (hcl : Cond.classLink own index "[[I" ∈ Ts) (harr : Cond.arrayClass .int ∈ Ts) (t0 : Nat) (ht : tys[t0]? = some (cB, .int)) (t1 : Nat) (ht1 : tys[t1]? = some (cC, .array .int)) (hk : ¬ k < 0) (hM : k.toNatClampNeg = K') (hb4 : K' ≤ 10000) (hcells : cells + 6 ≤ R.cells) (hslots : slots + (5 + 5 * K') ≤ R.slots)
    (kk : ∀ (q : Nat) (r : Nat → Nat), kj_J p l e R s m args below meth c (cells + 6) (slots + (5 + 5 * K')) Q nL D A (ww ++ [(q, .inl (cC, 5, .inr (.inr (.inr (.inr (fun i => if i < 5 then some (r i) else none)))))), (r 0, .inl (cB, K', .inl (fun _ => 0))), (r 1, .inl (cB, K', .inl (fun _ => 0))), (r 2, .inl (cB, K', .inl (fun _ => 0))), (r 3, .inl (cB, K', .inl (fun _ => 0))), (r 4, .inl (cB, K', .inl (fun _ => 0)))]) (pc + 4) lv (.ref q :: rest)) : kj_J p l e R s m args below meth c cells slots Q nL D A ww pc lv (.int k :: .int 5 :: rest) := by
  obtain ⟨hx, hb, hml, hown, hts, hr, hlocks, hK, hA⟩ := F
  intro H locs ls ⟨hP, hD, hS, hl⟩
  have h2 : s.vm.findClass (FieldType.array .int).toString = some cB := (hK.2 t0 _ ht).2
  have hP0 : va_P D vwCl (ww ++ va_pl [] (fun _ => .inr (0, []))) H := by simpa [va_pl] using hP
  have hD0 : va_D A (ww ++ va_pl [] (fun _ => .inr (0, []))) := by simpa [va_pl] using hD
  refine va_mna (D := D) (X := ww) (L := []) (f := fun _ => .inr (0, [])) (ty := .int) (N' := 5) (K' := K') (z := (K', .inl (fun _ => 0))) hx hb hown (hts _ hcl) hO (hts _ harr) h2 hK hP0 hD0 hS hA (by decide) hk (by decide) hM (by decide) (by show K' * 4 ≤ _; omega) (by omega) rfl rfl (by omega) (by omega) (fun c9 => (arrV_new c9 K' (Value.int 0)).trans rfl) hdg (fun q r cA' H1 hinj hfr hK1 hP1 hD1 hS1 => ?_)
  have h4 : s.vm.findClass ("[" ++ (FieldType.array .int).toString) = some cA' := (hK1.2 tys.length (cA', .array .int) (by simp)).2
  have h5 : s.vm.findClass ("[" ++ (FieldType.array .int).toString) = some cC := (hK.2 t1 _ ht1).2
  have h3 : cA' = cC := Option.some.inj (h4.symm.trans h5)
  subst h3
  have e1 : (ww ++ [((q, .inl (cA', 5, .inr (.inr (.inr (.inr (fun i => if i < 5 then some (r i) else none)))))) : Nat × va_E)]) ++ va_pl ([] ++ (List.range 5).map r) (vr_up (fun _ => .inr (0, [])) ((List.range 5).map r) (.inl (cB, (K', .inl (fun _ => 0))))) = ww ++ [(q, .inl (cA', 5, .inr (.inr (.inr (.inr (fun i => if i < 5 then some (r i) else none)))))), (r 0, .inl (cB, K', .inl (fun _ => 0))), (r 1, .inl (cB, K', .inl (fun _ => 0))), (r 2, .inl (cB, K', .inl (fun _ => 0))), (r 3, .inl (cB, K', .inl (fun _ => 0))), (r 4, .inl (cB, K', .inl (fun _ => 0)))] := by
    have e2 : (List.range 5).map r = [r 0, r 1, r 2, r 3, r 4] := rfl
    rw [e2]
    simp [va_pl, vr_up]
  rw [e1] at hP1 hD1
  have k1 := kk q r H1 locs ls ⟨hP1, hD1, hS1, hl⟩
  have e3 : cells + 1 + 5 = cells + 6 := rfl
  have e4 : slots + 5 + 5 * K' = slots + (5 + 5 * K') := Nat.add_assoc _ _ _
  rw [e4]
  exact k1
end KNA
