section KR
variable {p : Program} {l : Launch} {e : Env} {R : Room} {s : State} {m : MethodId} {args : Array Value} {below : List Frame} {meth : Method} {c : Code} {cells slots : Nat} {Q : State → Prop} {cc : ByteArray} {nL : Nat} {Ts : List Cond} {own : String} {ret : Option FieldType} {D : va_G} {tys : List (ClassId × FieldType)} {A : Nat → Prop} {ww : va_W} {pc : Nat} {lv : List (Nat × Value)} {rest : List Value} {β : Type} {rr : β}
theorem kj_cast {st : List Value} {ww' : va_W} (h : ww = ww') (k : kj_J p l e R s m args below meth c cells slots Q nL D A ww' pc lv st) : kj_J p l e R s m args below meth c cells slots Q nL D A ww pc lv st := h ▸ k
theorem kj_alen (F : kj_Fx p s m args meth c cc nL Ts own ret D tys A) {a : Nat} {cA : ClassId} {x : vp_A} {ty : FieldType} (hdg : decode cc pc = .ok (.arraylength, 1)) (q0 t0 : Nat) (ha : ww[q0]? = some (a, .inl (cA, x))) (ht : tys[t0]? = some (cA, ty)) (k : kj_J p l e R s m args below meth c cells slots Q nL D A ww (pc + 1) lv (.int (nI x.1) :: rest)) : kj_J p l e R s m args below meth c cells slots Q nL D A ww pc lv (.ref a :: rest) :=
  fun H locs ls h => va_alen (D := D) F.1 F.2.1 F.2.2.2.2.2.2.2.1 h.1 q0 t0 ha ht rfl hdg (k H locs ls h)
theorem kj_aald (F : kj_Fx p s m args meth c cc nL Ts own ret D tys A) {a : Nat} {cA : ClassId} {n : Nat} {f : Nat → Option Nat} {i : Int32} {ty : FieldType} (hdg : decode cc pc = .ok (.aaload, 1)) (q0 t0 : Nat) (ha : ww[q0]? = some (a, .inl (cA, n, .inr (.inr (.inr (.inr f)))))) (ht : tys[t0]? = some (cA, ty)) (hty : ty.isReference = true) (hin : vp_in i n) (k : kj_J p l e R s m args below meth c cells slots Q nL D A ww (pc + 1) lv (va_rf (f i.toNatClampNeg) :: rest)) : kj_J p l e R s m args below meth c cells slots Q nL D A ww pc lv (.int i :: .ref a :: rest) := by
  intro H locs ls h
  have hlt : i.toNatClampNeg < n := Nat.not_le.mp fun q => hin (Or.inr q)
  exact W.aald (v := va_rf (f i.toNatClampNeg)) (ty := ty) F.1 F.2.1 (h.1 q0 _ ha) ((F.2.2.2.2.2.2.2.1.2 t0 _ ht).1 n (fun j => va_rf (f j))) hty (fun q => by cases q) (by show ¬ (i < 0 ∨ (arrV _ _ _).slots.size ≤ _); rw [arrV_size]; exact hin) (by show (arrV _ _ _).slots[_]? = _; rw [arrV_read _ _ hlt]) rfl rfl hdg (k H locs ls h)
theorem kj_aast (F : kj_Fx p s m args meth c cc nL Ts own ret D tys A) {a : Nat} {cA : ClassId} {n : Nat} {f : Nat → Option Nat} {i : Int32} {v : Option Nat} {C : String} {ww' : va_W} (hdg : decode cc pc = .ok (.aastore, 1)) (q0 t0 : Nat) (ha : ww[q0]? = some (a, .inl (cA, n, .inr (.inr (.inr (.inr f)))))) (ht : tys[t0]? = some (cA, .object C)) (hin : vp_in i n) (hv : ∀ x, v = some x → ∃ (qk ci : Nat) (rc : vw_C) (vs : List Value), ww[qk]? = some (x, .inr (ci, vs)) ∧ vwCl[ci]? = some rc ∧ rc.1 = C) (hw : ww.set q0 (a, .inl (cA, n, .inr (.inr (.inr (.inr (va_up f i.toNatClampNeg v)))))) = ww') (k : kj_J p l e R s m args below meth c cells slots Q nL D A ww' (pc + 1) lv rest) : kj_J p l e R s m args below meth c cells slots Q nL D A ww pc lv (va_rf v :: .int i :: .ref a :: rest) := by
  intro H locs ls h
  cases v with
  | none => exact va_astqN (D := D) F.1 F.2.1 F.2.2.2.2.2.2.2.1 h.1 h.2.1 h.2.2.1 q0 t0 ha ht hin hdg (fun H1 locs1 hP hD hS => k H1 locs1 ls ⟨hw ▸ hP, hw ▸ hD, hS, h.2.2.2⟩)
  | some x =>
    obtain ⟨qk, ci, rc, vs, h1, h2, h3⟩ := hv x rfl
    subst h3
    exact va_astq (D := D) F.1 F.2.1 F.2.2.2.2.2.2.2.1 h.1 h.2.1 h.2.2.1 q0 t0 qk ci ha ht h1 h2 hin hdg (fun H1 locs1 hP hD hS => k H1 locs1 ls ⟨hw ▸ hP, hw ▸ hD, hS, h.2.2.2⟩)
theorem kj_ifnull (F : kj_Fx p s m args meth c cc nL Ts own ret D tys A) {v : Option Nat} {off : Int} {tgt : Nat} (hdg : decode cc pc = .ok (.ifnull off, 3)) (ht : (pc : Int) + off = (tgt : Int)) (k1 : v = none → kj_J p l e R s m args below meth c cells slots Q nL D A ww tgt lv rest) (k2 : ∀ a, v = some a → kj_J p l e R s m args below meth c cells slots Q nL D A ww (pc + 3) lv rest) : kj_J p l e R s m args below meth c cells slots Q nL D A ww pc lv (va_rf v :: rest) := by
  intro H locs ls h
  cases v with
  | none => exact lv_ifnullN F.1 F.2.1 hdg ht (k1 rfl H locs ls h)
  | some a => exact lv_ifnull F.1 F.2.1 hdg (k2 a rfl H locs ls h)
theorem kj_ifnonnull (F : kj_Fx p s m args meth c cc nL Ts own ret D tys A) {v : Option Nat} {off : Int} {tgt : Nat} (hdg : decode cc pc = .ok (.ifnonnull off, 3)) (ht : (pc : Int) + off = (tgt : Int)) (k1 : v = none → kj_J p l e R s m args below meth c cells slots Q nL D A ww (pc + 3) lv rest) (k2 : ∀ a, v = some a → kj_J p l e R s m args below meth c cells slots Q nL D A ww tgt lv rest) : kj_J p l e R s m args below meth c cells slots Q nL D A ww pc lv (va_rf v :: rest) := by
  intro H locs ls h
  cases v with
  | none => exact lv_ifnonnullN F.1 F.2.1 hdg (k1 rfl H locs ls h)
  | some a => exact lv_ifnonnull F.1 F.2.1 hdg ht (k2 a rfl H locs ls h)
theorem kj_aloadq_n (F : kj_Fx p s m args meth c cc nL Ts own ret D tys A) {kk : Fin 4} {i : Nat} {v : Option Nat} (hdg : decode cc pc = .ok (.aload_n kk, 1)) (j : Nat) (hj : lv[j]? = some (i, va_rf v)) (hi : (kk : Nat) = i) (k : kj_J p l e R s m args below meth c cells slots Q nL D A ww (pc + 1) lv (va_rf v :: rest)) : kj_J p l e R s m args below meth c cells slots Q nL D A ww pc lv rest := by
  intro H locs ls h
  cases v with
  | none => exact lv_aload_nN F.1 F.2.1 hdg hi (lv_at h.2.2.2 j hj) (k H locs ls h)
  | some a => exact lv_aload_n F.1 F.2.1 hdg hi (lv_at h.2.2.2 j hj) (k H locs ls h)
theorem kj_aloadq (F : kj_Fx p s m args meth c cc nL Ts own ret D tys A) {i : Nat} {v : Option Nat} (hdg : decode cc pc = .ok (.aload i, 2)) (j : Nat) (hj : lv[j]? = some (i, va_rf v)) (k : kj_J p l e R s m args below meth c cells slots Q nL D A ww (pc + 2) lv (va_rf v :: rest)) : kj_J p l e R s m args below meth c cells slots Q nL D A ww pc lv rest := by
  intro H locs ls h
  cases v with
  | none => exact lv_aloadN F.1 F.2.1 hdg (lv_at h.2.2.2 j hj) (k H locs ls h)
  | some a => exact lv_aload F.1 F.2.1 hdg (lv_at h.2.2.2 j hj) (k H locs ls h)
theorem kj_astoreq_n (F : kj_Fx p s m args meth c cc nL Ts own ret D tys A) {kk : Fin 4} {i : Nat} {v : Option Nat} {lv' : List (Nat × Value)} (hdg : decode cc pc = .ok (.astore_n kk, 1)) (hi : (kk : Nat) = i) (hn : i < nL) (hl : (i, va_rf v) :: lv.filter (fun q => !(q.1 == i) && !(q.1 + 1 == i && q.2.category == 2)) = lv') (k : kj_J p l e R s m args below meth c cells slots Q nL D A ww (pc + 1) lv' rest) : kj_J p l e R s m args below meth c cells slots Q nL D A ww pc lv (va_rf v :: rest) := by
  intro H locs ls h
  cases v with
  | none => exact lv_astore_nN F.1 F.2.1 hdg hi h.2.2.2 hn hl (fun ls' hl' => k H locs ls' ⟨h.1, h.2.1, h.2.2.1, hl'⟩)
  | some a => exact lv_astore_n F.1 F.2.1 hdg hi h.2.2.2 hn hl (fun ls' hl' => k H locs ls' ⟨h.1, h.2.1, h.2.2.1, hl'⟩)
theorem kj_astoreq (F : kj_Fx p s m args meth c cc nL Ts own ret D tys A) {i : Nat} {v : Option Nat} {lv' : List (Nat × Value)} (hdg : decode cc pc = .ok (.astore i, 2)) (hn : i < nL) (hl : (i, va_rf v) :: lv.filter (fun q => !(q.1 == i) && !(q.1 + 1 == i && q.2.category == 2)) = lv') (k : kj_J p l e R s m args below meth c cells slots Q nL D A ww (pc + 2) lv' rest) : kj_J p l e R s m args below meth c cells slots Q nL D A ww pc lv (va_rf v :: rest) := by
  intro H locs ls h
  cases v with
  | none => exact lv_astoreN F.1 F.2.1 hdg h.2.2.2 hn hl (fun ls' hl' => k H locs ls' ⟨h.1, h.2.1, h.2.2.1, hl'⟩)
  | some a => exact lv_astore F.1 F.2.1 hdg h.2.2.2 hn hl (fun ls' hl' => k H locs ls' ⟨h.1, h.2.1, h.2.2.1, hl'⟩)
end KR
def kj_Qq {S : Type} (D : va_G) (tys : List (ClassId × FieldType)) (A : Nat → Prop) (w : S → va_W) (o : Option Nat × S) : Array Value → State → Outcome → State → Prop := va_Qq (fun (r : Option Nat) (u : S) => r = o.1 ∧ u = o.2) (fun u => kj_post D tys A (w u)) A
def kj_Mq {S : Type} (l : Launch) (y : MethodName) (ws : List Cond) (rm : Room) (D : va_G) (tys : List (ClassId × FieldType)) (w : S → va_W) (z : S) (av : List Value) (o : Option Nat × S) : Prop :=
  ∀ sz, Met l y ws rm (va_Pc av (kj_pre D tys (w z) sz)) (kj_Qq D tys (va_A (w z) sz) w o) 0 0 (va_A (w z) sz)
section KRC
variable {p : Program} {l : Launch} {e : Env} {R : Room} {s : State} {m : MethodId} {args : Array Value} {below : List Frame} {meth : Method} {c : Code} {cells slots : Nat} {Q : State → Prop} {cc : ByteArray} {nL : Nat} {Ts : List Cond} {own : String} {ret : Option FieldType} {D : va_G} {tys : List (ClassId × FieldType)} {A : Nat → Prop} {pc : Nat} {lv : List (Nat × Value)} {rest : List Value} {S : Type} {w : S → va_W} {z : S}
theorem kj_aret {v : Option Nat} {o : Option Nat × S} {n : String} (F : kj_Fx p s m args meth c cc nL Ts own (some (.object n)) D tys A) (hdg : decode cc pc = .ok (.areturn, 1)) (h : some (v, z) = some o) :
    kj_J p l e R s m args below meth c cells slots (MQ below (kj_Qq D tys A w o) args s cells slots A) nL D A (w z) pc lv [va_rf v] := by
  cases h
  obtain ⟨hx, hb, hml, hown, hts, hr, hlocks, hK, hA⟩ := F
  exact fun H locs ls ⟨hP, hD, hS, hl⟩ => W.aret (v := va_rf v) hx hb hr (Or.inl ⟨n, rfl⟩) (by cases v with | none => exact Or.inl rfl | some a => exact Or.inr ⟨a, rfl⟩) (fun t ht hW => ⟨⟨v, z, rfl, ⟨rfl, rfl⟩, by rw [ht]; exact hP, va_K.moved hW.alike hK, hD⟩, hS.F ht⟩) hS.2.2 hdg
variable {y : MethodName} {bytes : ByteArray} {maxL n index : Nat} {retC : Option FieldType} {wsC : List Cond} {rmC : Room} {C : String} {b ci : Nat} {qC : vw_C} {fs As st : List Value} {β : Type} {rr : β}
theorem kj_cVq (F : kj_Fx p s m args meth c cc nL Ts own ret D tys A) {g : Option (Option Nat × S)} {f : Option Nat × S → Option β} (hdg : decode cc pc = .ok (.invokevirtual index, 3)) (h0 : g.bind f = some rr) (hM : ∀ o, g = some o → kj_Mq l y wsC rmC D tys w z (.ref b :: As) o) (cw : CallW R s args own C index y bytes maxL retC wsC rmC 0 0 n) (q0 : Nat) (he : (w z)[q0]? = some (b, .inr (ci, fs))) (hc : vwCl[ci]? = some qC) (hq : qC.1 = C) (hn : As.length = n) (hst : st = As.reverse ++ .ref b :: rest) (hm : (rest.map fun v => v.category).sum ≤ 8) (hf : cells ≤ R.cells ∧ slots ≤ R.slots) (k : ∀ o, f o = some rr → kj_J p l e R s m args below meth c cells slots Q nL D A (w o.2) (pc + 3) lv (va_rf o.1 :: rest)) : kj_J p l e R s m args below meth c cells slots Q nL D A (w z) pc lv st := by
  refine kj_bn h0 fun o hg h => ?_
  obtain ⟨hx, hb, hml, hown, hts, hr, hlocks, hK, hA⟩ := F
  intro H locs ls ⟨hP, hD, hS, hl⟩
  refine va_callq (va_runV (As := As) (rest := rest) ⟨hx, hb, hml, hown, hts⟩ (hM o hg H.size) cw (kj_preV hK hP hD hc hq he) rfl hn hl.1 hst (lv_room hm) hdg hf) hS (fun q _ h => kj_back hD hS hA q h) (kj_back hD hS hA) (fun r u t H1 locs1 ht hvm hw hB hz1 hk1 hS1 => ?_)
  obtain ⟨rfl, rfl⟩ := hw
  obtain ⟨hP1, hK1, hD1⟩ := hB
  rw [ht] at hP1
  exact k _ h H1 locs1 ls ⟨hP1, hD1.weaken (fun _ _ _ q => kj_back hD hS hA _ q), hS1, hl⟩
theorem kj_cSq (F : kj_Fx p s m args meth c cc nL Ts own ret D tys A) {g : Option (Option Nat × S)} {f : Option Nat × S → Option β} (hdg : decode cc pc = .ok (.invokestatic index, 3)) (h0 : g.bind f = some rr) (hM : ∀ o, g = some o → kj_Mq l y wsC rmC D tys w z As o) (cw : CallB R s args own index y bytes maxL retC wsC rmC 0 0 n ∧ (Cond.static y).before args s = true) (hn : As.length = n) (hst : st = As.reverse ++ rest) (hm : (rest.map fun v => v.category).sum ≤ 8) (hf : cells ≤ R.cells ∧ slots ≤ R.slots) (k : ∀ o, f o = some rr → kj_J p l e R s m args below meth c cells slots Q nL D A (w o.2) (pc + 3) lv (va_rf o.1 :: rest)) : kj_J p l e R s m args below meth c cells slots Q nL D A (w z) pc lv st := by
  refine kj_bn h0 fun o hg h => ?_
  obtain ⟨hx, hb, hml, hown, hts, hr, hlocks, hK, hA⟩ := F
  intro H locs ls ⟨hP, hD, hS, hl⟩
  refine va_callq (va_runS (As := As) (rest := rest) ⟨hx, hb, hml, hown, hts⟩ (hM o hg H.size) cw (kj_preS hK hP hD) rfl hn hl.1 hst (lv_room hm) hdg hf) hS (fun q _ h => kj_back hD hS hA q h) (kj_back hD hS hA) (fun r u t H1 locs1 ht hvm hw hB hz1 hk1 hS1 => ?_)
  obtain ⟨rfl, rfl⟩ := hw
  obtain ⟨hP1, hK1, hD1⟩ := hB
  rw [ht] at hP1
  exact k _ h H1 locs1 ls ⟨hP1, hD1.weaken (fun _ _ _ q => kj_back hD hS hA _ q), hS1, hl⟩
end KRC
