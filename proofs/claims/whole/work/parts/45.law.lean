/-! A CALL WITHIN A LARGER WORLD: the callee's cells, and others beside them -/
theorem kl_sufP {D : va_G} {cl : List vw_C} {M ww : va_W} {H : Heap} (h : va_P D cl (M ++ ww) H) : va_P D cl ww H := fun k q hk => h (M.length + k) q (by rw [List.getElem?_append_right (Nat.le_add_right _ _), Nat.add_sub_cancel_left]; exact hk)
theorem kl_preP {D : va_G} {cl : List vw_C} {M ww : va_W} {H : Heap} (h : va_P D cl (M ++ ww) H) : va_P D cl M H := fun k q hk => h k q (by rw [List.getElem?_append_left (List.getElem?_eq_some_iff.mp hk).1]; exact hk)
theorem kl_sufD {A : Nat → Prop} {M ww : va_W} (h : va_D A (M ++ ww)) : va_D A ww := by
  have e : ∀ (k : Nat) (q : Nat × va_E), ww[k]? = some q → (M ++ ww)[M.length + k]? = some q := fun k q hk => by rw [List.getElem?_append_right (Nat.le_add_right _ _), Nat.add_sub_cancel_left]; exact hk
  exact ⟨fun i j p q hi hj he => by have := h.1 _ _ p q (e i p hi) (e j q hj) he; omega, fun k q hk => h.2 _ q (e k q hk)⟩
theorem kl_preD {A : Nat → Prop} {M ww : va_W} (h : va_D A (M ++ ww)) : va_D A M := by
  have e : ∀ (k : Nat) (q : Nat × va_E), M[k]? = some q → (M ++ ww)[k]? = some q := fun k q hk => by rw [List.getElem?_append_left (List.getElem?_eq_some_iff.mp hk).1]; exact hk
  exact ⟨fun i j p q hi hj he => h.1 _ _ p q (e i p hi) (e j q hj) he, fun k q hk => h.2 _ q (e k q hk)⟩
theorem kl_dis {A : Nat → Prop} {M ww : va_W} (h : va_D A (M ++ ww)) {i j : Nat} {p q : Nat × va_E} (hi : M[i]? = some p) (hj : ww[j]? = some q) : p.1 ≠ q.1 := by
  intro e
  have h1 : (M ++ ww)[i]? = some p := by rw [List.getElem?_append_left (List.getElem?_eq_some_iff.mp hi).1]; exact hi
  have h2 : (M ++ ww)[M.length + j]? = some q := by rw [List.getElem?_append_right (Nat.le_add_right _ _), Nat.add_sub_cancel_left]; exact hj
  have h3 := h.1 _ _ p q h1 h2 e
  have h4 := (List.getElem?_eq_some_iff.mp hi).1
  omega
theorem kl_joinS {A : Nat → Prop} {D : va_G} {cl : List vw_C} {M ww w1 : va_W} {H H1 : Heap} (hP : va_P D cl (M ++ ww) H) (hD : va_D A (M ++ ww)) (hk : ∀ q : Nat, q < H.size → ¬ va_A ww H.size q → H1[q]? = H[q]?) (hF : ∀ q, va_A ww H.size q → A q) (hP1 : va_P D cl w1 H1) (hD1 : va_D (va_A ww H.size) w1) : va_P D cl (M ++ w1) H1 ∧ va_D A (M ++ w1) := by
  have hn : ∀ (k : Nat) (q : Nat × va_E), M[k]? = some q → q.1 < H.size ∧ ¬ va_A ww H.size q.1 := by
    intro k q hq
    have h1 : q.1 < H.size := (kl_preP hP k q hq).lt
    refine ⟨h1, fun ha => ?_⟩
    rcases ha with ⟨j, e, hj⟩ | ha
    · exact kl_dis hD hq hj rfl
    · omega
  refine ⟨((kl_preP hP).kept (fun k q hq => hk q.1 (hn k q hq).1 (hn k q hq).2)).app hP1, va_D.app (kl_preD hD) (hD1.weaken (fun _ _ _ h => hF _ h)) (fun i j p q hp hq e => (hn i p hp).2 (by rw [e]; exact hD1.2 j q hq))⟩
theorem kl_joinP {A : Nat → Prop} {D : va_G} {cl : List vw_C} {M ww w1 : va_W} {H H1 : Heap} (hP : va_P D cl (ww ++ M) H) (hD : va_D A (ww ++ M)) (hk : ∀ q : Nat, q < H.size → ¬ va_A ww H.size q → H1[q]? = H[q]?) (hF : ∀ q, va_A ww H.size q → A q) (hP1 : va_P D cl w1 H1) (hD1 : va_D (va_A ww H.size) w1) : va_P D cl (w1 ++ M) H1 ∧ va_D A (w1 ++ M) := by
  have hn : ∀ (k : Nat) (q : Nat × va_E), M[k]? = some q → q.1 < H.size ∧ ¬ va_A ww H.size q.1 := by
    intro k q hq
    have h1 : q.1 < H.size := (kl_sufP hP k q hq).lt
    refine ⟨h1, fun ha => ?_⟩
    rcases ha with ⟨j, e, hj⟩ | ha
    · exact kl_dis hD hj hq rfl
    · omega
  refine ⟨hP1.app ((kl_sufP hP).kept (fun k q hq => hk q.1 (hn k q hq).1 (hn k q hq).2)), va_D.app (hD1.weaken (fun _ _ _ h => hF _ h)) (kl_sufD hD) (fun i j p q hp hq e => (hn j q hq).2 (by rw [← e]; exact hD1.2 i p hp))⟩
section KL
variable {p : Program} {l : Launch} {e : Env} {R : Room} {s : State} {m : MethodId} {args : Array Value} {below : List Frame} {meth : Method} {c : Code} {cells slots : Nat} {Q : State → Prop} {cc : ByteArray} {nL : Nat} {Ts : List Cond} {own : String} {ret : Option FieldType} {D : va_G} {tys tysC : List (ClassId × FieldType)} {A : Nat → Prop} {M ww : va_W} {pc : Nat} {lv : List (Nat × Value)} {rest : List Value} {S : Type} {w : S → va_W} {z : S} {y : MethodName} {bytes : ByteArray} {maxL n index : Nat} {retC : Option FieldType} {wsC : List Cond} {rmC : Room} {C : String} {b ci : Nat} {qC : vw_C} {fs As st : List Value}
theorem kl_xwi (F : kj_Fx p s m args meth c cc nL Ts own ret D tys A) {Post : Int32 → S → Prop} (hN : kn_N s) (hM : kn_Mi l y wsC rmC D tys w ww (.ref b :: As) Post) (hdg : decode cc pc = .ok (.invokevirtual index, 3)) (cw : CallW R s args own C index y bytes maxL retC wsC rmC rmC.cells rmC.slots n) (q0 : Nat) (he : ww[q0]? = some (b, .inr (ci, fs))) (hc : vwCl[ci]? = some qC) (hq : qC.1 = C) (hn : As.length = n) (hst : st = As.reverse ++ .ref b :: rest) (hm : (rest.map fun v => v.category).sum ≤ 8) (hf : cells + rmC.cells ≤ R.cells ∧ slots + rmC.slots ≤ R.slots) (k : ∀ (r : Int32) (u : S), Post r u → kj_J p l e R s m args below meth c (cells + rmC.cells) (slots + rmC.slots) Q nL D A (M ++ w u) (pc + 3) lv (.int r :: rest)) : kj_J p l e R s m args below meth c cells slots Q nL D A (M ++ ww) pc lv st := by
  obtain ⟨hx, hb, hml, hown, hts, hr, hlocks, hK, hA⟩ := F
  intro H locs ls ⟨hP, hD, hS, hl⟩
  have hP0 := kl_sufP hP
  have hD0 := kl_sufD hD
  refine va_calli (va_runV (As := As) (rest := rest) ⟨hx, hb, hml, hown, hts⟩ (hM H.size) cw (kn_preV hK hN hP0 hD0 hc hq he) rfl hn hl.1 hst (lv_room hm) hdg hf) hS (fun q _ h => kj_back hD0 hS hA q h) (kj_back hD0 hS hA) (fun r u t H1 locs1 ht hvm hw hB hz1 hk1 hS1 => ?_)
  obtain ⟨hP1, hK1, hD1⟩ := hB
  rw [ht] at hP1
  obtain ⟨hP2, hD2⟩ := kl_joinS hP hD hk1 (kj_back hD0 hS hA) hP1 hD1
  exact k r u hw H1 locs1 ls ⟨hP2, hD2, hS1, hl⟩
theorem kl_xwl (F : kj_Fx p s m args meth c cc nL Ts own ret D tys A) {Post : Int64 → S → Prop} (hN : kn_N s) (hM : kn_Ml l y wsC rmC D tys w ww (.ref b :: As) Post) (hdg : decode cc pc = .ok (.invokevirtual index, 3)) (cw : CallW R s args own C index y bytes maxL retC wsC rmC rmC.cells rmC.slots n) (q0 : Nat) (he : ww[q0]? = some (b, .inr (ci, fs))) (hc : vwCl[ci]? = some qC) (hq : qC.1 = C) (hn : As.length = n) (hst : st = As.reverse ++ .ref b :: rest) (hm : (rest.map fun v => v.category).sum ≤ 8) (hf : cells + rmC.cells ≤ R.cells ∧ slots + rmC.slots ≤ R.slots) (k : ∀ (r : Int64) (u : S), Post r u → kj_J p l e R s m args below meth c (cells + rmC.cells) (slots + rmC.slots) Q nL D A (M ++ w u) (pc + 3) lv (.long r :: rest)) : kj_J p l e R s m args below meth c cells slots Q nL D A (M ++ ww) pc lv st := by
  obtain ⟨hx, hb, hml, hown, hts, hr, hlocks, hK, hA⟩ := F
  intro H locs ls ⟨hP, hD, hS, hl⟩
  have hP0 := kl_sufP hP
  have hD0 := kl_sufD hD
  refine va_calll (va_runV (As := As) (rest := rest) ⟨hx, hb, hml, hown, hts⟩ (hM H.size) cw (kn_preV hK hN hP0 hD0 hc hq he) rfl hn hl.1 hst (lv_room hm) hdg hf) hS (fun q _ h => kj_back hD0 hS hA q h) (kj_back hD0 hS hA) (fun r u t H1 locs1 ht hvm hw hB hz1 hk1 hS1 => ?_)
  obtain ⟨hP1, hK1, hD1⟩ := hB
  rw [ht] at hP1
  obtain ⟨hP2, hD2⟩ := kl_joinS hP hD hk1 (kj_back hD0 hS hA) hP1 hD1
  exact k r u hw H1 locs1 ls ⟨hP2, hD2, hS1, hl⟩
theorem kl_xoi (F : kj_Fx p s m args meth c cc nL Ts own ret D tys A) {o : Int32 × S} (hM : kj_Mi l y wsC rmC D tys w z (.ref b :: As) o) (hdg : decode cc pc = .ok (.invokevirtual index, 3)) (cw : CallW R s args own C index y bytes maxL retC wsC rmC 0 0 n) (q0 : Nat) (he : (w z)[q0]? = some (b, .inr (ci, fs))) (hc : vwCl[ci]? = some qC) (hq : qC.1 = C) (hn : As.length = n) (hst : st = As.reverse ++ .ref b :: rest) (hm : (rest.map fun v => v.category).sum ≤ 8) (hf : cells ≤ R.cells ∧ slots ≤ R.slots) (k : kj_J p l e R s m args below meth c cells slots Q nL D A (M ++ w o.2) (pc + 3) lv (.int o.1 :: rest)) : kj_J p l e R s m args below meth c cells slots Q nL D A (M ++ w z) pc lv st := by
  obtain ⟨hx, hb, hml, hown, hts, hr, hlocks, hK, hA⟩ := F
  intro H locs ls ⟨hP, hD, hS, hl⟩
  have hP0 := kl_sufP hP
  have hD0 := kl_sufD hD
  refine va_calli (va_runV (As := As) (rest := rest) ⟨hx, hb, hml, hown, hts⟩ (hM H.size) cw (kj_preV hK hP0 hD0 hc hq he) rfl hn hl.1 hst (lv_room hm) hdg hf) hS (fun q _ h => kj_back hD0 hS hA q h) (kj_back hD0 hS hA) (fun r u t H1 locs1 ht hvm hw hB hz1 hk1 hS1 => ?_)
  obtain ⟨rfl, rfl⟩ := hw
  obtain ⟨hP1, hK1, hD1⟩ := hB
  rw [ht] at hP1
  obtain ⟨hP2, hD2⟩ := kl_joinS hP hD hk1 (kj_back hD0 hS hA) hP1 hD1
  exact k H1 locs1 ls ⟨hP2, hD2, hS1, hl⟩
theorem kl_xol (F : kj_Fx p s m args meth c cc nL Ts own ret D tys A) {o : Int64 × S} (hM : kj_Ml l y wsC rmC D tys w z (.ref b :: As) o) (hdg : decode cc pc = .ok (.invokevirtual index, 3)) (cw : CallW R s args own C index y bytes maxL retC wsC rmC 0 0 n) (q0 : Nat) (he : (w z)[q0]? = some (b, .inr (ci, fs))) (hc : vwCl[ci]? = some qC) (hq : qC.1 = C) (hn : As.length = n) (hst : st = As.reverse ++ .ref b :: rest) (hm : (rest.map fun v => v.category).sum ≤ 8) (hf : cells ≤ R.cells ∧ slots ≤ R.slots) (k : kj_J p l e R s m args below meth c cells slots Q nL D A (M ++ w o.2) (pc + 3) lv (.long o.1 :: rest)) : kj_J p l e R s m args below meth c cells slots Q nL D A (M ++ w z) pc lv st := by
  obtain ⟨hx, hb, hml, hown, hts, hr, hlocks, hK, hA⟩ := F
  intro H locs ls ⟨hP, hD, hS, hl⟩
  have hP0 := kl_sufP hP
  have hD0 := kl_sufD hD
  refine va_calll (va_runV (As := As) (rest := rest) ⟨hx, hb, hml, hown, hts⟩ (hM H.size) cw (kj_preV hK hP0 hD0 hc hq he) rfl hn hl.1 hst (lv_room hm) hdg hf) hS (fun q _ h => kj_back hD0 hS hA q h) (kj_back hD0 hS hA) (fun r u t H1 locs1 ht hvm hw hB hz1 hk1 hS1 => ?_)
  obtain ⟨rfl, rfl⟩ := hw
  obtain ⟨hP1, hK1, hD1⟩ := hB
  rw [ht] at hP1
  obtain ⟨hP2, hD2⟩ := kl_joinS hP hD hk1 (kj_back hD0 hS hA) hP1 hD1
  exact k H1 locs1 ls ⟨hP2, hD2, hS1, hl⟩
theorem kl_moi (F : kj_Fx p s m args meth c cc nL Ts own ret D tys A) (hKm : va_K D vwCl tysC s) {o : Int32 × S} (hM : kj_Mi l y wsC rmC D tysC w z (.ref b :: As) o) (hdg : decode cc pc = .ok (.invokevirtual index, 3)) (cw : CallW R s args own C index y bytes maxL retC wsC rmC 0 0 n) (q0 : Nat) (he : (w z)[q0]? = some (b, .inr (ci, fs))) (hc : vwCl[ci]? = some qC) (hq : qC.1 = C) (hn : As.length = n) (hst : st = As.reverse ++ .ref b :: rest) (hm : (rest.map fun v => v.category).sum ≤ 8) (hf : cells ≤ R.cells ∧ slots ≤ R.slots) (k : kj_J p l e R s m args below meth c cells slots Q nL D A (w o.2 ++ M) (pc + 3) lv (.int o.1 :: rest)) : kj_J p l e R s m args below meth c cells slots Q nL D A (w z ++ M) pc lv st := by
  obtain ⟨hx, hb, hml, hown, hts, hr, hlocks, hK, hA⟩ := F
  intro H locs ls ⟨hP, hD, hS, hl⟩
  have hP0 := kl_preP hP
  have hD0 := kl_preD hD
  refine va_calli (va_runV (As := As) (rest := rest) ⟨hx, hb, hml, hown, hts⟩ (hM H.size) cw (kj_preV hKm hP0 hD0 hc hq he) rfl hn hl.1 hst (lv_room hm) hdg hf) hS (fun q _ h => kj_back hD0 hS hA q h) (kj_back hD0 hS hA) (fun r u t H1 locs1 ht hvm hw hB hz1 hk1 hS1 => ?_)
  obtain ⟨rfl, rfl⟩ := hw
  obtain ⟨hP1, hK1, hD1⟩ := hB
  rw [ht] at hP1
  obtain ⟨hP2, hD2⟩ := kl_joinP hP hD hk1 (kj_back hD0 hS hA) hP1 hD1
  exact k H1 locs1 ls ⟨hP2, hD2, hS1, hl⟩
theorem kl_mol (F : kj_Fx p s m args meth c cc nL Ts own ret D tys A) (hKm : va_K D vwCl tysC s) {o : Int64 × S} (hM : kj_Ml l y wsC rmC D tysC w z (.ref b :: As) o) (hdg : decode cc pc = .ok (.invokevirtual index, 3)) (cw : CallW R s args own C index y bytes maxL retC wsC rmC 0 0 n) (q0 : Nat) (he : (w z)[q0]? = some (b, .inr (ci, fs))) (hc : vwCl[ci]? = some qC) (hq : qC.1 = C) (hn : As.length = n) (hst : st = As.reverse ++ .ref b :: rest) (hm : (rest.map fun v => v.category).sum ≤ 8) (hf : cells ≤ R.cells ∧ slots ≤ R.slots) (k : kj_J p l e R s m args below meth c cells slots Q nL D A (w o.2 ++ M) (pc + 3) lv (.long o.1 :: rest)) : kj_J p l e R s m args below meth c cells slots Q nL D A (w z ++ M) pc lv st := by
  obtain ⟨hx, hb, hml, hown, hts, hr, hlocks, hK, hA⟩ := F
  intro H locs ls ⟨hP, hD, hS, hl⟩
  have hP0 := kl_preP hP
  have hD0 := kl_preD hD
  refine va_calll (va_runV (As := As) (rest := rest) ⟨hx, hb, hml, hown, hts⟩ (hM H.size) cw (kj_preV hKm hP0 hD0 hc hq he) rfl hn hl.1 hst (lv_room hm) hdg hf) hS (fun q _ h => kj_back hD0 hS hA q h) (kj_back hD0 hS hA) (fun r u t H1 locs1 ht hvm hw hB hz1 hk1 hS1 => ?_)
  obtain ⟨rfl, rfl⟩ := hw
  obtain ⟨hP1, hK1, hD1⟩ := hB
  rw [ht] at hP1
  obtain ⟨hP2, hD2⟩ := kl_joinP hP hD hk1 (kj_back hD0 hS hA) hP1 hD1
  exact k H1 locs1 ls ⟨hP2, hD2, hS1, hl⟩
end KL
theorem kl_sld {p : Program} {l : Launch} {e : Env} {R : Room} {s : State} {m : MethodId} {args : Array Value} {below : List Frame} {meth : Method} {c : Code} {cells slots : Nat} {Q : State → Prop} {cc : ByteArray} {nL : Nat} {Ts : List Cond} {own : String} {ret : Option FieldType} {D : va_G} {tys : List (ClassId × FieldType)} {ww : va_W} {pc : Nat} {lv : List (Nat × Value)} {rest : List Value} {b L : Nat} {xs : Nat → Int32} {i : Int32} (F : kj_Fx p s m args meth c cc nL Ts own ret D tys (fun q => s.heap.size ≤ q)) (hX : va_X b L xs s s.heap) (hbl : b < s.heap.size) (hdg : decode cc pc = .ok (.iaload, 1)) (hin : vp_in i L) (k : kj_J p l e R s m args below meth c cells slots Q nL D (fun q => s.heap.size ≤ q) ww (pc + 1) lv (.int (xs i.toNatClampNeg) :: rest)) : kj_J p l e R s m args below meth c cells slots Q nL D (fun q => s.heap.size ≤ q) ww pc lv (.int i :: .ref b :: rest) :=
  fun H locs ls h => va_sld F.1 F.2.1 hX hbl (Nat.not_le.mpr hbl) h.2.2.1 hin hdg (k H locs ls h)
theorem kl_slen {p : Program} {l : Launch} {e : Env} {R : Room} {s : State} {m : MethodId} {args : Array Value} {below : List Frame} {meth : Method} {c : Code} {cells slots : Nat} {Q : State → Prop} {cc : ByteArray} {nL : Nat} {Ts : List Cond} {own : String} {ret : Option FieldType} {D : va_G} {tys : List (ClassId × FieldType)} {ww : va_W} {pc : Nat} {lv : List (Nat × Value)} {rest : List Value} {b L : Nat} {xs : Nat → Int32} (F : kj_Fx p s m args meth c cc nL Ts own ret D tys (fun q => s.heap.size ≤ q)) (hX : va_X b L xs s s.heap) (hbl : b < s.heap.size) (hdg : decode cc pc = .ok (.arraylength, 1)) (k : kj_J p l e R s m args below meth c cells slots Q nL D (fun q => s.heap.size ≤ q) ww (pc + 1) lv (.int (nI L) :: rest)) : kj_J p l e R s m args below meth c cells slots Q nL D (fun q => s.heap.size ≤ q) ww pc lv (.ref b :: rest) :=
  fun H locs ls h => va_slen F.1 F.2.1 hX hbl (Nat.not_le.mpr hbl) h.2.2.1 hdg (k H locs ls h)
/-- the reference's array classes are the class's -/
theorem kl_rc : 50000 ≤ room_1.cells := by decide
theorem kl_rs : 500000 ≤ room_1.slots := by decide
def kl_cM (cA : Nat → ClassId) : Nat → ClassId := fun k => if k < 18 then cA 0 else if k < 20 then cA 2 else cA 1
theorem kl_KM {D : va_G} {cA : Nat → ClassId} {s : State} (h : va_K D vwCl (kx_T cA) s) : va_K D vwCl (km_T (kl_cM cA)) s := h.sub [0, 0, 0, 0, 0, 0, 0, 0, 0, 0, 0, 0, 0, 0, 0, 0, 0, 0, 2, 2, 1, 1] rfl
def kl_s0 (cA : Nat → ClassId) (Inv : kx_S → va_W → km_S → Prop) : Prop := ∀ (zx : kx_S) (P : va_W) (zm : km_S), Inv zx P zm → ∀ (a1 : Int32), ∃ ox, fc_feed a1 zx = some ox ∧ ∃ om, fm_feed a1 zm = some om ∧ ox.1 = om.1 ∧ Inv ox.2 P om.2
def kl_s1 (cA : Nat → ClassId) (Inv : kx_S → va_W → km_S → Prop) : Prop := ∀ (zx : kx_S) (P : va_W) (zm : km_S), Inv zx P zm → ∀ (a1 : Int32), vc_heap cA a1 zx P (fun r zx' P' => ∃ om, fm_heap a1 zm = some om ∧ r = om.1 ∧ Inv zx' P' om.2)
def kl_s2 (cA : Nat → ClassId) (Inv : kx_S → va_W → km_S → Prop) : Prop := ∀ (zx : kx_S) (P : va_W) (zm : km_S), Inv zx P zm → ∀ (_ : Unit), ∃ ox, fc_fault zx = some ox ∧ ∃ om, fm_fault zm = some om ∧ ox.1 = om.1 ∧ Inv ox.2 P om.2
def kl_s3 (cA : Nat → ClassId) (Inv : kx_S → va_W → km_S → Prop) : Prop := ∀ (zx : kx_S) (P : va_W) (zm : km_S), Inv zx P zm → ∀ (_ : Unit), vc_undo cA zx P (fun r zx' P' => ∃ om, fm_undo zm = some om ∧ r = om.1 ∧ Inv zx' P' om.2)
def kl_s4 (cA : Nat → ClassId) (Inv : kx_S → va_W → km_S → Prop) : Prop := ∀ (zx : kx_S) (P : va_W) (zm : km_S), Inv zx P zm → ∀ (a1 a2 a3 a4 a5 : Int32), vc_take cA a1 a2 a3 a4 a5 zx P (fun r zx' P' => ∃ om, fm_take a1 a2 a3 a4 a5 zm = some om ∧ r = om.1 ∧ Inv zx' P' om.2)
def kl_s5 (cA : Nat → ClassId) (Inv : kx_S → va_W → km_S → Prop) : Prop := ∀ (zx : kx_S) (P : va_W) (zm : km_S), Inv zx P zm → ∀ (a1 a2 a3 a4 a5 : Int32), vc_drawn cA a1 a2 a3 a4 a5 zx P (fun r zx' P' => ∃ om, fm_drawn a1 a2 a3 a4 a5 zm = some om ∧ r = om.1 ∧ Inv zx' P' om.2)
def kl_s6 (cA : Nat → ClassId) (Inv : kx_S → va_W → km_S → Prop) : Prop := ∀ (zx : kx_S) (P : va_W) (zm : km_S), Inv zx P zm → ∀ (a1 a2 a3 : Int32), vc_lay cA a1 a2 a3 zx P (fun r zx' P' => ∃ om, fm_lay a1 a2 a3 zm = some om ∧ r = om.1 ∧ Inv zx' P' om.2)
def kl_s7 (cA : Nat → ClassId) (Inv : kx_S → va_W → km_S → Prop) : Prop := ∀ (zx : kx_S) (P : va_W) (zm : km_S), Inv zx P zm → ∀ (a1 a2 a3 : Int32), vc_off cA a1 a2 a3 zx P (fun r zx' P' => ∃ om, fm_off a1 a2 a3 zm = some om ∧ r = om.1 ∧ Inv zx' P' om.2)
def kl_s8 (cA : Nat → ClassId) (Inv : kx_S → va_W → km_S → Prop) : Prop := ∀ (zx : kx_S) (P : va_W) (zm : km_S), Inv zx P zm → ∀ (a1 a2 a3 : Int32), vc_turn cA a1 a2 a3 zx P (fun r zx' P' => ∃ om, fm_turn a1 a2 a3 zm = some om ∧ r = om.1 ∧ Inv zx' P' om.2)
def kl_s9 (cA : Nat → ClassId) (Inv : kx_S → va_W → km_S → Prop) : Prop := ∀ (zx : kx_S) (P : va_W) (zm : km_S), Inv zx P zm → ∀ (a1 a2 a3 a4 : Int32), vc_join cA a1 a2 a3 a4 zx P (fun r zx' P' => ∃ om, fm_join a1 a2 a3 a4 zm = some om ∧ r = om.1 ∧ Inv zx' P' om.2)
def kl_s10 (cA : Nat → ClassId) (Inv : kx_S → va_W → km_S → Prop) : Prop := ∀ (zx : kx_S) (P : va_W) (zm : km_S), Inv zx P zm → ∀ (a1 : Int32), vc_drop cA a1 zx P (fun r zx' P' => ∃ om, fm_drop a1 zm = some om ∧ r = om.1 ∧ Inv zx' P' om.2)
def kl_s11 (cA : Nat → ClassId) (Inv : kx_S → va_W → km_S → Prop) : Prop := ∀ (zx : kx_S) (P : va_W) (zm : km_S), Inv zx P zm → ∀ (a1 a2 a3 : Int32), ∃ ox, fc_height P a1 a2 a3 zx = some ox ∧ ∃ om, fm_height a1 a2 a3 zm = some om ∧ ox.1 = om.1 ∧ Inv ox.2 P om.2
def kl_s12 (cA : Nat → ClassId) (Inv : kx_S → va_W → km_S → Prop) : Prop := ∀ (zx : kx_S) (P : va_W) (zm : km_S), Inv zx P zm → ∀ (a1 a2 : Int32), vc_whole cA a1 a2 zx P (fun r zx' P' => ∃ om, fm_whole a1 a2 zm = some om ∧ r = om.1 ∧ Inv zx' P' om.2)
def kl_s13 (cA : Nat → ClassId) (Inv : kx_S → va_W → km_S → Prop) : Prop := ∀ (zx : kx_S) (P : va_W) (zm : km_S), Inv zx P zm → ∀ (a1 a2 a3 : Int32), ∃ ox, fc_path P a1 a2 a3 zx = some ox ∧ ∃ om, fm_path a1 a2 a3 zm = some om ∧ ox.1 = om.1 ∧ Inv ox.2 P om.2
def kl_s14 (cA : Nat → ClassId) (Inv : kx_S → va_W → km_S → Prop) : Prop := ∀ (zx : kx_S) (P : va_W) (zm : km_S), Inv zx P zm → ∀ (a1 a2 a3 : Int32), ∃ ox, fc_slice P a1 a2 a3 zx = some ox ∧ ∃ om, fm_slice a1 a2 a3 zm = some om ∧ ox.1 = om.1 ∧ Inv ox.2 P om.2
def kl_s15 (cA : Nat → ClassId) (Inv : kx_S → va_W → km_S → Prop) : Prop := ∀ (zx : kx_S) (P : va_W) (zm : km_S), Inv zx P zm → ∀ (a1 a2 a3 : Int32), ∃ ox, fc_face P a1 a2 a3 zx = some ox ∧ ∃ om, fm_face a1 a2 a3 zm = some om ∧ ox.1 = om.1 ∧ Inv ox.2 P om.2
def kl_s16 (cA : Nat → ClassId) (Inv : kx_S → va_W → km_S → Prop) : Prop := ∀ (zx : kx_S) (P : va_W) (zm : km_S), Inv zx P zm → ∀ (a1 a2 : Int32), vc_kin cA a1 a2 zx P (fun r zx' P' => ∃ om, fm_kin a1 a2 zm = some om ∧ r = om.1 ∧ Inv zx' P' om.2)
def kl_s17 (cA : Nat → ClassId) (Inv : kx_S → va_W → km_S → Prop) : Prop := ∀ (zx : kx_S) (P : va_W) (zm : km_S), Inv zx P zm → ∀ (a1 : Int32), vc_orders cA a1 zx P (fun r zx' P' => ∃ om, fm_orders a1 zm = some om ∧ r = om.1 ∧ Inv zx' P' om.2)
def kl_s18 (cA : Nat → ClassId) (Inv : kx_S → va_W → km_S → Prop) : Prop := ∀ (zx : kx_S) (P : va_W) (zm : km_S), Inv zx P zm → ∀ (a1 a2 a3 : Int32), vc_many cA a1 a2 a3 zx P (fun r zx' P' => ∃ om, fm_many a1 a2 a3 zm = some om ∧ r = om.1 ∧ Inv zx' P' om.2)
def kl_s19 (cA : Nat → ClassId) (Inv : kx_S → va_W → km_S → Prop) : Prop := ∀ (zx : kx_S) (P : va_W) (zm : km_S), Inv zx P zm → ∀ (a1 a2 a3 a4 : Int32), vc_minor cA a1 a2 a3 a4 zx P (fun r zx' P' => ∃ om, fm_minor a1 a2 a3 a4 zm = some om ∧ r = om.1 ∧ Inv zx' P' om.2)
def kl_s20 (cA : Nat → ClassId) (Inv : kx_S → va_W → km_S → Prop) : Prop := ∀ (zx : kx_S) (P : va_W) (zm : km_S), Inv zx P zm → ∀ (a1 a2 a3 a4 : Int32), vc_series cA a1 a2 a3 a4 zx P (fun r zx' P' => ∃ om, fm_series a1 a2 a3 a4 zm = some om ∧ r = om.1 ∧ Inv zx' P' om.2)
def kl_s21 (cA : Nat → ClassId) (Inv : kx_S → va_W → km_S → Prop) : Prop := ∀ (zx : kx_S) (P : va_W) (zm : km_S), Inv zx P zm → ∀ (a1 a2 a3 a4 a5 : Int32), vc_weighed cA a1 a2 a3 a4 a5 zx P (fun r zx' P' => ∃ om, fm_weighed a1 a2 a3 a4 a5 zm = some om ∧ r = om.1 ∧ Inv zx' P' om.2)
def kl_s22 (cA : Nat → ClassId) (Inv : kx_S → va_W → km_S → Prop) : Prop := ∀ (zx : kx_S) (P : va_W) (zm : km_S), Inv zx P zm → ∀ (a1 a2 a3 a4 : Int32), vc_symmetric cA a1 a2 a3 a4 zx P (fun r zx' P' => ∃ om, fm_symmetric a1 a2 a3 a4 zm = some om ∧ r = om.1 ∧ Inv zx' P' om.2)
def kl_s23 (cA : Nat → ClassId) (Inv : kx_S → va_W → km_S → Prop) : Prop := ∀ (zx : kx_S) (P : va_W) (zm : km_S), Inv zx P zm → ∀ (a1 a2 : Int32), vc_between cA a1 a2 zx P (fun r zx' P' => ∃ om, fm_between a1 a2 zm = some om ∧ r = om.1 ∧ Inv zx' P' om.2)
def kl_s24 (cA : Nat → ClassId) (Inv : kx_S → va_W → km_S → Prop) : Prop := ∀ (zx : kx_S) (P : va_W) (zm : km_S), Inv zx P zm → ∀ (a1 a2 a3 : Int32), vc_way cA a1 a2 a3 zx P (fun r zx' P' => ∃ om, fm_way a1 a2 a3 zm = some om ∧ r = om.1 ∧ Inv zx' P' om.2)
def kl_s25 (cA : Nat → ClassId) (Inv : kx_S → va_W → km_S → Prop) : Prop := ∀ (zx : kx_S) (P : va_W) (zm : km_S), Inv zx P zm → ∀ (a1 : Int32), ∃ ox, fc_image P a1 zx = some ox ∧ ∃ om, fm_image a1 zm = some om ∧ ox.1 = om.1 ∧ Inv ox.2 P om.2
def kl_s26 (cA : Nat → ClassId) (Inv : kx_S → va_W → km_S → Prop) : Prop := ∀ (zx : kx_S) (P : va_W) (zm : km_S), Inv zx P zm → ∀ (a1 : Int32), ∃ ox, fc_restore P a1 zx = some ox ∧ ∃ om, fm_restore a1 zm = some om ∧ ox.1 = om.1 ∧ Inv ox.2 P om.2
def kl_s27 (cA : Nat → ClassId) (Inv : kx_S → va_W → km_S → Prop) : Prop := ∀ (zx : kx_S) (P : va_W) (zm : km_S), Inv zx P zm → ∀ (a1 : Int32), ∃ ox, fc_count P a1 zx = some ox ∧ ∃ om, fm_count a1 zm = some om ∧ ox.1 = om.1 ∧ Inv ox.2 P om.2
def kl_all (cA : Nat → ClassId) (Inv : kx_S → va_W → km_S → Prop) : Prop := kl_s0 cA Inv ∧ kl_s1 cA Inv ∧ kl_s2 cA Inv ∧ kl_s3 cA Inv ∧ kl_s4 cA Inv ∧ kl_s5 cA Inv ∧ kl_s6 cA Inv ∧ kl_s7 cA Inv ∧ kl_s8 cA Inv ∧ kl_s9 cA Inv ∧ kl_s10 cA Inv ∧ kl_s11 cA Inv ∧ kl_s12 cA Inv ∧ kl_s13 cA Inv ∧ kl_s14 cA Inv ∧ kl_s15 cA Inv ∧ kl_s16 cA Inv ∧ kl_s17 cA Inv ∧ kl_s18 cA Inv ∧ kl_s19 cA Inv ∧ kl_s20 cA Inv ∧ kl_s21 cA Inv ∧ kl_s22 cA Inv ∧ kl_s23 cA Inv ∧ kl_s24 cA Inv ∧ kl_s25 cA Inv ∧ kl_s26 cA Inv ∧ kl_s27 cA Inv
set_option maxRecDepth 20000 in
set_option maxHeartbeats 1000000 in
theorem kl_case0 {p : Program} {l : Launch} {e : Env} {s : State} {m : MethodId} {below : List Frame} {meth : Method} {c : Code} {D : va_G} {cA : Nat → ClassId} {h0 h1 b L i : Nat} {qx qm : Nat → Nat} {xs : Nat → Int32} {Q : State → Prop} {zx : kx_S} {P : va_W} {zm : km_S} {Inv : kx_S → va_W → km_S → Prop} (F : kj_Fx p s m #[Value.ref b] meth c cL_law 4 wsL_law RL ret D (kx_T cA) (fun q => s.heap.size ≤ q)) (hN : kn_N s) (hKm : va_K D vwCl (km_T (kl_cM cA)) s) (hX : va_X b L xs s s.heap) (hbl : b < s.heap.size) (hi : i + 6 ≤ 3072) (hin : ∀ j : Int32, j.toNatClampNeg < 6 ∧ 0 ≤ j → vp_in (nI i + j) L) (hI : Inv zx P zm) (hs : kl_s0 cA Inv)
    (kk : ∀ zx' P' zm', Inv zx' P' zm' → kj_J p l e room_1 s m #[Value.ref b] below meth c (40 + 7 * (i + 6)) (14772 + 107 * (i + 6)) Q 4 D (fun q => s.heap.size ≤ q) (km_w (kl_cM cA) h1 qm zm' ++ kx_W cA h0 qx P' zx') 1235 [(0, .ref b), (1, .ref h0), (2, .ref h1), (3, .int (nI i))] []) : kj_J p l e room_1 s m #[Value.ref b] below meth c (40 + 7 * i) (14772 + 107 * i) Q 4 D (fun q => s.heap.size ≤ q) (km_w (kl_cM cA) h1 qm zm ++ kx_W cA h0 qx P zx) 160 [(0, .ref b), (1, .ref h0), (2, .ref h1), (3, .int (nI i))] [] := by
  have h := hs zx P zm hI (xs (nI i + 1).toNatClampNeg)
  refine kj_aload_n F dL_law_160 1 rfl rfl ?_
  refine kj_aload_n F dL_law_161 0 rfl rfl ?_
  refine kj_iload_n F dL_law_162 3 rfl rfl ?_
  refine kj_iconst F dL_law_163 (v := 1) (by decide) ?_
  refine kj_iadd F dL_law_164 ?_
  refine kl_sld F hX hbl dL_law_165 (hin 1 (by decide)) ?_
  obtain ⟨ox, hx1, om, hm, hr, hI'⟩ := h
  refine kl_xoi (w := kx_W cA h0 qx P) (As := [.int (xs (nI i + 1).toNatClampNeg)]) (rest := []) F (cc_feed hx1) dL_law_166 (cwV 1 F.2.2.2.2.1 gL_law_X7_feed rfl rfl rfl (by decide +kernel) ⟨(Nat.le_of_ble_eq_true rfl), (Nat.le_of_ble_eq_true rfl)⟩) 0 rfl rfl rfl rfl rfl (Nat.le_of_ble_eq_true rfl) ⟨Nat.le_trans (show 40 + 7 * i ≤ 50000 by omega) kl_rc, Nat.le_trans (show 14772 + 107 * i ≤ 500000 by omega) kl_rs⟩ ?_
  refine kj_aload_n F dL_law_169 2 rfl rfl ?_
  refine kj_aload_n F dL_law_170 0 rfl rfl ?_
  refine kj_iload_n F dL_law_171 3 rfl rfl ?_
  refine kj_iconst F dL_law_172 (v := 1) (by decide) ?_
  refine kj_iadd F dL_law_173 ?_
  refine kl_sld F hX hbl dL_law_174 (hin 1 (by decide)) ?_
  refine kl_moi (w := km_w (kl_cM cA) h1 qm) (As := [.int (xs (nI i + 1).toNatClampNeg)]) (rest := [.int ox.1]) F hKm (cm_feed hm) dL_law_175 (cwV 1 F.2.2.2.2.1 gL_law_X8_feed rfl rfl rfl (by decide +kernel) ⟨(Nat.le_of_ble_eq_true rfl), (Nat.le_of_ble_eq_true rfl)⟩) 0 rfl rfl rfl rfl rfl (Nat.le_of_ble_eq_true rfl) ⟨Nat.le_trans (show 40 + 7 * i + 0 ≤ 50000 by omega) kl_rc, Nat.le_trans (show 14772 + 107 * i + 0 ≤ 500000 by omega) kl_rs⟩ ?_
  refine kw_icmp_eq F dL_law_178 (tgt := 1235) (by decide) (fun _ => ?_) (fun hc => absurd hr hc)
  refine kn_widen (k := 40 + 7 * (i + 6)) (n := 14772 + 107 * (i + 6)) (by show 40 + 7 * i + 0 ≤ _; omega) (by show 14772 + 107 * i + 0 ≤ _; omega) ?_
  exact kk ox.2 P om.2 hI'
set_option maxRecDepth 20000 in
set_option maxHeartbeats 1000000 in
theorem kl_case1 {p : Program} {l : Launch} {e : Env} {s : State} {m : MethodId} {below : List Frame} {meth : Method} {c : Code} {D : va_G} {cA : Nat → ClassId} {h0 h1 b L i : Nat} {qx qm : Nat → Nat} {xs : Nat → Int32} {Q : State → Prop} {zx : kx_S} {P : va_W} {zm : km_S} {Inv : kx_S → va_W → km_S → Prop} (F : kj_Fx p s m #[Value.ref b] meth c cL_law 4 wsL_law RL ret D (kx_T cA) (fun q => s.heap.size ≤ q)) (hN : kn_N s) (hKm : va_K D vwCl (km_T (kl_cM cA)) s) (hX : va_X b L xs s s.heap) (hbl : b < s.heap.size) (hi : i + 6 ≤ 3072) (hin : ∀ j : Int32, j.toNatClampNeg < 6 ∧ 0 ≤ j → vp_in (nI i + j) L) (hI : Inv zx P zm) (hs : kl_s1 cA Inv)
    (kk : ∀ zx' P' zm', Inv zx' P' zm' → kj_J p l e room_1 s m #[Value.ref b] below meth c (40 + 7 * (i + 6)) (14772 + 107 * (i + 6)) Q 4 D (fun q => s.heap.size ≤ q) (km_w (kl_cM cA) h1 qm zm' ++ kx_W cA h0 qx P' zx') 1235 [(0, .ref b), (1, .ref h0), (2, .ref h1), (3, .int (nI i))] []) : kj_J p l e room_1 s m #[Value.ref b] below meth c (40 + 7 * i) (14772 + 107 * i) Q 4 D (fun q => s.heap.size ≤ q) (km_w (kl_cM cA) h1 qm zm ++ kx_W cA h0 qx P zx) 183 [(0, .ref b), (1, .ref h0), (2, .ref h1), (3, .int (nI i))] [] := by
  have h := hs zx P zm hI (xs (nI i + 1).toNatClampNeg)
  refine kj_aload_n F dL_law_183 1 rfl rfl ?_
  refine kj_aload_n F dL_law_184 0 rfl rfl ?_
  refine kj_iload_n F dL_law_185 3 rfl rfl ?_
  refine kj_iconst F dL_law_186 (v := 1) (by decide) ?_
  refine kj_iadd F dL_law_187 ?_
  refine kl_sld F hX hbl dL_law_188 (hin 1 (by decide)) ?_
  refine kl_xwi (w := kx_V cA h0 qx) (As := [.int (xs (nI i + 1).toNatClampNeg)]) (rest := []) F hN (dc_heap h) dL_law_189 (cwV 1 F.2.2.2.2.1 gL_law_X7_heap rfl rfl rfl (by decide +kernel) ⟨(Nat.le_of_ble_eq_true rfl), (Nat.le_of_ble_eq_true rfl)⟩) 0 rfl rfl rfl rfl rfl (Nat.le_of_ble_eq_true rfl) ⟨Nat.le_trans (show 40 + 7 * i + 2 ≤ 50000 by omega) kl_rc, Nat.le_trans (show 14772 + 107 * i + 5 ≤ 500000 by omega) kl_rs⟩ (fun r u h => ?_)
  obtain ⟨om, hm, hr, hI'⟩ := h
  refine kj_cast (ww' := km_w (kl_cM cA) h1 qm zm ++ kx_W cA h0 qx u.2 u.1) rfl ?_
  refine kj_aload_n F dL_law_192 2 rfl rfl ?_
  refine kj_aload_n F dL_law_193 0 rfl rfl ?_
  refine kj_iload_n F dL_law_194 3 rfl rfl ?_
  refine kj_iconst F dL_law_195 (v := 1) (by decide) ?_
  refine kj_iadd F dL_law_196 ?_
  refine kl_sld F hX hbl dL_law_197 (hin 1 (by decide)) ?_
  refine kl_moi (w := km_w (kl_cM cA) h1 qm) (As := [.int (xs (nI i + 1).toNatClampNeg)]) (rest := [.int r]) F hKm (cm_heap hm) dL_law_198 (cwV 1 F.2.2.2.2.1 gL_law_X8_heap rfl rfl rfl (by decide +kernel) ⟨(Nat.le_of_ble_eq_true rfl), (Nat.le_of_ble_eq_true rfl)⟩) 0 rfl rfl rfl rfl rfl (Nat.le_of_ble_eq_true rfl) ⟨Nat.le_trans (show 40 + 7 * i + 2 ≤ 50000 by omega) kl_rc, Nat.le_trans (show 14772 + 107 * i + 5 ≤ 500000 by omega) kl_rs⟩ ?_
  refine kw_icmp_eq F dL_law_201 (tgt := 1235) (by decide) (fun _ => ?_) (fun hc => absurd hr hc)
  refine kn_widen (k := 40 + 7 * (i + 6)) (n := 14772 + 107 * (i + 6)) (by show 40 + 7 * i + 2 ≤ _; omega) (by show 14772 + 107 * i + 5 ≤ _; omega) ?_
  exact kk u.1 u.2 om.2 hI'
set_option maxRecDepth 20000 in
set_option maxHeartbeats 1000000 in
theorem kl_case2 {p : Program} {l : Launch} {e : Env} {s : State} {m : MethodId} {below : List Frame} {meth : Method} {c : Code} {D : va_G} {cA : Nat → ClassId} {h0 h1 b L i : Nat} {qx qm : Nat → Nat} {xs : Nat → Int32} {Q : State → Prop} {zx : kx_S} {P : va_W} {zm : km_S} {Inv : kx_S → va_W → km_S → Prop} (F : kj_Fx p s m #[Value.ref b] meth c cL_law 4 wsL_law RL ret D (kx_T cA) (fun q => s.heap.size ≤ q)) (hN : kn_N s) (hKm : va_K D vwCl (km_T (kl_cM cA)) s) (hX : va_X b L xs s s.heap) (hbl : b < s.heap.size) (hi : i + 6 ≤ 3072) (hin : ∀ j : Int32, j.toNatClampNeg < 6 ∧ 0 ≤ j → vp_in (nI i + j) L) (hI : Inv zx P zm) (hs : kl_s2 cA Inv)
    (kk : ∀ zx' P' zm', Inv zx' P' zm' → kj_J p l e room_1 s m #[Value.ref b] below meth c (40 + 7 * (i + 6)) (14772 + 107 * (i + 6)) Q 4 D (fun q => s.heap.size ≤ q) (km_w (kl_cM cA) h1 qm zm' ++ kx_W cA h0 qx P' zx') 1235 [(0, .ref b), (1, .ref h0), (2, .ref h1), (3, .int (nI i))] []) : kj_J p l e room_1 s m #[Value.ref b] below meth c (40 + 7 * i) (14772 + 107 * i) Q 4 D (fun q => s.heap.size ≤ q) (km_w (kl_cM cA) h1 qm zm ++ kx_W cA h0 qx P zx) 206 [(0, .ref b), (1, .ref h0), (2, .ref h1), (3, .int (nI i))] [] := by
  have h := hs zx P zm hI ()
  refine kj_aload_n F dL_law_206 1 rfl rfl ?_
  obtain ⟨ox, hx1, om, hm, hr, hI'⟩ := h
  refine kl_xoi (w := kx_W cA h0 qx P) (As := []) (rest := []) F (cc_fault hx1) dL_law_207 (cwV 0 F.2.2.2.2.1 gL_law_X7_fault rfl rfl rfl (by decide +kernel) ⟨(Nat.le_of_ble_eq_true rfl), (Nat.le_of_ble_eq_true rfl)⟩) 0 rfl rfl rfl rfl rfl (Nat.le_of_ble_eq_true rfl) ⟨Nat.le_trans (show 40 + 7 * i ≤ 50000 by omega) kl_rc, Nat.le_trans (show 14772 + 107 * i ≤ 500000 by omega) kl_rs⟩ ?_
  refine kj_aload_n F dL_law_210 2 rfl rfl ?_
  refine kl_moi (w := km_w (kl_cM cA) h1 qm) (As := []) (rest := [.int ox.1]) F hKm (cm_fault hm) dL_law_211 (cwV 0 F.2.2.2.2.1 gL_law_X8_fault rfl rfl rfl (by decide +kernel) ⟨(Nat.le_of_ble_eq_true rfl), (Nat.le_of_ble_eq_true rfl)⟩) 0 rfl rfl rfl rfl rfl (Nat.le_of_ble_eq_true rfl) ⟨Nat.le_trans (show 40 + 7 * i + 0 ≤ 50000 by omega) kl_rc, Nat.le_trans (show 14772 + 107 * i + 0 ≤ 500000 by omega) kl_rs⟩ ?_
  refine kw_icmp_eq F dL_law_214 (tgt := 1235) (by decide) (fun _ => ?_) (fun hc => absurd hr hc)
  refine kn_widen (k := 40 + 7 * (i + 6)) (n := 14772 + 107 * (i + 6)) (by show 40 + 7 * i + 0 ≤ _; omega) (by show 14772 + 107 * i + 0 ≤ _; omega) ?_
  exact kk ox.2 P om.2 hI'
set_option maxRecDepth 20000 in
set_option maxHeartbeats 1000000 in
theorem kl_case3 {p : Program} {l : Launch} {e : Env} {s : State} {m : MethodId} {below : List Frame} {meth : Method} {c : Code} {D : va_G} {cA : Nat → ClassId} {h0 h1 b L i : Nat} {qx qm : Nat → Nat} {xs : Nat → Int32} {Q : State → Prop} {zx : kx_S} {P : va_W} {zm : km_S} {Inv : kx_S → va_W → km_S → Prop} (F : kj_Fx p s m #[Value.ref b] meth c cL_law 4 wsL_law RL ret D (kx_T cA) (fun q => s.heap.size ≤ q)) (hN : kn_N s) (hKm : va_K D vwCl (km_T (kl_cM cA)) s) (hX : va_X b L xs s s.heap) (hbl : b < s.heap.size) (hi : i + 6 ≤ 3072) (hin : ∀ j : Int32, j.toNatClampNeg < 6 ∧ 0 ≤ j → vp_in (nI i + j) L) (hI : Inv zx P zm) (hs : kl_s3 cA Inv)
    (kk : ∀ zx' P' zm', Inv zx' P' zm' → kj_J p l e room_1 s m #[Value.ref b] below meth c (40 + 7 * (i + 6)) (14772 + 107 * (i + 6)) Q 4 D (fun q => s.heap.size ≤ q) (km_w (kl_cM cA) h1 qm zm' ++ kx_W cA h0 qx P' zx') 1235 [(0, .ref b), (1, .ref h0), (2, .ref h1), (3, .int (nI i))] []) : kj_J p l e room_1 s m #[Value.ref b] below meth c (40 + 7 * i) (14772 + 107 * i) Q 4 D (fun q => s.heap.size ≤ q) (km_w (kl_cM cA) h1 qm zm ++ kx_W cA h0 qx P zx) 219 [(0, .ref b), (1, .ref h0), (2, .ref h1), (3, .int (nI i))] [] := by
  have h := hs zx P zm hI ()
  refine kj_aload_n F dL_law_219 1 rfl rfl ?_
  refine kl_xwi (w := kx_V cA h0 qx) (As := []) (rest := []) F hN (dc_undo h) dL_law_220 (cwV 0 F.2.2.2.2.1 gL_law_X7_undo rfl rfl rfl (by decide +kernel) ⟨(Nat.le_of_ble_eq_true rfl), (Nat.le_of_ble_eq_true rfl)⟩) 0 rfl rfl rfl rfl rfl (Nat.le_of_ble_eq_true rfl) ⟨Nat.le_trans (show 40 + 7 * i + 0 ≤ 50000 by omega) kl_rc, Nat.le_trans (show 14772 + 107 * i + 0 ≤ 500000 by omega) kl_rs⟩ (fun r u h => ?_)
  obtain ⟨om, hm, hr, hI'⟩ := h
  refine kj_cast (ww' := km_w (kl_cM cA) h1 qm zm ++ kx_W cA h0 qx u.2 u.1) rfl ?_
  refine kj_aload_n F dL_law_223 2 rfl rfl ?_
  refine kl_moi (w := km_w (kl_cM cA) h1 qm) (As := []) (rest := [.int r]) F hKm (cm_undo hm) dL_law_224 (cwV 0 F.2.2.2.2.1 gL_law_X8_undo rfl rfl rfl (by decide +kernel) ⟨(Nat.le_of_ble_eq_true rfl), (Nat.le_of_ble_eq_true rfl)⟩) 0 rfl rfl rfl rfl rfl (Nat.le_of_ble_eq_true rfl) ⟨Nat.le_trans (show 40 + 7 * i + 0 ≤ 50000 by omega) kl_rc, Nat.le_trans (show 14772 + 107 * i + 0 ≤ 500000 by omega) kl_rs⟩ ?_
  refine kw_icmp_eq F dL_law_227 (tgt := 1235) (by decide) (fun _ => ?_) (fun hc => absurd hr hc)
  refine kn_widen (k := 40 + 7 * (i + 6)) (n := 14772 + 107 * (i + 6)) (by show 40 + 7 * i + 0 ≤ _; omega) (by show 14772 + 107 * i + 0 ≤ _; omega) ?_
  exact kk u.1 u.2 om.2 hI'
set_option maxRecDepth 20000 in
set_option maxHeartbeats 1000000 in
theorem kl_case4 {p : Program} {l : Launch} {e : Env} {s : State} {m : MethodId} {below : List Frame} {meth : Method} {c : Code} {D : va_G} {cA : Nat → ClassId} {h0 h1 b L i : Nat} {qx qm : Nat → Nat} {xs : Nat → Int32} {Q : State → Prop} {zx : kx_S} {P : va_W} {zm : km_S} {Inv : kx_S → va_W → km_S → Prop} (F : kj_Fx p s m #[Value.ref b] meth c cL_law 4 wsL_law RL ret D (kx_T cA) (fun q => s.heap.size ≤ q)) (hN : kn_N s) (hKm : va_K D vwCl (km_T (kl_cM cA)) s) (hX : va_X b L xs s s.heap) (hbl : b < s.heap.size) (hi : i + 6 ≤ 3072) (hin : ∀ j : Int32, j.toNatClampNeg < 6 ∧ 0 ≤ j → vp_in (nI i + j) L) (hI : Inv zx P zm) (hs : kl_s4 cA Inv)
    (kk : ∀ zx' P' zm', Inv zx' P' zm' → kj_J p l e room_1 s m #[Value.ref b] below meth c (40 + 7 * (i + 6)) (14772 + 107 * (i + 6)) Q 4 D (fun q => s.heap.size ≤ q) (km_w (kl_cM cA) h1 qm zm' ++ kx_W cA h0 qx P' zx') 1235 [(0, .ref b), (1, .ref h0), (2, .ref h1), (3, .int (nI i))] []) : kj_J p l e room_1 s m #[Value.ref b] below meth c (40 + 7 * i) (14772 + 107 * i) Q 4 D (fun q => s.heap.size ≤ q) (km_w (kl_cM cA) h1 qm zm ++ kx_W cA h0 qx P zx) 232 [(0, .ref b), (1, .ref h0), (2, .ref h1), (3, .int (nI i))] [] := by
  have h := hs zx P zm hI (xs (nI i + 1).toNatClampNeg) (xs (nI i + 2).toNatClampNeg) (xs (nI i + 3).toNatClampNeg) (xs (nI i + 4).toNatClampNeg) (xs (nI i + 5).toNatClampNeg)
  refine kj_aload_n F dL_law_232 1 rfl rfl ?_
  refine kj_aload_n F dL_law_233 0 rfl rfl ?_
  refine kj_iload_n F dL_law_234 3 rfl rfl ?_
  refine kj_iconst F dL_law_235 (v := 1) (by decide) ?_
  refine kj_iadd F dL_law_236 ?_
  refine kl_sld F hX hbl dL_law_237 (hin 1 (by decide)) ?_
  refine kj_aload_n F dL_law_238 0 rfl rfl ?_
  refine kj_iload_n F dL_law_239 3 rfl rfl ?_
  refine kj_iconst F dL_law_240 (v := 2) (by decide) ?_
  refine kj_iadd F dL_law_241 ?_
  refine kl_sld F hX hbl dL_law_242 (hin 2 (by decide)) ?_
  refine kj_aload_n F dL_law_243 0 rfl rfl ?_
  refine kj_iload_n F dL_law_244 3 rfl rfl ?_
  refine kj_iconst F dL_law_245 (v := 3) (by decide) ?_
  refine kj_iadd F dL_law_246 ?_
  refine kl_sld F hX hbl dL_law_247 (hin 3 (by decide)) ?_
  refine kj_aload_n F dL_law_248 0 rfl rfl ?_
  refine kj_iload_n F dL_law_249 3 rfl rfl ?_
  refine kj_iconst F dL_law_250 (v := 4) (by decide) ?_
  refine kj_iadd F dL_law_251 ?_
  refine kl_sld F hX hbl dL_law_252 (hin 4 (by decide)) ?_
  refine kj_aload_n F dL_law_253 0 rfl rfl ?_
  refine kj_iload_n F dL_law_254 3 rfl rfl ?_
  refine kj_iconst F dL_law_255 (v := 5) (by decide) ?_
  refine kj_iadd F dL_law_256 ?_
  refine kl_sld F hX hbl dL_law_257 (hin 5 (by decide)) ?_
  refine kl_xwi (w := kx_V cA h0 qx) (As := [.int (xs (nI i + 1).toNatClampNeg), .int (xs (nI i + 2).toNatClampNeg), .int (xs (nI i + 3).toNatClampNeg), .int (xs (nI i + 4).toNatClampNeg), .int (xs (nI i + 5).toNatClampNeg)]) (rest := []) F hN (dc_take h) dL_law_258 (cwV 5 F.2.2.2.2.1 gL_law_X7_take rfl rfl rfl (by decide +kernel) ⟨(Nat.le_of_ble_eq_true rfl), (Nat.le_of_ble_eq_true rfl)⟩) 0 rfl rfl rfl rfl rfl (Nat.le_of_ble_eq_true rfl) ⟨Nat.le_trans (show 40 + 7 * i + 13 ≤ 50000 by omega) kl_rc, Nat.le_trans (show 14772 + 107 * i + 577 ≤ 500000 by omega) kl_rs⟩ (fun r u h => ?_)
  obtain ⟨om, hm, hr, hI'⟩ := h
  refine kj_cast (ww' := km_w (kl_cM cA) h1 qm zm ++ kx_W cA h0 qx u.2 u.1) rfl ?_
  refine kj_aload_n F dL_law_261 2 rfl rfl ?_
  refine kj_aload_n F dL_law_262 0 rfl rfl ?_
  refine kj_iload_n F dL_law_263 3 rfl rfl ?_
  refine kj_iconst F dL_law_264 (v := 1) (by decide) ?_
  refine kj_iadd F dL_law_265 ?_
  refine kl_sld F hX hbl dL_law_266 (hin 1 (by decide)) ?_
  refine kj_aload_n F dL_law_267 0 rfl rfl ?_
  refine kj_iload_n F dL_law_268 3 rfl rfl ?_
  refine kj_iconst F dL_law_269 (v := 2) (by decide) ?_
  refine kj_iadd F dL_law_270 ?_
  refine kl_sld F hX hbl dL_law_271 (hin 2 (by decide)) ?_
  refine kj_aload_n F dL_law_272 0 rfl rfl ?_
  refine kj_iload_n F dL_law_273 3 rfl rfl ?_
  refine kj_iconst F dL_law_274 (v := 3) (by decide) ?_
  refine kj_iadd F dL_law_275 ?_
  refine kl_sld F hX hbl dL_law_276 (hin 3 (by decide)) ?_
  refine kj_aload_n F dL_law_277 0 rfl rfl ?_
  refine kj_iload_n F dL_law_278 3 rfl rfl ?_
  refine kj_iconst F dL_law_279 (v := 4) (by decide) ?_
  refine kj_iadd F dL_law_280 ?_
  refine kl_sld F hX hbl dL_law_281 (hin 4 (by decide)) ?_
  refine kj_aload_n F dL_law_282 0 rfl rfl ?_
  refine kj_iload_n F dL_law_283 3 rfl rfl ?_
  refine kj_iconst F dL_law_284 (v := 5) (by decide) ?_
  refine kj_iadd F dL_law_285 ?_
  refine kl_sld F hX hbl dL_law_286 (hin 5 (by decide)) ?_
  refine kl_moi (w := km_w (kl_cM cA) h1 qm) (As := [.int (xs (nI i + 1).toNatClampNeg), .int (xs (nI i + 2).toNatClampNeg), .int (xs (nI i + 3).toNatClampNeg), .int (xs (nI i + 4).toNatClampNeg), .int (xs (nI i + 5).toNatClampNeg)]) (rest := [.int r]) F hKm (cm_take hm) dL_law_287 (cwV 5 F.2.2.2.2.1 gL_law_X8_take rfl rfl rfl (by decide +kernel) ⟨(Nat.le_of_ble_eq_true rfl), (Nat.le_of_ble_eq_true rfl)⟩) 0 rfl rfl rfl rfl rfl (Nat.le_of_ble_eq_true rfl) ⟨Nat.le_trans (show 40 + 7 * i + 13 ≤ 50000 by omega) kl_rc, Nat.le_trans (show 14772 + 107 * i + 577 ≤ 500000 by omega) kl_rs⟩ ?_
  refine kw_icmp_eq F dL_law_290 (tgt := 1235) (by decide) (fun _ => ?_) (fun hc => absurd hr hc)
  refine kn_widen (k := 40 + 7 * (i + 6)) (n := 14772 + 107 * (i + 6)) (by show 40 + 7 * i + 13 ≤ _; omega) (by show 14772 + 107 * i + 577 ≤ _; omega) ?_
  exact kk u.1 u.2 om.2 hI'
set_option maxRecDepth 20000 in
set_option maxHeartbeats 1000000 in
theorem kl_case5 {p : Program} {l : Launch} {e : Env} {s : State} {m : MethodId} {below : List Frame} {meth : Method} {c : Code} {D : va_G} {cA : Nat → ClassId} {h0 h1 b L i : Nat} {qx qm : Nat → Nat} {xs : Nat → Int32} {Q : State → Prop} {zx : kx_S} {P : va_W} {zm : km_S} {Inv : kx_S → va_W → km_S → Prop} (F : kj_Fx p s m #[Value.ref b] meth c cL_law 4 wsL_law RL ret D (kx_T cA) (fun q => s.heap.size ≤ q)) (hN : kn_N s) (hKm : va_K D vwCl (km_T (kl_cM cA)) s) (hX : va_X b L xs s s.heap) (hbl : b < s.heap.size) (hi : i + 6 ≤ 3072) (hin : ∀ j : Int32, j.toNatClampNeg < 6 ∧ 0 ≤ j → vp_in (nI i + j) L) (hI : Inv zx P zm) (hs : kl_s5 cA Inv)
    (kk : ∀ zx' P' zm', Inv zx' P' zm' → kj_J p l e room_1 s m #[Value.ref b] below meth c (40 + 7 * (i + 6)) (14772 + 107 * (i + 6)) Q 4 D (fun q => s.heap.size ≤ q) (km_w (kl_cM cA) h1 qm zm' ++ kx_W cA h0 qx P' zx') 1235 [(0, .ref b), (1, .ref h0), (2, .ref h1), (3, .int (nI i))] []) : kj_J p l e room_1 s m #[Value.ref b] below meth c (40 + 7 * i) (14772 + 107 * i) Q 4 D (fun q => s.heap.size ≤ q) (km_w (kl_cM cA) h1 qm zm ++ kx_W cA h0 qx P zx) 295 [(0, .ref b), (1, .ref h0), (2, .ref h1), (3, .int (nI i))] [] := by
  have h := hs zx P zm hI (xs (nI i + 1).toNatClampNeg) (xs (nI i + 2).toNatClampNeg) (xs (nI i + 3).toNatClampNeg) (xs (nI i + 4).toNatClampNeg) (xs (nI i + 5).toNatClampNeg)
  refine kj_aload_n F dL_law_295 1 rfl rfl ?_
  refine kj_aload_n F dL_law_296 0 rfl rfl ?_
  refine kj_iload_n F dL_law_297 3 rfl rfl ?_
  refine kj_iconst F dL_law_298 (v := 1) (by decide) ?_
  refine kj_iadd F dL_law_299 ?_
  refine kl_sld F hX hbl dL_law_300 (hin 1 (by decide)) ?_
  refine kj_aload_n F dL_law_301 0 rfl rfl ?_
  refine kj_iload_n F dL_law_302 3 rfl rfl ?_
  refine kj_iconst F dL_law_303 (v := 2) (by decide) ?_
  refine kj_iadd F dL_law_304 ?_
  refine kl_sld F hX hbl dL_law_305 (hin 2 (by decide)) ?_
  refine kj_aload_n F dL_law_306 0 rfl rfl ?_
  refine kj_iload_n F dL_law_307 3 rfl rfl ?_
  refine kj_iconst F dL_law_308 (v := 3) (by decide) ?_
  refine kj_iadd F dL_law_309 ?_
  refine kl_sld F hX hbl dL_law_310 (hin 3 (by decide)) ?_
  refine kj_aload_n F dL_law_311 0 rfl rfl ?_
  refine kj_iload_n F dL_law_312 3 rfl rfl ?_
  refine kj_iconst F dL_law_313 (v := 4) (by decide) ?_
  refine kj_iadd F dL_law_314 ?_
  refine kl_sld F hX hbl dL_law_315 (hin 4 (by decide)) ?_
  refine kj_aload_n F dL_law_316 0 rfl rfl ?_
  refine kj_iload_n F dL_law_317 3 rfl rfl ?_
  refine kj_iconst F dL_law_318 (v := 5) (by decide) ?_
  refine kj_iadd F dL_law_319 ?_
  refine kl_sld F hX hbl dL_law_320 (hin 5 (by decide)) ?_
  refine kl_xwi (w := kx_V cA h0 qx) (As := [.int (xs (nI i + 1).toNatClampNeg), .int (xs (nI i + 2).toNatClampNeg), .int (xs (nI i + 3).toNatClampNeg), .int (xs (nI i + 4).toNatClampNeg), .int (xs (nI i + 5).toNatClampNeg)]) (rest := []) F hN (dc_drawn h) dL_law_321 (cwV 5 F.2.2.2.2.1 gL_law_X7_drawn rfl rfl rfl (by decide +kernel) ⟨(Nat.le_of_ble_eq_true rfl), (Nat.le_of_ble_eq_true rfl)⟩) 0 rfl rfl rfl rfl rfl (Nat.le_of_ble_eq_true rfl) ⟨Nat.le_trans (show 40 + 7 * i + 13 ≤ 50000 by omega) kl_rc, Nat.le_trans (show 14772 + 107 * i + 577 ≤ 500000 by omega) kl_rs⟩ (fun r u h => ?_)
  obtain ⟨om, hm, hr, hI'⟩ := h
  refine kj_cast (ww' := km_w (kl_cM cA) h1 qm zm ++ kx_W cA h0 qx u.2 u.1) rfl ?_
  refine kj_aload_n F dL_law_324 2 rfl rfl ?_
  refine kj_aload_n F dL_law_325 0 rfl rfl ?_
  refine kj_iload_n F dL_law_326 3 rfl rfl ?_
  refine kj_iconst F dL_law_327 (v := 1) (by decide) ?_
  refine kj_iadd F dL_law_328 ?_
  refine kl_sld F hX hbl dL_law_329 (hin 1 (by decide)) ?_
  refine kj_aload_n F dL_law_330 0 rfl rfl ?_
  refine kj_iload_n F dL_law_331 3 rfl rfl ?_
  refine kj_iconst F dL_law_332 (v := 2) (by decide) ?_
  refine kj_iadd F dL_law_333 ?_
  refine kl_sld F hX hbl dL_law_334 (hin 2 (by decide)) ?_
  refine kj_aload_n F dL_law_335 0 rfl rfl ?_
  refine kj_iload_n F dL_law_336 3 rfl rfl ?_
  refine kj_iconst F dL_law_337 (v := 3) (by decide) ?_
  refine kj_iadd F dL_law_338 ?_
  refine kl_sld F hX hbl dL_law_339 (hin 3 (by decide)) ?_
  refine kj_aload_n F dL_law_340 0 rfl rfl ?_
  refine kj_iload_n F dL_law_341 3 rfl rfl ?_
  refine kj_iconst F dL_law_342 (v := 4) (by decide) ?_
  refine kj_iadd F dL_law_343 ?_
  refine kl_sld F hX hbl dL_law_344 (hin 4 (by decide)) ?_
  refine kj_aload_n F dL_law_345 0 rfl rfl ?_
  refine kj_iload_n F dL_law_346 3 rfl rfl ?_
  refine kj_iconst F dL_law_347 (v := 5) (by decide) ?_
  refine kj_iadd F dL_law_348 ?_
  refine kl_sld F hX hbl dL_law_349 (hin 5 (by decide)) ?_
  refine kl_moi (w := km_w (kl_cM cA) h1 qm) (As := [.int (xs (nI i + 1).toNatClampNeg), .int (xs (nI i + 2).toNatClampNeg), .int (xs (nI i + 3).toNatClampNeg), .int (xs (nI i + 4).toNatClampNeg), .int (xs (nI i + 5).toNatClampNeg)]) (rest := [.int r]) F hKm (cm_drawn hm) dL_law_350 (cwV 5 F.2.2.2.2.1 gL_law_X8_drawn rfl rfl rfl (by decide +kernel) ⟨(Nat.le_of_ble_eq_true rfl), (Nat.le_of_ble_eq_true rfl)⟩) 0 rfl rfl rfl rfl rfl (Nat.le_of_ble_eq_true rfl) ⟨Nat.le_trans (show 40 + 7 * i + 13 ≤ 50000 by omega) kl_rc, Nat.le_trans (show 14772 + 107 * i + 577 ≤ 500000 by omega) kl_rs⟩ ?_
  refine kw_icmp_eq F dL_law_353 (tgt := 1235) (by decide) (fun _ => ?_) (fun hc => absurd hr hc)
  refine kn_widen (k := 40 + 7 * (i + 6)) (n := 14772 + 107 * (i + 6)) (by show 40 + 7 * i + 13 ≤ _; omega) (by show 14772 + 107 * i + 577 ≤ _; omega) ?_
  exact kk u.1 u.2 om.2 hI'
set_option maxRecDepth 20000 in
set_option maxHeartbeats 1000000 in
theorem kl_case6 {p : Program} {l : Launch} {e : Env} {s : State} {m : MethodId} {below : List Frame} {meth : Method} {c : Code} {D : va_G} {cA : Nat → ClassId} {h0 h1 b L i : Nat} {qx qm : Nat → Nat} {xs : Nat → Int32} {Q : State → Prop} {zx : kx_S} {P : va_W} {zm : km_S} {Inv : kx_S → va_W → km_S → Prop} (F : kj_Fx p s m #[Value.ref b] meth c cL_law 4 wsL_law RL ret D (kx_T cA) (fun q => s.heap.size ≤ q)) (hN : kn_N s) (hKm : va_K D vwCl (km_T (kl_cM cA)) s) (hX : va_X b L xs s s.heap) (hbl : b < s.heap.size) (hi : i + 6 ≤ 3072) (hin : ∀ j : Int32, j.toNatClampNeg < 6 ∧ 0 ≤ j → vp_in (nI i + j) L) (hI : Inv zx P zm) (hs : kl_s6 cA Inv)
    (kk : ∀ zx' P' zm', Inv zx' P' zm' → kj_J p l e room_1 s m #[Value.ref b] below meth c (40 + 7 * (i + 6)) (14772 + 107 * (i + 6)) Q 4 D (fun q => s.heap.size ≤ q) (km_w (kl_cM cA) h1 qm zm' ++ kx_W cA h0 qx P' zx') 1235 [(0, .ref b), (1, .ref h0), (2, .ref h1), (3, .int (nI i))] []) : kj_J p l e room_1 s m #[Value.ref b] below meth c (40 + 7 * i) (14772 + 107 * i) Q 4 D (fun q => s.heap.size ≤ q) (km_w (kl_cM cA) h1 qm zm ++ kx_W cA h0 qx P zx) 358 [(0, .ref b), (1, .ref h0), (2, .ref h1), (3, .int (nI i))] [] := by
  have h := hs zx P zm hI (xs (nI i + 1).toNatClampNeg) (xs (nI i + 2).toNatClampNeg) (xs (nI i + 3).toNatClampNeg)
  refine kj_aload_n F dL_law_358 1 rfl rfl ?_
  refine kj_aload_n F dL_law_359 0 rfl rfl ?_
  refine kj_iload_n F dL_law_360 3 rfl rfl ?_
  refine kj_iconst F dL_law_361 (v := 1) (by decide) ?_
  refine kj_iadd F dL_law_362 ?_
  refine kl_sld F hX hbl dL_law_363 (hin 1 (by decide)) ?_
  refine kj_aload_n F dL_law_364 0 rfl rfl ?_
  refine kj_iload_n F dL_law_365 3 rfl rfl ?_
  refine kj_iconst F dL_law_366 (v := 2) (by decide) ?_
  refine kj_iadd F dL_law_367 ?_
  refine kl_sld F hX hbl dL_law_368 (hin 2 (by decide)) ?_
  refine kj_aload_n F dL_law_369 0 rfl rfl ?_
  refine kj_iload_n F dL_law_370 3 rfl rfl ?_
  refine kj_iconst F dL_law_371 (v := 3) (by decide) ?_
  refine kj_iadd F dL_law_372 ?_
  refine kl_sld F hX hbl dL_law_373 (hin 3 (by decide)) ?_
  refine kl_xwi (w := kx_V cA h0 qx) (As := [.int (xs (nI i + 1).toNatClampNeg), .int (xs (nI i + 2).toNatClampNeg), .int (xs (nI i + 3).toNatClampNeg)]) (rest := []) F hN (dc_lay h) dL_law_374 (cwV 3 F.2.2.2.2.1 gL_law_X7_lay rfl rfl rfl (by decide +kernel) ⟨(Nat.le_of_ble_eq_true rfl), (Nat.le_of_ble_eq_true rfl)⟩) 0 rfl rfl rfl rfl rfl (Nat.le_of_ble_eq_true rfl) ⟨Nat.le_trans (show 40 + 7 * i + 1 ≤ 50000 by omega) kl_rc, Nat.le_trans (show 14772 + 107 * i + 2 ≤ 500000 by omega) kl_rs⟩ (fun r u h => ?_)
  obtain ⟨om, hm, hr, hI'⟩ := h
  refine kj_cast (ww' := km_w (kl_cM cA) h1 qm zm ++ kx_W cA h0 qx u.2 u.1) rfl ?_
  refine kj_aload_n F dL_law_377 2 rfl rfl ?_
  refine kj_aload_n F dL_law_378 0 rfl rfl ?_
  refine kj_iload_n F dL_law_379 3 rfl rfl ?_
  refine kj_iconst F dL_law_380 (v := 1) (by decide) ?_
  refine kj_iadd F dL_law_381 ?_
  refine kl_sld F hX hbl dL_law_382 (hin 1 (by decide)) ?_
  refine kj_aload_n F dL_law_383 0 rfl rfl ?_
  refine kj_iload_n F dL_law_384 3 rfl rfl ?_
  refine kj_iconst F dL_law_385 (v := 2) (by decide) ?_
  refine kj_iadd F dL_law_386 ?_
  refine kl_sld F hX hbl dL_law_387 (hin 2 (by decide)) ?_
  refine kj_aload_n F dL_law_388 0 rfl rfl ?_
  refine kj_iload_n F dL_law_389 3 rfl rfl ?_
  refine kj_iconst F dL_law_390 (v := 3) (by decide) ?_
  refine kj_iadd F dL_law_391 ?_
  refine kl_sld F hX hbl dL_law_392 (hin 3 (by decide)) ?_
  refine kl_moi (w := km_w (kl_cM cA) h1 qm) (As := [.int (xs (nI i + 1).toNatClampNeg), .int (xs (nI i + 2).toNatClampNeg), .int (xs (nI i + 3).toNatClampNeg)]) (rest := [.int r]) F hKm (cm_lay hm) dL_law_393 (cwV 3 F.2.2.2.2.1 gL_law_X8_lay rfl rfl rfl (by decide +kernel) ⟨(Nat.le_of_ble_eq_true rfl), (Nat.le_of_ble_eq_true rfl)⟩) 0 rfl rfl rfl rfl rfl (Nat.le_of_ble_eq_true rfl) ⟨Nat.le_trans (show 40 + 7 * i + 1 ≤ 50000 by omega) kl_rc, Nat.le_trans (show 14772 + 107 * i + 2 ≤ 500000 by omega) kl_rs⟩ ?_
  refine kw_icmp_eq F dL_law_396 (tgt := 1235) (by decide) (fun _ => ?_) (fun hc => absurd hr hc)
  refine kn_widen (k := 40 + 7 * (i + 6)) (n := 14772 + 107 * (i + 6)) (by show 40 + 7 * i + 1 ≤ _; omega) (by show 14772 + 107 * i + 2 ≤ _; omega) ?_
  exact kk u.1 u.2 om.2 hI'
set_option maxRecDepth 20000 in
set_option maxHeartbeats 1000000 in
theorem kl_case7 {p : Program} {l : Launch} {e : Env} {s : State} {m : MethodId} {below : List Frame} {meth : Method} {c : Code} {D : va_G} {cA : Nat → ClassId} {h0 h1 b L i : Nat} {qx qm : Nat → Nat} {xs : Nat → Int32} {Q : State → Prop} {zx : kx_S} {P : va_W} {zm : km_S} {Inv : kx_S → va_W → km_S → Prop} (F : kj_Fx p s m #[Value.ref b] meth c cL_law 4 wsL_law RL ret D (kx_T cA) (fun q => s.heap.size ≤ q)) (hN : kn_N s) (hKm : va_K D vwCl (km_T (kl_cM cA)) s) (hX : va_X b L xs s s.heap) (hbl : b < s.heap.size) (hi : i + 6 ≤ 3072) (hin : ∀ j : Int32, j.toNatClampNeg < 6 ∧ 0 ≤ j → vp_in (nI i + j) L) (hI : Inv zx P zm) (hs : kl_s7 cA Inv)
    (kk : ∀ zx' P' zm', Inv zx' P' zm' → kj_J p l e room_1 s m #[Value.ref b] below meth c (40 + 7 * (i + 6)) (14772 + 107 * (i + 6)) Q 4 D (fun q => s.heap.size ≤ q) (km_w (kl_cM cA) h1 qm zm' ++ kx_W cA h0 qx P' zx') 1235 [(0, .ref b), (1, .ref h0), (2, .ref h1), (3, .int (nI i))] []) : kj_J p l e room_1 s m #[Value.ref b] below meth c (40 + 7 * i) (14772 + 107 * i) Q 4 D (fun q => s.heap.size ≤ q) (km_w (kl_cM cA) h1 qm zm ++ kx_W cA h0 qx P zx) 401 [(0, .ref b), (1, .ref h0), (2, .ref h1), (3, .int (nI i))] [] := by
  have h := hs zx P zm hI (xs (nI i + 1).toNatClampNeg) (xs (nI i + 2).toNatClampNeg) (xs (nI i + 3).toNatClampNeg)
  refine kj_aload_n F dL_law_401 1 rfl rfl ?_
  refine kj_aload_n F dL_law_402 0 rfl rfl ?_
  refine kj_iload_n F dL_law_403 3 rfl rfl ?_
  refine kj_iconst F dL_law_404 (v := 1) (by decide) ?_
  refine kj_iadd F dL_law_405 ?_
  refine kl_sld F hX hbl dL_law_406 (hin 1 (by decide)) ?_
  refine kj_aload_n F dL_law_407 0 rfl rfl ?_
  refine kj_iload_n F dL_law_408 3 rfl rfl ?_
  refine kj_iconst F dL_law_409 (v := 2) (by decide) ?_
  refine kj_iadd F dL_law_410 ?_
  refine kl_sld F hX hbl dL_law_411 (hin 2 (by decide)) ?_
  refine kj_aload_n F dL_law_412 0 rfl rfl ?_
  refine kj_iload_n F dL_law_413 3 rfl rfl ?_
  refine kj_iconst F dL_law_414 (v := 3) (by decide) ?_
  refine kj_iadd F dL_law_415 ?_
  refine kl_sld F hX hbl dL_law_416 (hin 3 (by decide)) ?_
  refine kl_xwi (w := kx_V cA h0 qx) (As := [.int (xs (nI i + 1).toNatClampNeg), .int (xs (nI i + 2).toNatClampNeg), .int (xs (nI i + 3).toNatClampNeg)]) (rest := []) F hN (dc_off h) dL_law_417 (cwV 3 F.2.2.2.2.1 gL_law_X7_off rfl rfl rfl (by decide +kernel) ⟨(Nat.le_of_ble_eq_true rfl), (Nat.le_of_ble_eq_true rfl)⟩) 0 rfl rfl rfl rfl rfl (Nat.le_of_ble_eq_true rfl) ⟨Nat.le_trans (show 40 + 7 * i + 1 ≤ 50000 by omega) kl_rc, Nat.le_trans (show 14772 + 107 * i + 2 ≤ 500000 by omega) kl_rs⟩ (fun r u h => ?_)
  obtain ⟨om, hm, hr, hI'⟩ := h
  refine kj_cast (ww' := km_w (kl_cM cA) h1 qm zm ++ kx_W cA h0 qx u.2 u.1) rfl ?_
  refine kj_aload_n F dL_law_420 2 rfl rfl ?_
  refine kj_aload_n F dL_law_421 0 rfl rfl ?_
  refine kj_iload_n F dL_law_422 3 rfl rfl ?_
  refine kj_iconst F dL_law_423 (v := 1) (by decide) ?_
  refine kj_iadd F dL_law_424 ?_
  refine kl_sld F hX hbl dL_law_425 (hin 1 (by decide)) ?_
  refine kj_aload_n F dL_law_426 0 rfl rfl ?_
  refine kj_iload_n F dL_law_427 3 rfl rfl ?_
  refine kj_iconst F dL_law_428 (v := 2) (by decide) ?_
  refine kj_iadd F dL_law_429 ?_
  refine kl_sld F hX hbl dL_law_430 (hin 2 (by decide)) ?_
  refine kj_aload_n F dL_law_431 0 rfl rfl ?_
  refine kj_iload_n F dL_law_432 3 rfl rfl ?_
  refine kj_iconst F dL_law_433 (v := 3) (by decide) ?_
  refine kj_iadd F dL_law_434 ?_
  refine kl_sld F hX hbl dL_law_435 (hin 3 (by decide)) ?_
  refine kl_moi (w := km_w (kl_cM cA) h1 qm) (As := [.int (xs (nI i + 1).toNatClampNeg), .int (xs (nI i + 2).toNatClampNeg), .int (xs (nI i + 3).toNatClampNeg)]) (rest := [.int r]) F hKm (cm_off hm) dL_law_436 (cwV 3 F.2.2.2.2.1 gL_law_X8_off rfl rfl rfl (by decide +kernel) ⟨(Nat.le_of_ble_eq_true rfl), (Nat.le_of_ble_eq_true rfl)⟩) 0 rfl rfl rfl rfl rfl (Nat.le_of_ble_eq_true rfl) ⟨Nat.le_trans (show 40 + 7 * i + 1 ≤ 50000 by omega) kl_rc, Nat.le_trans (show 14772 + 107 * i + 2 ≤ 500000 by omega) kl_rs⟩ ?_
  refine kw_icmp_eq F dL_law_439 (tgt := 1235) (by decide) (fun _ => ?_) (fun hc => absurd hr hc)
  refine kn_widen (k := 40 + 7 * (i + 6)) (n := 14772 + 107 * (i + 6)) (by show 40 + 7 * i + 1 ≤ _; omega) (by show 14772 + 107 * i + 2 ≤ _; omega) ?_
  exact kk u.1 u.2 om.2 hI'
set_option maxRecDepth 20000 in
set_option maxHeartbeats 1000000 in
theorem kl_case8 {p : Program} {l : Launch} {e : Env} {s : State} {m : MethodId} {below : List Frame} {meth : Method} {c : Code} {D : va_G} {cA : Nat → ClassId} {h0 h1 b L i : Nat} {qx qm : Nat → Nat} {xs : Nat → Int32} {Q : State → Prop} {zx : kx_S} {P : va_W} {zm : km_S} {Inv : kx_S → va_W → km_S → Prop} (F : kj_Fx p s m #[Value.ref b] meth c cL_law 4 wsL_law RL ret D (kx_T cA) (fun q => s.heap.size ≤ q)) (hN : kn_N s) (hKm : va_K D vwCl (km_T (kl_cM cA)) s) (hX : va_X b L xs s s.heap) (hbl : b < s.heap.size) (hi : i + 6 ≤ 3072) (hin : ∀ j : Int32, j.toNatClampNeg < 6 ∧ 0 ≤ j → vp_in (nI i + j) L) (hI : Inv zx P zm) (hs : kl_s8 cA Inv)
    (kk : ∀ zx' P' zm', Inv zx' P' zm' → kj_J p l e room_1 s m #[Value.ref b] below meth c (40 + 7 * (i + 6)) (14772 + 107 * (i + 6)) Q 4 D (fun q => s.heap.size ≤ q) (km_w (kl_cM cA) h1 qm zm' ++ kx_W cA h0 qx P' zx') 1235 [(0, .ref b), (1, .ref h0), (2, .ref h1), (3, .int (nI i))] []) : kj_J p l e room_1 s m #[Value.ref b] below meth c (40 + 7 * i) (14772 + 107 * i) Q 4 D (fun q => s.heap.size ≤ q) (km_w (kl_cM cA) h1 qm zm ++ kx_W cA h0 qx P zx) 444 [(0, .ref b), (1, .ref h0), (2, .ref h1), (3, .int (nI i))] [] := by
  have h := hs zx P zm hI (xs (nI i + 1).toNatClampNeg) (xs (nI i + 2).toNatClampNeg) (xs (nI i + 3).toNatClampNeg)
  refine kj_aload_n F dL_law_444 1 rfl rfl ?_
  refine kj_aload_n F dL_law_445 0 rfl rfl ?_
  refine kj_iload_n F dL_law_446 3 rfl rfl ?_
  refine kj_iconst F dL_law_447 (v := 1) (by decide) ?_
  refine kj_iadd F dL_law_448 ?_
  refine kl_sld F hX hbl dL_law_449 (hin 1 (by decide)) ?_
  refine kj_aload_n F dL_law_450 0 rfl rfl ?_
  refine kj_iload_n F dL_law_451 3 rfl rfl ?_
  refine kj_iconst F dL_law_452 (v := 2) (by decide) ?_
  refine kj_iadd F dL_law_453 ?_
  refine kl_sld F hX hbl dL_law_454 (hin 2 (by decide)) ?_
  refine kj_aload_n F dL_law_455 0 rfl rfl ?_
  refine kj_iload_n F dL_law_456 3 rfl rfl ?_
  refine kj_iconst F dL_law_457 (v := 3) (by decide) ?_
  refine kj_iadd F dL_law_458 ?_
  refine kl_sld F hX hbl dL_law_459 (hin 3 (by decide)) ?_
  refine kl_xwi (w := kx_V cA h0 qx) (As := [.int (xs (nI i + 1).toNatClampNeg), .int (xs (nI i + 2).toNatClampNeg), .int (xs (nI i + 3).toNatClampNeg)]) (rest := []) F hN (dc_turn h) dL_law_460 (cwV 3 F.2.2.2.2.1 gL_law_X7_turn rfl rfl rfl (by decide +kernel) ⟨(Nat.le_of_ble_eq_true rfl), (Nat.le_of_ble_eq_true rfl)⟩) 0 rfl rfl rfl rfl rfl (Nat.le_of_ble_eq_true rfl) ⟨Nat.le_trans (show 40 + 7 * i + 2 ≤ 50000 by omega) kl_rc, Nat.le_trans (show 14772 + 107 * i + 5 ≤ 500000 by omega) kl_rs⟩ (fun r u h => ?_)
  obtain ⟨om, hm, hr, hI'⟩ := h
  refine kj_cast (ww' := km_w (kl_cM cA) h1 qm zm ++ kx_W cA h0 qx u.2 u.1) rfl ?_
  refine kj_aload_n F dL_law_463 2 rfl rfl ?_
  refine kj_aload_n F dL_law_464 0 rfl rfl ?_
  refine kj_iload_n F dL_law_465 3 rfl rfl ?_
  refine kj_iconst F dL_law_466 (v := 1) (by decide) ?_
  refine kj_iadd F dL_law_467 ?_
  refine kl_sld F hX hbl dL_law_468 (hin 1 (by decide)) ?_
  refine kj_aload_n F dL_law_469 0 rfl rfl ?_
  refine kj_iload_n F dL_law_470 3 rfl rfl ?_
  refine kj_iconst F dL_law_471 (v := 2) (by decide) ?_
  refine kj_iadd F dL_law_472 ?_
  refine kl_sld F hX hbl dL_law_473 (hin 2 (by decide)) ?_
  refine kj_aload_n F dL_law_474 0 rfl rfl ?_
  refine kj_iload_n F dL_law_475 3 rfl rfl ?_
  refine kj_iconst F dL_law_476 (v := 3) (by decide) ?_
  refine kj_iadd F dL_law_477 ?_
  refine kl_sld F hX hbl dL_law_478 (hin 3 (by decide)) ?_
  refine kl_moi (w := km_w (kl_cM cA) h1 qm) (As := [.int (xs (nI i + 1).toNatClampNeg), .int (xs (nI i + 2).toNatClampNeg), .int (xs (nI i + 3).toNatClampNeg)]) (rest := [.int r]) F hKm (cm_turn hm) dL_law_479 (cwV 3 F.2.2.2.2.1 gL_law_X8_turn rfl rfl rfl (by decide +kernel) ⟨(Nat.le_of_ble_eq_true rfl), (Nat.le_of_ble_eq_true rfl)⟩) 0 rfl rfl rfl rfl rfl (Nat.le_of_ble_eq_true rfl) ⟨Nat.le_trans (show 40 + 7 * i + 2 ≤ 50000 by omega) kl_rc, Nat.le_trans (show 14772 + 107 * i + 5 ≤ 500000 by omega) kl_rs⟩ ?_
  refine kw_icmp_eq F dL_law_482 (tgt := 1235) (by decide) (fun _ => ?_) (fun hc => absurd hr hc)
  refine kn_widen (k := 40 + 7 * (i + 6)) (n := 14772 + 107 * (i + 6)) (by show 40 + 7 * i + 2 ≤ _; omega) (by show 14772 + 107 * i + 5 ≤ _; omega) ?_
  exact kk u.1 u.2 om.2 hI'
set_option maxRecDepth 20000 in
set_option maxHeartbeats 1000000 in
theorem kl_case9 {p : Program} {l : Launch} {e : Env} {s : State} {m : MethodId} {below : List Frame} {meth : Method} {c : Code} {D : va_G} {cA : Nat → ClassId} {h0 h1 b L i : Nat} {qx qm : Nat → Nat} {xs : Nat → Int32} {Q : State → Prop} {zx : kx_S} {P : va_W} {zm : km_S} {Inv : kx_S → va_W → km_S → Prop} (F : kj_Fx p s m #[Value.ref b] meth c cL_law 4 wsL_law RL ret D (kx_T cA) (fun q => s.heap.size ≤ q)) (hN : kn_N s) (hKm : va_K D vwCl (km_T (kl_cM cA)) s) (hX : va_X b L xs s s.heap) (hbl : b < s.heap.size) (hi : i + 6 ≤ 3072) (hin : ∀ j : Int32, j.toNatClampNeg < 6 ∧ 0 ≤ j → vp_in (nI i + j) L) (hI : Inv zx P zm) (hs : kl_s9 cA Inv)
    (kk : ∀ zx' P' zm', Inv zx' P' zm' → kj_J p l e room_1 s m #[Value.ref b] below meth c (40 + 7 * (i + 6)) (14772 + 107 * (i + 6)) Q 4 D (fun q => s.heap.size ≤ q) (km_w (kl_cM cA) h1 qm zm' ++ kx_W cA h0 qx P' zx') 1235 [(0, .ref b), (1, .ref h0), (2, .ref h1), (3, .int (nI i))] []) : kj_J p l e room_1 s m #[Value.ref b] below meth c (40 + 7 * i) (14772 + 107 * i) Q 4 D (fun q => s.heap.size ≤ q) (km_w (kl_cM cA) h1 qm zm ++ kx_W cA h0 qx P zx) 487 [(0, .ref b), (1, .ref h0), (2, .ref h1), (3, .int (nI i))] [] := by
  have h := hs zx P zm hI (xs (nI i + 1).toNatClampNeg) (xs (nI i + 2).toNatClampNeg) (xs (nI i + 3).toNatClampNeg) (xs (nI i + 4).toNatClampNeg)
  refine kj_aload_n F dL_law_487 1 rfl rfl ?_
  refine kj_aload_n F dL_law_488 0 rfl rfl ?_
  refine kj_iload_n F dL_law_489 3 rfl rfl ?_
  refine kj_iconst F dL_law_490 (v := 1) (by decide) ?_
  refine kj_iadd F dL_law_491 ?_
  refine kl_sld F hX hbl dL_law_492 (hin 1 (by decide)) ?_
  refine kj_aload_n F dL_law_493 0 rfl rfl ?_
  refine kj_iload_n F dL_law_494 3 rfl rfl ?_
  refine kj_iconst F dL_law_495 (v := 2) (by decide) ?_
  refine kj_iadd F dL_law_496 ?_
  refine kl_sld F hX hbl dL_law_497 (hin 2 (by decide)) ?_
  refine kj_aload_n F dL_law_498 0 rfl rfl ?_
  refine kj_iload_n F dL_law_499 3 rfl rfl ?_
  refine kj_iconst F dL_law_500 (v := 3) (by decide) ?_
  refine kj_iadd F dL_law_501 ?_
  refine kl_sld F hX hbl dL_law_502 (hin 3 (by decide)) ?_
  refine kj_aload_n F dL_law_503 0 rfl rfl ?_
  refine kj_iload_n F dL_law_504 3 rfl rfl ?_
  refine kj_iconst F dL_law_505 (v := 4) (by decide) ?_
  refine kj_iadd F dL_law_506 ?_
  refine kl_sld F hX hbl dL_law_507 (hin 4 (by decide)) ?_
  refine kl_xwi (w := kx_V cA h0 qx) (As := [.int (xs (nI i + 1).toNatClampNeg), .int (xs (nI i + 2).toNatClampNeg), .int (xs (nI i + 3).toNatClampNeg), .int (xs (nI i + 4).toNatClampNeg)]) (rest := []) F hN (dc_join h) dL_law_508 (cwV 4 F.2.2.2.2.1 gL_law_X7_join rfl rfl rfl (by decide +kernel) ⟨(Nat.le_of_ble_eq_true rfl), (Nat.le_of_ble_eq_true rfl)⟩) 0 rfl rfl rfl rfl rfl (Nat.le_of_ble_eq_true rfl) ⟨Nat.le_trans (show 40 + 7 * i + 1 ≤ 50000 by omega) kl_rc, Nat.le_trans (show 14772 + 107 * i + 2 ≤ 500000 by omega) kl_rs⟩ (fun r u h => ?_)
  obtain ⟨om, hm, hr, hI'⟩ := h
  refine kj_cast (ww' := km_w (kl_cM cA) h1 qm zm ++ kx_W cA h0 qx u.2 u.1) rfl ?_
  refine kj_aload_n F dL_law_511 2 rfl rfl ?_
  refine kj_aload_n F dL_law_512 0 rfl rfl ?_
  refine kj_iload_n F dL_law_513 3 rfl rfl ?_
  refine kj_iconst F dL_law_514 (v := 1) (by decide) ?_
  refine kj_iadd F dL_law_515 ?_
  refine kl_sld F hX hbl dL_law_516 (hin 1 (by decide)) ?_
  refine kj_aload_n F dL_law_517 0 rfl rfl ?_
  refine kj_iload_n F dL_law_518 3 rfl rfl ?_
  refine kj_iconst F dL_law_519 (v := 2) (by decide) ?_
  refine kj_iadd F dL_law_520 ?_
  refine kl_sld F hX hbl dL_law_521 (hin 2 (by decide)) ?_
  refine kj_aload_n F dL_law_522 0 rfl rfl ?_
  refine kj_iload_n F dL_law_523 3 rfl rfl ?_
  refine kj_iconst F dL_law_524 (v := 3) (by decide) ?_
  refine kj_iadd F dL_law_525 ?_
  refine kl_sld F hX hbl dL_law_526 (hin 3 (by decide)) ?_
  refine kj_aload_n F dL_law_527 0 rfl rfl ?_
  refine kj_iload_n F dL_law_528 3 rfl rfl ?_
  refine kj_iconst F dL_law_529 (v := 4) (by decide) ?_
  refine kj_iadd F dL_law_530 ?_
  refine kl_sld F hX hbl dL_law_531 (hin 4 (by decide)) ?_
  refine kl_moi (w := km_w (kl_cM cA) h1 qm) (As := [.int (xs (nI i + 1).toNatClampNeg), .int (xs (nI i + 2).toNatClampNeg), .int (xs (nI i + 3).toNatClampNeg), .int (xs (nI i + 4).toNatClampNeg)]) (rest := [.int r]) F hKm (cm_join hm) dL_law_532 (cwV 4 F.2.2.2.2.1 gL_law_X8_join rfl rfl rfl (by decide +kernel) ⟨(Nat.le_of_ble_eq_true rfl), (Nat.le_of_ble_eq_true rfl)⟩) 0 rfl rfl rfl rfl rfl (Nat.le_of_ble_eq_true rfl) ⟨Nat.le_trans (show 40 + 7 * i + 1 ≤ 50000 by omega) kl_rc, Nat.le_trans (show 14772 + 107 * i + 2 ≤ 500000 by omega) kl_rs⟩ ?_
  refine kw_icmp_eq F dL_law_535 (tgt := 1235) (by decide) (fun _ => ?_) (fun hc => absurd hr hc)
  refine kn_widen (k := 40 + 7 * (i + 6)) (n := 14772 + 107 * (i + 6)) (by show 40 + 7 * i + 1 ≤ _; omega) (by show 14772 + 107 * i + 2 ≤ _; omega) ?_
  exact kk u.1 u.2 om.2 hI'
set_option maxRecDepth 20000 in
set_option maxHeartbeats 1000000 in
theorem kl_case10 {p : Program} {l : Launch} {e : Env} {s : State} {m : MethodId} {below : List Frame} {meth : Method} {c : Code} {D : va_G} {cA : Nat → ClassId} {h0 h1 b L i : Nat} {qx qm : Nat → Nat} {xs : Nat → Int32} {Q : State → Prop} {zx : kx_S} {P : va_W} {zm : km_S} {Inv : kx_S → va_W → km_S → Prop} (F : kj_Fx p s m #[Value.ref b] meth c cL_law 4 wsL_law RL ret D (kx_T cA) (fun q => s.heap.size ≤ q)) (hN : kn_N s) (hKm : va_K D vwCl (km_T (kl_cM cA)) s) (hX : va_X b L xs s s.heap) (hbl : b < s.heap.size) (hi : i + 6 ≤ 3072) (hin : ∀ j : Int32, j.toNatClampNeg < 6 ∧ 0 ≤ j → vp_in (nI i + j) L) (hI : Inv zx P zm) (hs : kl_s10 cA Inv)
    (kk : ∀ zx' P' zm', Inv zx' P' zm' → kj_J p l e room_1 s m #[Value.ref b] below meth c (40 + 7 * (i + 6)) (14772 + 107 * (i + 6)) Q 4 D (fun q => s.heap.size ≤ q) (km_w (kl_cM cA) h1 qm zm' ++ kx_W cA h0 qx P' zx') 1235 [(0, .ref b), (1, .ref h0), (2, .ref h1), (3, .int (nI i))] []) : kj_J p l e room_1 s m #[Value.ref b] below meth c (40 + 7 * i) (14772 + 107 * i) Q 4 D (fun q => s.heap.size ≤ q) (km_w (kl_cM cA) h1 qm zm ++ kx_W cA h0 qx P zx) 540 [(0, .ref b), (1, .ref h0), (2, .ref h1), (3, .int (nI i))] [] := by
  have h := hs zx P zm hI (xs (nI i + 1).toNatClampNeg)
  refine kj_aload_n F dL_law_540 1 rfl rfl ?_
  refine kj_aload_n F dL_law_541 0 rfl rfl ?_
  refine kj_iload_n F dL_law_542 3 rfl rfl ?_
  refine kj_iconst F dL_law_543 (v := 1) (by decide) ?_
  refine kj_iadd F dL_law_544 ?_
  refine kl_sld F hX hbl dL_law_545 (hin 1 (by decide)) ?_
  refine kl_xwi (w := kx_V cA h0 qx) (As := [.int (xs (nI i + 1).toNatClampNeg)]) (rest := []) F hN (dc_drop h) dL_law_546 (cwV 1 F.2.2.2.2.1 gL_law_X7_drop rfl rfl rfl (by decide +kernel) ⟨(Nat.le_of_ble_eq_true rfl), (Nat.le_of_ble_eq_true rfl)⟩) 0 rfl rfl rfl rfl rfl (Nat.le_of_ble_eq_true rfl) ⟨Nat.le_trans (show 40 + 7 * i + 0 ≤ 50000 by omega) kl_rc, Nat.le_trans (show 14772 + 107 * i + 0 ≤ 500000 by omega) kl_rs⟩ (fun r u h => ?_)
  obtain ⟨om, hm, hr, hI'⟩ := h
  refine kj_cast (ww' := km_w (kl_cM cA) h1 qm zm ++ kx_W cA h0 qx u.2 u.1) rfl ?_
  refine kj_aload_n F dL_law_549 2 rfl rfl ?_
  refine kj_aload_n F dL_law_550 0 rfl rfl ?_
  refine kj_iload_n F dL_law_551 3 rfl rfl ?_
  refine kj_iconst F dL_law_552 (v := 1) (by decide) ?_
  refine kj_iadd F dL_law_553 ?_
  refine kl_sld F hX hbl dL_law_554 (hin 1 (by decide)) ?_
  refine kl_moi (w := km_w (kl_cM cA) h1 qm) (As := [.int (xs (nI i + 1).toNatClampNeg)]) (rest := [.int r]) F hKm (cm_drop hm) dL_law_555 (cwV 1 F.2.2.2.2.1 gL_law_X8_drop rfl rfl rfl (by decide +kernel) ⟨(Nat.le_of_ble_eq_true rfl), (Nat.le_of_ble_eq_true rfl)⟩) 0 rfl rfl rfl rfl rfl (Nat.le_of_ble_eq_true rfl) ⟨Nat.le_trans (show 40 + 7 * i + 0 ≤ 50000 by omega) kl_rc, Nat.le_trans (show 14772 + 107 * i + 0 ≤ 500000 by omega) kl_rs⟩ ?_
  refine kw_icmp_eq F dL_law_558 (tgt := 1235) (by decide) (fun _ => ?_) (fun hc => absurd hr hc)
  refine kn_widen (k := 40 + 7 * (i + 6)) (n := 14772 + 107 * (i + 6)) (by show 40 + 7 * i + 0 ≤ _; omega) (by show 14772 + 107 * i + 0 ≤ _; omega) ?_
  exact kk u.1 u.2 om.2 hI'
set_option maxRecDepth 20000 in
set_option maxHeartbeats 1000000 in
theorem kl_case11 {p : Program} {l : Launch} {e : Env} {s : State} {m : MethodId} {below : List Frame} {meth : Method} {c : Code} {D : va_G} {cA : Nat → ClassId} {h0 h1 b L i : Nat} {qx qm : Nat → Nat} {xs : Nat → Int32} {Q : State → Prop} {zx : kx_S} {P : va_W} {zm : km_S} {Inv : kx_S → va_W → km_S → Prop} (F : kj_Fx p s m #[Value.ref b] meth c cL_law 4 wsL_law RL ret D (kx_T cA) (fun q => s.heap.size ≤ q)) (hN : kn_N s) (hKm : va_K D vwCl (km_T (kl_cM cA)) s) (hX : va_X b L xs s s.heap) (hbl : b < s.heap.size) (hi : i + 6 ≤ 3072) (hin : ∀ j : Int32, j.toNatClampNeg < 6 ∧ 0 ≤ j → vp_in (nI i + j) L) (hI : Inv zx P zm) (hs : kl_s11 cA Inv)
    (kk : ∀ zx' P' zm', Inv zx' P' zm' → kj_J p l e room_1 s m #[Value.ref b] below meth c (40 + 7 * (i + 6)) (14772 + 107 * (i + 6)) Q 4 D (fun q => s.heap.size ≤ q) (km_w (kl_cM cA) h1 qm zm' ++ kx_W cA h0 qx P' zx') 1235 [(0, .ref b), (1, .ref h0), (2, .ref h1), (3, .int (nI i))] []) : kj_J p l e room_1 s m #[Value.ref b] below meth c (40 + 7 * i) (14772 + 107 * i) Q 4 D (fun q => s.heap.size ≤ q) (km_w (kl_cM cA) h1 qm zm ++ kx_W cA h0 qx P zx) 563 [(0, .ref b), (1, .ref h0), (2, .ref h1), (3, .int (nI i))] [] := by
  have h := hs zx P zm hI (xs (nI i + 1).toNatClampNeg) (xs (nI i + 2).toNatClampNeg) (xs (nI i + 3).toNatClampNeg)
  refine kj_aload_n F dL_law_563 1 rfl rfl ?_
  refine kj_aload_n F dL_law_564 0 rfl rfl ?_
  refine kj_iload_n F dL_law_565 3 rfl rfl ?_
  refine kj_iconst F dL_law_566 (v := 1) (by decide) ?_
  refine kj_iadd F dL_law_567 ?_
  refine kl_sld F hX hbl dL_law_568 (hin 1 (by decide)) ?_
  refine kj_aload_n F dL_law_569 0 rfl rfl ?_
  refine kj_iload_n F dL_law_570 3 rfl rfl ?_
  refine kj_iconst F dL_law_571 (v := 2) (by decide) ?_
  refine kj_iadd F dL_law_572 ?_
  refine kl_sld F hX hbl dL_law_573 (hin 2 (by decide)) ?_
  refine kj_aload_n F dL_law_574 0 rfl rfl ?_
  refine kj_iload_n F dL_law_575 3 rfl rfl ?_
  refine kj_iconst F dL_law_576 (v := 3) (by decide) ?_
  refine kj_iadd F dL_law_577 ?_
  refine kl_sld F hX hbl dL_law_578 (hin 3 (by decide)) ?_
  obtain ⟨ox, hx1, om, hm, hr, hI'⟩ := h
  refine kl_xoi (w := kx_W cA h0 qx P) (As := [.int (xs (nI i + 1).toNatClampNeg), .int (xs (nI i + 2).toNatClampNeg), .int (xs (nI i + 3).toNatClampNeg)]) (rest := []) F (cc_height hx1) dL_law_579 (cwV 3 F.2.2.2.2.1 gL_law_X7_height rfl rfl rfl (by decide +kernel) ⟨(Nat.le_of_ble_eq_true rfl), (Nat.le_of_ble_eq_true rfl)⟩) 0 rfl rfl rfl rfl rfl (Nat.le_of_ble_eq_true rfl) ⟨Nat.le_trans (show 40 + 7 * i ≤ 50000 by omega) kl_rc, Nat.le_trans (show 14772 + 107 * i ≤ 500000 by omega) kl_rs⟩ ?_
  refine kj_aload_n F dL_law_582 2 rfl rfl ?_
  refine kj_aload_n F dL_law_583 0 rfl rfl ?_
  refine kj_iload_n F dL_law_584 3 rfl rfl ?_
  refine kj_iconst F dL_law_585 (v := 1) (by decide) ?_
  refine kj_iadd F dL_law_586 ?_
  refine kl_sld F hX hbl dL_law_587 (hin 1 (by decide)) ?_
  refine kj_aload_n F dL_law_588 0 rfl rfl ?_
  refine kj_iload_n F dL_law_589 3 rfl rfl ?_
  refine kj_iconst F dL_law_590 (v := 2) (by decide) ?_
  refine kj_iadd F dL_law_591 ?_
  refine kl_sld F hX hbl dL_law_592 (hin 2 (by decide)) ?_
  refine kj_aload_n F dL_law_593 0 rfl rfl ?_
  refine kj_iload_n F dL_law_594 3 rfl rfl ?_
  refine kj_iconst F dL_law_595 (v := 3) (by decide) ?_
  refine kj_iadd F dL_law_596 ?_
  refine kl_sld F hX hbl dL_law_597 (hin 3 (by decide)) ?_
  refine kl_moi (w := km_w (kl_cM cA) h1 qm) (As := [.int (xs (nI i + 1).toNatClampNeg), .int (xs (nI i + 2).toNatClampNeg), .int (xs (nI i + 3).toNatClampNeg)]) (rest := [.int ox.1]) F hKm (cm_height hm) dL_law_598 (cwV 3 F.2.2.2.2.1 gL_law_X8_height rfl rfl rfl (by decide +kernel) ⟨(Nat.le_of_ble_eq_true rfl), (Nat.le_of_ble_eq_true rfl)⟩) 0 rfl rfl rfl rfl rfl (Nat.le_of_ble_eq_true rfl) ⟨Nat.le_trans (show 40 + 7 * i + 0 ≤ 50000 by omega) kl_rc, Nat.le_trans (show 14772 + 107 * i + 0 ≤ 500000 by omega) kl_rs⟩ ?_
  refine kw_icmp_eq F dL_law_601 (tgt := 1235) (by decide) (fun _ => ?_) (fun hc => absurd hr hc)
  refine kn_widen (k := 40 + 7 * (i + 6)) (n := 14772 + 107 * (i + 6)) (by show 40 + 7 * i + 0 ≤ _; omega) (by show 14772 + 107 * i + 0 ≤ _; omega) ?_
  exact kk ox.2 P om.2 hI'
set_option maxRecDepth 20000 in
set_option maxHeartbeats 1000000 in
theorem kl_case12 {p : Program} {l : Launch} {e : Env} {s : State} {m : MethodId} {below : List Frame} {meth : Method} {c : Code} {D : va_G} {cA : Nat → ClassId} {h0 h1 b L i : Nat} {qx qm : Nat → Nat} {xs : Nat → Int32} {Q : State → Prop} {zx : kx_S} {P : va_W} {zm : km_S} {Inv : kx_S → va_W → km_S → Prop} (F : kj_Fx p s m #[Value.ref b] meth c cL_law 4 wsL_law RL ret D (kx_T cA) (fun q => s.heap.size ≤ q)) (hN : kn_N s) (hKm : va_K D vwCl (km_T (kl_cM cA)) s) (hX : va_X b L xs s s.heap) (hbl : b < s.heap.size) (hi : i + 6 ≤ 3072) (hin : ∀ j : Int32, j.toNatClampNeg < 6 ∧ 0 ≤ j → vp_in (nI i + j) L) (hI : Inv zx P zm) (hs : kl_s12 cA Inv)
    (kk : ∀ zx' P' zm', Inv zx' P' zm' → kj_J p l e room_1 s m #[Value.ref b] below meth c (40 + 7 * (i + 6)) (14772 + 107 * (i + 6)) Q 4 D (fun q => s.heap.size ≤ q) (km_w (kl_cM cA) h1 qm zm' ++ kx_W cA h0 qx P' zx') 1235 [(0, .ref b), (1, .ref h0), (2, .ref h1), (3, .int (nI i))] []) : kj_J p l e room_1 s m #[Value.ref b] below meth c (40 + 7 * i) (14772 + 107 * i) Q 4 D (fun q => s.heap.size ≤ q) (km_w (kl_cM cA) h1 qm zm ++ kx_W cA h0 qx P zx) 606 [(0, .ref b), (1, .ref h0), (2, .ref h1), (3, .int (nI i))] [] := by
  have h := hs zx P zm hI (xs (nI i + 1).toNatClampNeg) (xs (nI i + 2).toNatClampNeg)
  refine kj_aload_n F dL_law_606 1 rfl rfl ?_
  refine kj_aload_n F dL_law_607 0 rfl rfl ?_
  refine kj_iload_n F dL_law_608 3 rfl rfl ?_
  refine kj_iconst F dL_law_609 (v := 1) (by decide) ?_
  refine kj_iadd F dL_law_610 ?_
  refine kl_sld F hX hbl dL_law_611 (hin 1 (by decide)) ?_
  refine kj_aload_n F dL_law_612 0 rfl rfl ?_
  refine kj_iload_n F dL_law_613 3 rfl rfl ?_
  refine kj_iconst F dL_law_614 (v := 2) (by decide) ?_
  refine kj_iadd F dL_law_615 ?_
  refine kl_sld F hX hbl dL_law_616 (hin 2 (by decide)) ?_
  refine kl_xwi (w := kx_V cA h0 qx) (As := [.int (xs (nI i + 1).toNatClampNeg), .int (xs (nI i + 2).toNatClampNeg)]) (rest := []) F hN (dc_whole h) dL_law_617 (cwV 2 F.2.2.2.2.1 gL_law_X7_whole rfl rfl rfl (by decide +kernel) ⟨(Nat.le_of_ble_eq_true rfl), (Nat.le_of_ble_eq_true rfl)⟩) 0 rfl rfl rfl rfl rfl (Nat.le_of_ble_eq_true rfl) ⟨Nat.le_trans (show 40 + 7 * i + 28 ≤ 50000 by omega) kl_rc, Nat.le_trans (show 14772 + 107 * i + 572 ≤ 500000 by omega) kl_rs⟩ (fun r u h => ?_)
  obtain ⟨om, hm, hr, hI'⟩ := h
  refine kj_cast (ww' := km_w (kl_cM cA) h1 qm zm ++ kx_W cA h0 qx u.2 u.1) rfl ?_
  refine kj_aload_n F dL_law_620 2 rfl rfl ?_
  refine kj_aload_n F dL_law_621 0 rfl rfl ?_
  refine kj_iload_n F dL_law_622 3 rfl rfl ?_
  refine kj_iconst F dL_law_623 (v := 1) (by decide) ?_
  refine kj_iadd F dL_law_624 ?_
  refine kl_sld F hX hbl dL_law_625 (hin 1 (by decide)) ?_
  refine kj_aload_n F dL_law_626 0 rfl rfl ?_
  refine kj_iload_n F dL_law_627 3 rfl rfl ?_
  refine kj_iconst F dL_law_628 (v := 2) (by decide) ?_
  refine kj_iadd F dL_law_629 ?_
  refine kl_sld F hX hbl dL_law_630 (hin 2 (by decide)) ?_
  refine kl_moi (w := km_w (kl_cM cA) h1 qm) (As := [.int (xs (nI i + 1).toNatClampNeg), .int (xs (nI i + 2).toNatClampNeg)]) (rest := [.int r]) F hKm (cm_whole hm) dL_law_631 (cwV 2 F.2.2.2.2.1 gL_law_X8_whole rfl rfl rfl (by decide +kernel) ⟨(Nat.le_of_ble_eq_true rfl), (Nat.le_of_ble_eq_true rfl)⟩) 0 rfl rfl rfl rfl rfl (Nat.le_of_ble_eq_true rfl) ⟨Nat.le_trans (show 40 + 7 * i + 28 ≤ 50000 by omega) kl_rc, Nat.le_trans (show 14772 + 107 * i + 572 ≤ 500000 by omega) kl_rs⟩ ?_
  refine kw_icmp_eq F dL_law_634 (tgt := 1235) (by decide) (fun _ => ?_) (fun hc => absurd hr hc)
  refine kn_widen (k := 40 + 7 * (i + 6)) (n := 14772 + 107 * (i + 6)) (by show 40 + 7 * i + 28 ≤ _; omega) (by show 14772 + 107 * i + 572 ≤ _; omega) ?_
  exact kk u.1 u.2 om.2 hI'
set_option maxRecDepth 20000 in
set_option maxHeartbeats 1000000 in
theorem kl_case13 {p : Program} {l : Launch} {e : Env} {s : State} {m : MethodId} {below : List Frame} {meth : Method} {c : Code} {D : va_G} {cA : Nat → ClassId} {h0 h1 b L i : Nat} {qx qm : Nat → Nat} {xs : Nat → Int32} {Q : State → Prop} {zx : kx_S} {P : va_W} {zm : km_S} {Inv : kx_S → va_W → km_S → Prop} (F : kj_Fx p s m #[Value.ref b] meth c cL_law 4 wsL_law RL ret D (kx_T cA) (fun q => s.heap.size ≤ q)) (hN : kn_N s) (hKm : va_K D vwCl (km_T (kl_cM cA)) s) (hX : va_X b L xs s s.heap) (hbl : b < s.heap.size) (hi : i + 6 ≤ 3072) (hin : ∀ j : Int32, j.toNatClampNeg < 6 ∧ 0 ≤ j → vp_in (nI i + j) L) (hI : Inv zx P zm) (hs : kl_s13 cA Inv)
    (kk : ∀ zx' P' zm', Inv zx' P' zm' → kj_J p l e room_1 s m #[Value.ref b] below meth c (40 + 7 * (i + 6)) (14772 + 107 * (i + 6)) Q 4 D (fun q => s.heap.size ≤ q) (km_w (kl_cM cA) h1 qm zm' ++ kx_W cA h0 qx P' zx') 1235 [(0, .ref b), (1, .ref h0), (2, .ref h1), (3, .int (nI i))] []) : kj_J p l e room_1 s m #[Value.ref b] below meth c (40 + 7 * i) (14772 + 107 * i) Q 4 D (fun q => s.heap.size ≤ q) (km_w (kl_cM cA) h1 qm zm ++ kx_W cA h0 qx P zx) 639 [(0, .ref b), (1, .ref h0), (2, .ref h1), (3, .int (nI i))] [] := by
  have h := hs zx P zm hI (xs (nI i + 1).toNatClampNeg) (xs (nI i + 2).toNatClampNeg) (xs (nI i + 3).toNatClampNeg)
  refine kj_aload_n F dL_law_639 1 rfl rfl ?_
  refine kj_aload_n F dL_law_640 0 rfl rfl ?_
  refine kj_iload_n F dL_law_641 3 rfl rfl ?_
  refine kj_iconst F dL_law_642 (v := 1) (by decide) ?_
  refine kj_iadd F dL_law_643 ?_
  refine kl_sld F hX hbl dL_law_644 (hin 1 (by decide)) ?_
  refine kj_aload_n F dL_law_645 0 rfl rfl ?_
  refine kj_iload_n F dL_law_646 3 rfl rfl ?_
  refine kj_iconst F dL_law_647 (v := 2) (by decide) ?_
  refine kj_iadd F dL_law_648 ?_
  refine kl_sld F hX hbl dL_law_649 (hin 2 (by decide)) ?_
  refine kj_aload_n F dL_law_650 0 rfl rfl ?_
  refine kj_iload_n F dL_law_651 3 rfl rfl ?_
  refine kj_iconst F dL_law_652 (v := 3) (by decide) ?_
  refine kj_iadd F dL_law_653 ?_
  refine kl_sld F hX hbl dL_law_654 (hin 3 (by decide)) ?_
  obtain ⟨ox, hx1, om, hm, hr, hI'⟩ := h
  refine kl_xoi (w := kx_W cA h0 qx P) (As := [.int (xs (nI i + 1).toNatClampNeg), .int (xs (nI i + 2).toNatClampNeg), .int (xs (nI i + 3).toNatClampNeg)]) (rest := []) F (cc_path hx1) dL_law_655 (cwV 3 F.2.2.2.2.1 gL_law_X7_path rfl rfl rfl (by decide +kernel) ⟨(Nat.le_of_ble_eq_true rfl), (Nat.le_of_ble_eq_true rfl)⟩) 0 rfl rfl rfl rfl rfl (Nat.le_of_ble_eq_true rfl) ⟨Nat.le_trans (show 40 + 7 * i ≤ 50000 by omega) kl_rc, Nat.le_trans (show 14772 + 107 * i ≤ 500000 by omega) kl_rs⟩ ?_
  refine kj_aload_n F dL_law_658 2 rfl rfl ?_
  refine kj_aload_n F dL_law_659 0 rfl rfl ?_
  refine kj_iload_n F dL_law_660 3 rfl rfl ?_
  refine kj_iconst F dL_law_661 (v := 1) (by decide) ?_
  refine kj_iadd F dL_law_662 ?_
  refine kl_sld F hX hbl dL_law_663 (hin 1 (by decide)) ?_
  refine kj_aload_n F dL_law_664 0 rfl rfl ?_
  refine kj_iload_n F dL_law_665 3 rfl rfl ?_
  refine kj_iconst F dL_law_666 (v := 2) (by decide) ?_
  refine kj_iadd F dL_law_667 ?_
  refine kl_sld F hX hbl dL_law_668 (hin 2 (by decide)) ?_
  refine kj_aload_n F dL_law_669 0 rfl rfl ?_
  refine kj_iload_n F dL_law_670 3 rfl rfl ?_
  refine kj_iconst F dL_law_671 (v := 3) (by decide) ?_
  refine kj_iadd F dL_law_672 ?_
  refine kl_sld F hX hbl dL_law_673 (hin 3 (by decide)) ?_
  refine kl_moi (w := km_w (kl_cM cA) h1 qm) (As := [.int (xs (nI i + 1).toNatClampNeg), .int (xs (nI i + 2).toNatClampNeg), .int (xs (nI i + 3).toNatClampNeg)]) (rest := [.int ox.1]) F hKm (cm_path hm) dL_law_674 (cwV 3 F.2.2.2.2.1 gL_law_X8_path rfl rfl rfl (by decide +kernel) ⟨(Nat.le_of_ble_eq_true rfl), (Nat.le_of_ble_eq_true rfl)⟩) 0 rfl rfl rfl rfl rfl (Nat.le_of_ble_eq_true rfl) ⟨Nat.le_trans (show 40 + 7 * i + 0 ≤ 50000 by omega) kl_rc, Nat.le_trans (show 14772 + 107 * i + 0 ≤ 500000 by omega) kl_rs⟩ ?_
  refine kw_icmp_eq F dL_law_677 (tgt := 1235) (by decide) (fun _ => ?_) (fun hc => absurd hr hc)
  refine kn_widen (k := 40 + 7 * (i + 6)) (n := 14772 + 107 * (i + 6)) (by show 40 + 7 * i + 0 ≤ _; omega) (by show 14772 + 107 * i + 0 ≤ _; omega) ?_
  exact kk ox.2 P om.2 hI'
set_option maxRecDepth 20000 in
set_option maxHeartbeats 1000000 in
theorem kl_case14 {p : Program} {l : Launch} {e : Env} {s : State} {m : MethodId} {below : List Frame} {meth : Method} {c : Code} {D : va_G} {cA : Nat → ClassId} {h0 h1 b L i : Nat} {qx qm : Nat → Nat} {xs : Nat → Int32} {Q : State → Prop} {zx : kx_S} {P : va_W} {zm : km_S} {Inv : kx_S → va_W → km_S → Prop} (F : kj_Fx p s m #[Value.ref b] meth c cL_law 4 wsL_law RL ret D (kx_T cA) (fun q => s.heap.size ≤ q)) (hN : kn_N s) (hKm : va_K D vwCl (km_T (kl_cM cA)) s) (hX : va_X b L xs s s.heap) (hbl : b < s.heap.size) (hi : i + 6 ≤ 3072) (hin : ∀ j : Int32, j.toNatClampNeg < 6 ∧ 0 ≤ j → vp_in (nI i + j) L) (hI : Inv zx P zm) (hs : kl_s14 cA Inv)
    (kk : ∀ zx' P' zm', Inv zx' P' zm' → kj_J p l e room_1 s m #[Value.ref b] below meth c (40 + 7 * (i + 6)) (14772 + 107 * (i + 6)) Q 4 D (fun q => s.heap.size ≤ q) (km_w (kl_cM cA) h1 qm zm' ++ kx_W cA h0 qx P' zx') 1235 [(0, .ref b), (1, .ref h0), (2, .ref h1), (3, .int (nI i))] []) : kj_J p l e room_1 s m #[Value.ref b] below meth c (40 + 7 * i) (14772 + 107 * i) Q 4 D (fun q => s.heap.size ≤ q) (km_w (kl_cM cA) h1 qm zm ++ kx_W cA h0 qx P zx) 682 [(0, .ref b), (1, .ref h0), (2, .ref h1), (3, .int (nI i))] [] := by
  have h := hs zx P zm hI (xs (nI i + 1).toNatClampNeg) (xs (nI i + 2).toNatClampNeg) (xs (nI i + 3).toNatClampNeg)
  refine kj_aload_n F dL_law_682 1 rfl rfl ?_
  refine kj_aload_n F dL_law_683 0 rfl rfl ?_
  refine kj_iload_n F dL_law_684 3 rfl rfl ?_
  refine kj_iconst F dL_law_685 (v := 1) (by decide) ?_
  refine kj_iadd F dL_law_686 ?_
  refine kl_sld F hX hbl dL_law_687 (hin 1 (by decide)) ?_
  refine kj_aload_n F dL_law_688 0 rfl rfl ?_
  refine kj_iload_n F dL_law_689 3 rfl rfl ?_
  refine kj_iconst F dL_law_690 (v := 2) (by decide) ?_
  refine kj_iadd F dL_law_691 ?_
  refine kl_sld F hX hbl dL_law_692 (hin 2 (by decide)) ?_
  refine kj_aload_n F dL_law_693 0 rfl rfl ?_
  refine kj_iload_n F dL_law_694 3 rfl rfl ?_
  refine kj_iconst F dL_law_695 (v := 3) (by decide) ?_
  refine kj_iadd F dL_law_696 ?_
  refine kl_sld F hX hbl dL_law_697 (hin 3 (by decide)) ?_
  obtain ⟨ox, hx1, om, hm, hr, hI'⟩ := h
  refine kl_xoi (w := kx_W cA h0 qx P) (As := [.int (xs (nI i + 1).toNatClampNeg), .int (xs (nI i + 2).toNatClampNeg), .int (xs (nI i + 3).toNatClampNeg)]) (rest := []) F (cc_slice hx1) dL_law_698 (cwV 3 F.2.2.2.2.1 gL_law_X7_slice rfl rfl rfl (by decide +kernel) ⟨(Nat.le_of_ble_eq_true rfl), (Nat.le_of_ble_eq_true rfl)⟩) 0 rfl rfl rfl rfl rfl (Nat.le_of_ble_eq_true rfl) ⟨Nat.le_trans (show 40 + 7 * i ≤ 50000 by omega) kl_rc, Nat.le_trans (show 14772 + 107 * i ≤ 500000 by omega) kl_rs⟩ ?_
  refine kj_aload_n F dL_law_701 2 rfl rfl ?_
  refine kj_aload_n F dL_law_702 0 rfl rfl ?_
  refine kj_iload_n F dL_law_703 3 rfl rfl ?_
  refine kj_iconst F dL_law_704 (v := 1) (by decide) ?_
  refine kj_iadd F dL_law_705 ?_
  refine kl_sld F hX hbl dL_law_706 (hin 1 (by decide)) ?_
  refine kj_aload_n F dL_law_707 0 rfl rfl ?_
  refine kj_iload_n F dL_law_708 3 rfl rfl ?_
  refine kj_iconst F dL_law_709 (v := 2) (by decide) ?_
  refine kj_iadd F dL_law_710 ?_
  refine kl_sld F hX hbl dL_law_711 (hin 2 (by decide)) ?_
  refine kj_aload_n F dL_law_712 0 rfl rfl ?_
  refine kj_iload_n F dL_law_713 3 rfl rfl ?_
  refine kj_iconst F dL_law_714 (v := 3) (by decide) ?_
  refine kj_iadd F dL_law_715 ?_
  refine kl_sld F hX hbl dL_law_716 (hin 3 (by decide)) ?_
  refine kl_moi (w := km_w (kl_cM cA) h1 qm) (As := [.int (xs (nI i + 1).toNatClampNeg), .int (xs (nI i + 2).toNatClampNeg), .int (xs (nI i + 3).toNatClampNeg)]) (rest := [.int ox.1]) F hKm (cm_slice hm) dL_law_717 (cwV 3 F.2.2.2.2.1 gL_law_X8_slice rfl rfl rfl (by decide +kernel) ⟨(Nat.le_of_ble_eq_true rfl), (Nat.le_of_ble_eq_true rfl)⟩) 0 rfl rfl rfl rfl rfl (Nat.le_of_ble_eq_true rfl) ⟨Nat.le_trans (show 40 + 7 * i + 0 ≤ 50000 by omega) kl_rc, Nat.le_trans (show 14772 + 107 * i + 0 ≤ 500000 by omega) kl_rs⟩ ?_
  refine kw_icmp_eq F dL_law_720 (tgt := 1235) (by decide) (fun _ => ?_) (fun hc => absurd hr hc)
  refine kn_widen (k := 40 + 7 * (i + 6)) (n := 14772 + 107 * (i + 6)) (by show 40 + 7 * i + 0 ≤ _; omega) (by show 14772 + 107 * i + 0 ≤ _; omega) ?_
  exact kk ox.2 P om.2 hI'
set_option maxRecDepth 20000 in
set_option maxHeartbeats 1000000 in
theorem kl_case15 {p : Program} {l : Launch} {e : Env} {s : State} {m : MethodId} {below : List Frame} {meth : Method} {c : Code} {D : va_G} {cA : Nat → ClassId} {h0 h1 b L i : Nat} {qx qm : Nat → Nat} {xs : Nat → Int32} {Q : State → Prop} {zx : kx_S} {P : va_W} {zm : km_S} {Inv : kx_S → va_W → km_S → Prop} (F : kj_Fx p s m #[Value.ref b] meth c cL_law 4 wsL_law RL ret D (kx_T cA) (fun q => s.heap.size ≤ q)) (hN : kn_N s) (hKm : va_K D vwCl (km_T (kl_cM cA)) s) (hX : va_X b L xs s s.heap) (hbl : b < s.heap.size) (hi : i + 6 ≤ 3072) (hin : ∀ j : Int32, j.toNatClampNeg < 6 ∧ 0 ≤ j → vp_in (nI i + j) L) (hI : Inv zx P zm) (hs : kl_s15 cA Inv)
    (kk : ∀ zx' P' zm', Inv zx' P' zm' → kj_J p l e room_1 s m #[Value.ref b] below meth c (40 + 7 * (i + 6)) (14772 + 107 * (i + 6)) Q 4 D (fun q => s.heap.size ≤ q) (km_w (kl_cM cA) h1 qm zm' ++ kx_W cA h0 qx P' zx') 1235 [(0, .ref b), (1, .ref h0), (2, .ref h1), (3, .int (nI i))] []) : kj_J p l e room_1 s m #[Value.ref b] below meth c (40 + 7 * i) (14772 + 107 * i) Q 4 D (fun q => s.heap.size ≤ q) (km_w (kl_cM cA) h1 qm zm ++ kx_W cA h0 qx P zx) 725 [(0, .ref b), (1, .ref h0), (2, .ref h1), (3, .int (nI i))] [] := by
  have h := hs zx P zm hI (xs (nI i + 1).toNatClampNeg) (xs (nI i + 2).toNatClampNeg) (xs (nI i + 3).toNatClampNeg)
  refine kj_aload_n F dL_law_725 1 rfl rfl ?_
  refine kj_aload_n F dL_law_726 0 rfl rfl ?_
  refine kj_iload_n F dL_law_727 3 rfl rfl ?_
  refine kj_iconst F dL_law_728 (v := 1) (by decide) ?_
  refine kj_iadd F dL_law_729 ?_
  refine kl_sld F hX hbl dL_law_730 (hin 1 (by decide)) ?_
  refine kj_aload_n F dL_law_731 0 rfl rfl ?_
  refine kj_iload_n F dL_law_732 3 rfl rfl ?_
  refine kj_iconst F dL_law_733 (v := 2) (by decide) ?_
  refine kj_iadd F dL_law_734 ?_
  refine kl_sld F hX hbl dL_law_735 (hin 2 (by decide)) ?_
  refine kj_aload_n F dL_law_736 0 rfl rfl ?_
  refine kj_iload_n F dL_law_737 3 rfl rfl ?_
  refine kj_iconst F dL_law_738 (v := 3) (by decide) ?_
  refine kj_iadd F dL_law_739 ?_
  refine kl_sld F hX hbl dL_law_740 (hin 3 (by decide)) ?_
  obtain ⟨ox, hx1, om, hm, hr, hI'⟩ := h
  refine kl_xoi (w := kx_W cA h0 qx P) (As := [.int (xs (nI i + 1).toNatClampNeg), .int (xs (nI i + 2).toNatClampNeg), .int (xs (nI i + 3).toNatClampNeg)]) (rest := []) F (cc_face hx1) dL_law_741 (cwV 3 F.2.2.2.2.1 gL_law_X7_face rfl rfl rfl (by decide +kernel) ⟨(Nat.le_of_ble_eq_true rfl), (Nat.le_of_ble_eq_true rfl)⟩) 0 rfl rfl rfl rfl rfl (Nat.le_of_ble_eq_true rfl) ⟨Nat.le_trans (show 40 + 7 * i ≤ 50000 by omega) kl_rc, Nat.le_trans (show 14772 + 107 * i ≤ 500000 by omega) kl_rs⟩ ?_
  refine kj_aload_n F dL_law_744 2 rfl rfl ?_
  refine kj_aload_n F dL_law_745 0 rfl rfl ?_
  refine kj_iload_n F dL_law_746 3 rfl rfl ?_
  refine kj_iconst F dL_law_747 (v := 1) (by decide) ?_
  refine kj_iadd F dL_law_748 ?_
  refine kl_sld F hX hbl dL_law_749 (hin 1 (by decide)) ?_
  refine kj_aload_n F dL_law_750 0 rfl rfl ?_
  refine kj_iload_n F dL_law_751 3 rfl rfl ?_
  refine kj_iconst F dL_law_752 (v := 2) (by decide) ?_
  refine kj_iadd F dL_law_753 ?_
  refine kl_sld F hX hbl dL_law_754 (hin 2 (by decide)) ?_
  refine kj_aload_n F dL_law_755 0 rfl rfl ?_
  refine kj_iload_n F dL_law_756 3 rfl rfl ?_
  refine kj_iconst F dL_law_757 (v := 3) (by decide) ?_
  refine kj_iadd F dL_law_758 ?_
  refine kl_sld F hX hbl dL_law_759 (hin 3 (by decide)) ?_
  refine kl_moi (w := km_w (kl_cM cA) h1 qm) (As := [.int (xs (nI i + 1).toNatClampNeg), .int (xs (nI i + 2).toNatClampNeg), .int (xs (nI i + 3).toNatClampNeg)]) (rest := [.int ox.1]) F hKm (cm_face hm) dL_law_760 (cwV 3 F.2.2.2.2.1 gL_law_X8_face rfl rfl rfl (by decide +kernel) ⟨(Nat.le_of_ble_eq_true rfl), (Nat.le_of_ble_eq_true rfl)⟩) 0 rfl rfl rfl rfl rfl (Nat.le_of_ble_eq_true rfl) ⟨Nat.le_trans (show 40 + 7 * i + 0 ≤ 50000 by omega) kl_rc, Nat.le_trans (show 14772 + 107 * i + 0 ≤ 500000 by omega) kl_rs⟩ ?_
  refine kw_icmp_eq F dL_law_763 (tgt := 1235) (by decide) (fun _ => ?_) (fun hc => absurd hr hc)
  refine kn_widen (k := 40 + 7 * (i + 6)) (n := 14772 + 107 * (i + 6)) (by show 40 + 7 * i + 0 ≤ _; omega) (by show 14772 + 107 * i + 0 ≤ _; omega) ?_
  exact kk ox.2 P om.2 hI'
set_option maxRecDepth 20000 in
set_option maxHeartbeats 1000000 in
theorem kl_case16 {p : Program} {l : Launch} {e : Env} {s : State} {m : MethodId} {below : List Frame} {meth : Method} {c : Code} {D : va_G} {cA : Nat → ClassId} {h0 h1 b L i : Nat} {qx qm : Nat → Nat} {xs : Nat → Int32} {Q : State → Prop} {zx : kx_S} {P : va_W} {zm : km_S} {Inv : kx_S → va_W → km_S → Prop} (F : kj_Fx p s m #[Value.ref b] meth c cL_law 4 wsL_law RL ret D (kx_T cA) (fun q => s.heap.size ≤ q)) (hN : kn_N s) (hKm : va_K D vwCl (km_T (kl_cM cA)) s) (hX : va_X b L xs s s.heap) (hbl : b < s.heap.size) (hi : i + 6 ≤ 3072) (hin : ∀ j : Int32, j.toNatClampNeg < 6 ∧ 0 ≤ j → vp_in (nI i + j) L) (hI : Inv zx P zm) (hs : kl_s16 cA Inv)
    (kk : ∀ zx' P' zm', Inv zx' P' zm' → kj_J p l e room_1 s m #[Value.ref b] below meth c (40 + 7 * (i + 6)) (14772 + 107 * (i + 6)) Q 4 D (fun q => s.heap.size ≤ q) (km_w (kl_cM cA) h1 qm zm' ++ kx_W cA h0 qx P' zx') 1235 [(0, .ref b), (1, .ref h0), (2, .ref h1), (3, .int (nI i))] []) : kj_J p l e room_1 s m #[Value.ref b] below meth c (40 + 7 * i) (14772 + 107 * i) Q 4 D (fun q => s.heap.size ≤ q) (km_w (kl_cM cA) h1 qm zm ++ kx_W cA h0 qx P zx) 768 [(0, .ref b), (1, .ref h0), (2, .ref h1), (3, .int (nI i))] [] := by
  have h := hs zx P zm hI (xs (nI i + 1).toNatClampNeg) (xs (nI i + 2).toNatClampNeg)
  refine kj_aload_n F dL_law_768 1 rfl rfl ?_
  refine kj_aload_n F dL_law_769 0 rfl rfl ?_
  refine kj_iload_n F dL_law_770 3 rfl rfl ?_
  refine kj_iconst F dL_law_771 (v := 1) (by decide) ?_
  refine kj_iadd F dL_law_772 ?_
  refine kl_sld F hX hbl dL_law_773 (hin 1 (by decide)) ?_
  refine kj_aload_n F dL_law_774 0 rfl rfl ?_
  refine kj_iload_n F dL_law_775 3 rfl rfl ?_
  refine kj_iconst F dL_law_776 (v := 2) (by decide) ?_
  refine kj_iadd F dL_law_777 ?_
  refine kl_sld F hX hbl dL_law_778 (hin 2 (by decide)) ?_
  refine kl_xwi (w := kx_V cA h0 qx) (As := [.int (xs (nI i + 1).toNatClampNeg), .int (xs (nI i + 2).toNatClampNeg)]) (rest := []) F hN (dc_kin h) dL_law_779 (cwV 2 F.2.2.2.2.1 gL_law_X7_kin rfl rfl rfl (by decide +kernel) ⟨(Nat.le_of_ble_eq_true rfl), (Nat.le_of_ble_eq_true rfl)⟩) 0 rfl rfl rfl rfl rfl (Nat.le_of_ble_eq_true rfl) ⟨Nat.le_trans (show 40 + 7 * i + 39 ≤ 50000 by omega) kl_rc, Nat.le_trans (show 14772 + 107 * i + 642 ≤ 500000 by omega) kl_rs⟩ (fun r u h => ?_)
  obtain ⟨om, hm, hr, hI'⟩ := h
  refine kj_cast (ww' := km_w (kl_cM cA) h1 qm zm ++ kx_W cA h0 qx u.2 u.1) rfl ?_
  refine kj_aload_n F dL_law_782 2 rfl rfl ?_
  refine kj_aload_n F dL_law_783 0 rfl rfl ?_
  refine kj_iload_n F dL_law_784 3 rfl rfl ?_
  refine kj_iconst F dL_law_785 (v := 1) (by decide) ?_
  refine kj_iadd F dL_law_786 ?_
  refine kl_sld F hX hbl dL_law_787 (hin 1 (by decide)) ?_
  refine kj_aload_n F dL_law_788 0 rfl rfl ?_
  refine kj_iload_n F dL_law_789 3 rfl rfl ?_
  refine kj_iconst F dL_law_790 (v := 2) (by decide) ?_
  refine kj_iadd F dL_law_791 ?_
  refine kl_sld F hX hbl dL_law_792 (hin 2 (by decide)) ?_
  refine kl_moi (w := km_w (kl_cM cA) h1 qm) (As := [.int (xs (nI i + 1).toNatClampNeg), .int (xs (nI i + 2).toNatClampNeg)]) (rest := [.int r]) F hKm (cm_kin hm) dL_law_793 (cwV 2 F.2.2.2.2.1 gL_law_X8_kin rfl rfl rfl (by decide +kernel) ⟨(Nat.le_of_ble_eq_true rfl), (Nat.le_of_ble_eq_true rfl)⟩) 0 rfl rfl rfl rfl rfl (Nat.le_of_ble_eq_true rfl) ⟨Nat.le_trans (show 40 + 7 * i + 39 ≤ 50000 by omega) kl_rc, Nat.le_trans (show 14772 + 107 * i + 642 ≤ 500000 by omega) kl_rs⟩ ?_
  refine kw_icmp_eq F dL_law_796 (tgt := 1235) (by decide) (fun _ => ?_) (fun hc => absurd hr hc)
  refine kn_widen (k := 40 + 7 * (i + 6)) (n := 14772 + 107 * (i + 6)) (by show 40 + 7 * i + 39 ≤ _; omega) (by show 14772 + 107 * i + 642 ≤ _; omega) ?_
  exact kk u.1 u.2 om.2 hI'
set_option maxRecDepth 20000 in
set_option maxHeartbeats 1000000 in
theorem kl_case17 {p : Program} {l : Launch} {e : Env} {s : State} {m : MethodId} {below : List Frame} {meth : Method} {c : Code} {D : va_G} {cA : Nat → ClassId} {h0 h1 b L i : Nat} {qx qm : Nat → Nat} {xs : Nat → Int32} {Q : State → Prop} {zx : kx_S} {P : va_W} {zm : km_S} {Inv : kx_S → va_W → km_S → Prop} (F : kj_Fx p s m #[Value.ref b] meth c cL_law 4 wsL_law RL ret D (kx_T cA) (fun q => s.heap.size ≤ q)) (hN : kn_N s) (hKm : va_K D vwCl (km_T (kl_cM cA)) s) (hX : va_X b L xs s s.heap) (hbl : b < s.heap.size) (hi : i + 6 ≤ 3072) (hin : ∀ j : Int32, j.toNatClampNeg < 6 ∧ 0 ≤ j → vp_in (nI i + j) L) (hI : Inv zx P zm) (hs : kl_s17 cA Inv)
    (kk : ∀ zx' P' zm', Inv zx' P' zm' → kj_J p l e room_1 s m #[Value.ref b] below meth c (40 + 7 * (i + 6)) (14772 + 107 * (i + 6)) Q 4 D (fun q => s.heap.size ≤ q) (km_w (kl_cM cA) h1 qm zm' ++ kx_W cA h0 qx P' zx') 1235 [(0, .ref b), (1, .ref h0), (2, .ref h1), (3, .int (nI i))] []) : kj_J p l e room_1 s m #[Value.ref b] below meth c (40 + 7 * i) (14772 + 107 * i) Q 4 D (fun q => s.heap.size ≤ q) (km_w (kl_cM cA) h1 qm zm ++ kx_W cA h0 qx P zx) 801 [(0, .ref b), (1, .ref h0), (2, .ref h1), (3, .int (nI i))] [] := by
  have h := hs zx P zm hI (xs (nI i + 1).toNatClampNeg)
  refine kj_aload_n F dL_law_801 1 rfl rfl ?_
  refine kj_aload_n F dL_law_802 0 rfl rfl ?_
  refine kj_iload_n F dL_law_803 3 rfl rfl ?_
  refine kj_iconst F dL_law_804 (v := 1) (by decide) ?_
  refine kj_iadd F dL_law_805 ?_
  refine kl_sld F hX hbl dL_law_806 (hin 1 (by decide)) ?_
  refine kl_xwi (w := kx_V cA h0 qx) (As := [.int (xs (nI i + 1).toNatClampNeg)]) (rest := []) F hN (dc_orders h) dL_law_807 (cwV 1 F.2.2.2.2.1 gL_law_X7_orders rfl rfl rfl (by decide +kernel) ⟨(Nat.le_of_ble_eq_true rfl), (Nat.le_of_ble_eq_true rfl)⟩) 0 rfl rfl rfl rfl rfl (Nat.le_of_ble_eq_true rfl) ⟨Nat.le_trans (show 40 + 7 * i + 0 ≤ 50000 by omega) kl_rc, Nat.le_trans (show 14772 + 107 * i + 0 ≤ 500000 by omega) kl_rs⟩ (fun r u h => ?_)
  obtain ⟨om, hm, hr, hI'⟩ := h
  refine kj_cast (ww' := km_w (kl_cM cA) h1 qm zm ++ kx_W cA h0 qx u.2 u.1) rfl ?_
  refine kj_aload_n F dL_law_810 2 rfl rfl ?_
  refine kj_aload_n F dL_law_811 0 rfl rfl ?_
  refine kj_iload_n F dL_law_812 3 rfl rfl ?_
  refine kj_iconst F dL_law_813 (v := 1) (by decide) ?_
  refine kj_iadd F dL_law_814 ?_
  refine kl_sld F hX hbl dL_law_815 (hin 1 (by decide)) ?_
  refine kl_moi (w := km_w (kl_cM cA) h1 qm) (As := [.int (xs (nI i + 1).toNatClampNeg)]) (rest := [.int r]) F hKm (cm_orders hm) dL_law_816 (cwV 1 F.2.2.2.2.1 gL_law_X8_orders rfl rfl rfl (by decide +kernel) ⟨(Nat.le_of_ble_eq_true rfl), (Nat.le_of_ble_eq_true rfl)⟩) 0 rfl rfl rfl rfl rfl (Nat.le_of_ble_eq_true rfl) ⟨Nat.le_trans (show 40 + 7 * i + 0 ≤ 50000 by omega) kl_rc, Nat.le_trans (show 14772 + 107 * i + 0 ≤ 500000 by omega) kl_rs⟩ ?_
  refine kw_icmp_eq F dL_law_819 (tgt := 1235) (by decide) (fun _ => ?_) (fun hc => absurd hr hc)
  refine kn_widen (k := 40 + 7 * (i + 6)) (n := 14772 + 107 * (i + 6)) (by show 40 + 7 * i + 0 ≤ _; omega) (by show 14772 + 107 * i + 0 ≤ _; omega) ?_
  exact kk u.1 u.2 om.2 hI'
set_option maxRecDepth 20000 in
set_option maxHeartbeats 1000000 in
theorem kl_case18 {p : Program} {l : Launch} {e : Env} {s : State} {m : MethodId} {below : List Frame} {meth : Method} {c : Code} {D : va_G} {cA : Nat → ClassId} {h0 h1 b L i : Nat} {qx qm : Nat → Nat} {xs : Nat → Int32} {Q : State → Prop} {zx : kx_S} {P : va_W} {zm : km_S} {Inv : kx_S → va_W → km_S → Prop} (F : kj_Fx p s m #[Value.ref b] meth c cL_law 4 wsL_law RL ret D (kx_T cA) (fun q => s.heap.size ≤ q)) (hN : kn_N s) (hKm : va_K D vwCl (km_T (kl_cM cA)) s) (hX : va_X b L xs s s.heap) (hbl : b < s.heap.size) (hi : i + 6 ≤ 3072) (hin : ∀ j : Int32, j.toNatClampNeg < 6 ∧ 0 ≤ j → vp_in (nI i + j) L) (hI : Inv zx P zm) (hs : kl_s18 cA Inv)
    (kk : ∀ zx' P' zm', Inv zx' P' zm' → kj_J p l e room_1 s m #[Value.ref b] below meth c (40 + 7 * (i + 6)) (14772 + 107 * (i + 6)) Q 4 D (fun q => s.heap.size ≤ q) (km_w (kl_cM cA) h1 qm zm' ++ kx_W cA h0 qx P' zx') 1235 [(0, .ref b), (1, .ref h0), (2, .ref h1), (3, .int (nI i))] []) : kj_J p l e room_1 s m #[Value.ref b] below meth c (40 + 7 * i) (14772 + 107 * i) Q 4 D (fun q => s.heap.size ≤ q) (km_w (kl_cM cA) h1 qm zm ++ kx_W cA h0 qx P zx) 824 [(0, .ref b), (1, .ref h0), (2, .ref h1), (3, .int (nI i))] [] := by
  have h := hs zx P zm hI (xs (nI i + 1).toNatClampNeg) (xs (nI i + 2).toNatClampNeg) (xs (nI i + 3).toNatClampNeg)
  refine kj_aload_n F dL_law_824 1 rfl rfl ?_
  refine kj_aload_n F dL_law_825 0 rfl rfl ?_
  refine kj_iload_n F dL_law_826 3 rfl rfl ?_
  refine kj_iconst F dL_law_827 (v := 1) (by decide) ?_
  refine kj_iadd F dL_law_828 ?_
  refine kl_sld F hX hbl dL_law_829 (hin 1 (by decide)) ?_
  refine kj_aload_n F dL_law_830 0 rfl rfl ?_
  refine kj_iload_n F dL_law_831 3 rfl rfl ?_
  refine kj_iconst F dL_law_832 (v := 2) (by decide) ?_
  refine kj_iadd F dL_law_833 ?_
  refine kl_sld F hX hbl dL_law_834 (hin 2 (by decide)) ?_
  refine kj_aload_n F dL_law_835 0 rfl rfl ?_
  refine kj_iload_n F dL_law_836 3 rfl rfl ?_
  refine kj_iconst F dL_law_837 (v := 3) (by decide) ?_
  refine kj_iadd F dL_law_838 ?_
  refine kl_sld F hX hbl dL_law_839 (hin 3 (by decide)) ?_
  refine kl_xwi (w := kx_V cA h0 qx) (As := [.int (xs (nI i + 1).toNatClampNeg), .int (xs (nI i + 2).toNatClampNeg), .int (xs (nI i + 3).toNatClampNeg)]) (rest := []) F hN (dc_many h) dL_law_840 (cwV 3 F.2.2.2.2.1 gL_law_X7_many rfl rfl rfl (by decide +kernel) ⟨(Nat.le_of_ble_eq_true rfl), (Nat.le_of_ble_eq_true rfl)⟩) 0 rfl rfl rfl rfl rfl (Nat.le_of_ble_eq_true rfl) ⟨Nat.le_trans (show 40 + 7 * i + 12 ≤ 50000 by omega) kl_rc, Nat.le_trans (show 14772 + 107 * i + 575 ≤ 500000 by omega) kl_rs⟩ (fun r u h => ?_)
  obtain ⟨om, hm, hr, hI'⟩ := h
  refine kj_cast (ww' := km_w (kl_cM cA) h1 qm zm ++ kx_W cA h0 qx u.2 u.1) rfl ?_
  refine kj_aload_n F dL_law_843 2 rfl rfl ?_
  refine kj_aload_n F dL_law_844 0 rfl rfl ?_
  refine kj_iload_n F dL_law_845 3 rfl rfl ?_
  refine kj_iconst F dL_law_846 (v := 1) (by decide) ?_
  refine kj_iadd F dL_law_847 ?_
  refine kl_sld F hX hbl dL_law_848 (hin 1 (by decide)) ?_
  refine kj_aload_n F dL_law_849 0 rfl rfl ?_
  refine kj_iload_n F dL_law_850 3 rfl rfl ?_
  refine kj_iconst F dL_law_851 (v := 2) (by decide) ?_
  refine kj_iadd F dL_law_852 ?_
  refine kl_sld F hX hbl dL_law_853 (hin 2 (by decide)) ?_
  refine kj_aload_n F dL_law_854 0 rfl rfl ?_
  refine kj_iload_n F dL_law_855 3 rfl rfl ?_
  refine kj_iconst F dL_law_856 (v := 3) (by decide) ?_
  refine kj_iadd F dL_law_857 ?_
  refine kl_sld F hX hbl dL_law_858 (hin 3 (by decide)) ?_
  refine kl_moi (w := km_w (kl_cM cA) h1 qm) (As := [.int (xs (nI i + 1).toNatClampNeg), .int (xs (nI i + 2).toNatClampNeg), .int (xs (nI i + 3).toNatClampNeg)]) (rest := [.int r]) F hKm (cm_many hm) dL_law_859 (cwV 3 F.2.2.2.2.1 gL_law_X8_many rfl rfl rfl (by decide +kernel) ⟨(Nat.le_of_ble_eq_true rfl), (Nat.le_of_ble_eq_true rfl)⟩) 0 rfl rfl rfl rfl rfl (Nat.le_of_ble_eq_true rfl) ⟨Nat.le_trans (show 40 + 7 * i + 12 ≤ 50000 by omega) kl_rc, Nat.le_trans (show 14772 + 107 * i + 575 ≤ 500000 by omega) kl_rs⟩ ?_
  refine kw_icmp_eq F dL_law_862 (tgt := 1235) (by decide) (fun _ => ?_) (fun hc => absurd hr hc)
  refine kn_widen (k := 40 + 7 * (i + 6)) (n := 14772 + 107 * (i + 6)) (by show 40 + 7 * i + 12 ≤ _; omega) (by show 14772 + 107 * i + 575 ≤ _; omega) ?_
  exact kk u.1 u.2 om.2 hI'
set_option maxRecDepth 20000 in
set_option maxHeartbeats 1000000 in
theorem kl_case19 {p : Program} {l : Launch} {e : Env} {s : State} {m : MethodId} {below : List Frame} {meth : Method} {c : Code} {D : va_G} {cA : Nat → ClassId} {h0 h1 b L i : Nat} {qx qm : Nat → Nat} {xs : Nat → Int32} {Q : State → Prop} {zx : kx_S} {P : va_W} {zm : km_S} {Inv : kx_S → va_W → km_S → Prop} (F : kj_Fx p s m #[Value.ref b] meth c cL_law 4 wsL_law RL ret D (kx_T cA) (fun q => s.heap.size ≤ q)) (hN : kn_N s) (hKm : va_K D vwCl (km_T (kl_cM cA)) s) (hX : va_X b L xs s s.heap) (hbl : b < s.heap.size) (hi : i + 6 ≤ 3072) (hin : ∀ j : Int32, j.toNatClampNeg < 6 ∧ 0 ≤ j → vp_in (nI i + j) L) (hI : Inv zx P zm) (hs : kl_s19 cA Inv)
    (kk : ∀ zx' P' zm', Inv zx' P' zm' → kj_J p l e room_1 s m #[Value.ref b] below meth c (40 + 7 * (i + 6)) (14772 + 107 * (i + 6)) Q 4 D (fun q => s.heap.size ≤ q) (km_w (kl_cM cA) h1 qm zm' ++ kx_W cA h0 qx P' zx') 1235 [(0, .ref b), (1, .ref h0), (2, .ref h1), (3, .int (nI i))] []) : kj_J p l e room_1 s m #[Value.ref b] below meth c (40 + 7 * i) (14772 + 107 * i) Q 4 D (fun q => s.heap.size ≤ q) (km_w (kl_cM cA) h1 qm zm ++ kx_W cA h0 qx P zx) 867 [(0, .ref b), (1, .ref h0), (2, .ref h1), (3, .int (nI i))] [] := by
  have h := hs zx P zm hI (xs (nI i + 1).toNatClampNeg) (xs (nI i + 2).toNatClampNeg) (xs (nI i + 3).toNatClampNeg) (xs (nI i + 4).toNatClampNeg)
  refine kj_aload_n F dL_law_867 1 rfl rfl ?_
  refine kj_aload_n F dL_law_868 0 rfl rfl ?_
  refine kj_iload_n F dL_law_869 3 rfl rfl ?_
  refine kj_iconst F dL_law_870 (v := 1) (by decide) ?_
  refine kj_iadd F dL_law_871 ?_
  refine kl_sld F hX hbl dL_law_872 (hin 1 (by decide)) ?_
  refine kj_aload_n F dL_law_873 0 rfl rfl ?_
  refine kj_iload_n F dL_law_874 3 rfl rfl ?_
  refine kj_iconst F dL_law_875 (v := 2) (by decide) ?_
  refine kj_iadd F dL_law_876 ?_
  refine kl_sld F hX hbl dL_law_877 (hin 2 (by decide)) ?_
  refine kj_aload_n F dL_law_878 0 rfl rfl ?_
  refine kj_iload_n F dL_law_879 3 rfl rfl ?_
  refine kj_iconst F dL_law_880 (v := 3) (by decide) ?_
  refine kj_iadd F dL_law_881 ?_
  refine kl_sld F hX hbl dL_law_882 (hin 3 (by decide)) ?_
  refine kj_aload_n F dL_law_883 0 rfl rfl ?_
  refine kj_iload_n F dL_law_884 3 rfl rfl ?_
  refine kj_iconst F dL_law_885 (v := 4) (by decide) ?_
  refine kj_iadd F dL_law_886 ?_
  refine kl_sld F hX hbl dL_law_887 (hin 4 (by decide)) ?_
  refine kl_xwl (w := kx_V cA h0 qx) (As := [.int (xs (nI i + 1).toNatClampNeg), .int (xs (nI i + 2).toNatClampNeg), .int (xs (nI i + 3).toNatClampNeg), .int (xs (nI i + 4).toNatClampNeg)]) (rest := []) F hN (dc_minor h) dL_law_888 (cwV 4 F.2.2.2.2.1 gL_law_X7_minor rfl rfl rfl (by decide +kernel) ⟨(Nat.le_of_ble_eq_true rfl), (Nat.le_of_ble_eq_true rfl)⟩) 0 rfl rfl rfl rfl rfl (Nat.le_of_ble_eq_true rfl) ⟨Nat.le_trans (show 40 + 7 * i + 1 ≤ 50000 by omega) kl_rc, Nat.le_trans (show 14772 + 107 * i + 3 ≤ 500000 by omega) kl_rs⟩ (fun r u h => ?_)
  obtain ⟨om, hm, hr, hI'⟩ := h
  refine kj_cast (ww' := km_w (kl_cM cA) h1 qm zm ++ kx_W cA h0 qx u.2 u.1) rfl ?_
  refine kj_aload_n F dL_law_891 2 rfl rfl ?_
  refine kj_aload_n F dL_law_892 0 rfl rfl ?_
  refine kj_iload_n F dL_law_893 3 rfl rfl ?_
  refine kj_iconst F dL_law_894 (v := 1) (by decide) ?_
  refine kj_iadd F dL_law_895 ?_
  refine kl_sld F hX hbl dL_law_896 (hin 1 (by decide)) ?_
  refine kj_aload_n F dL_law_897 0 rfl rfl ?_
  refine kj_iload_n F dL_law_898 3 rfl rfl ?_
  refine kj_iconst F dL_law_899 (v := 2) (by decide) ?_
  refine kj_iadd F dL_law_900 ?_
  refine kl_sld F hX hbl dL_law_901 (hin 2 (by decide)) ?_
  refine kj_aload_n F dL_law_902 0 rfl rfl ?_
  refine kj_iload_n F dL_law_903 3 rfl rfl ?_
  refine kj_iconst F dL_law_904 (v := 3) (by decide) ?_
  refine kj_iadd F dL_law_905 ?_
  refine kl_sld F hX hbl dL_law_906 (hin 3 (by decide)) ?_
  refine kj_aload_n F dL_law_907 0 rfl rfl ?_
  refine kj_iload_n F dL_law_908 3 rfl rfl ?_
  refine kj_iconst F dL_law_909 (v := 4) (by decide) ?_
  refine kj_iadd F dL_law_910 ?_
  refine kl_sld F hX hbl dL_law_911 (hin 4 (by decide)) ?_
  refine kl_mol (w := km_w (kl_cM cA) h1 qm) (As := [.int (xs (nI i + 1).toNatClampNeg), .int (xs (nI i + 2).toNatClampNeg), .int (xs (nI i + 3).toNatClampNeg), .int (xs (nI i + 4).toNatClampNeg)]) (rest := [.long r]) F hKm (cm_minor hm) dL_law_912 (cwV 4 F.2.2.2.2.1 gL_law_X8_minor rfl rfl rfl (by decide +kernel) ⟨(Nat.le_of_ble_eq_true rfl), (Nat.le_of_ble_eq_true rfl)⟩) 0 rfl rfl rfl rfl rfl (Nat.le_of_ble_eq_true rfl) ⟨Nat.le_trans (show 40 + 7 * i + 1 ≤ 50000 by omega) kl_rc, Nat.le_trans (show 14772 + 107 * i + 3 ≤ 500000 by omega) kl_rs⟩ ?_
  refine kj_lcmp F dL_law_915 ?_
  refine kw_if_eq F dL_law_916 (tgt := 1235) (by decide) (fun _ => ?_) (fun hc => absurd (by rw [hr]; simp [lg_cmp]) hc)
  refine kn_widen (k := 40 + 7 * (i + 6)) (n := 14772 + 107 * (i + 6)) (by show 40 + 7 * i + 1 ≤ _; omega) (by show 14772 + 107 * i + 3 ≤ _; omega) ?_
  exact kk u.1 u.2 om.2 hI'
set_option maxRecDepth 20000 in
set_option maxHeartbeats 1000000 in
theorem kl_case20 {p : Program} {l : Launch} {e : Env} {s : State} {m : MethodId} {below : List Frame} {meth : Method} {c : Code} {D : va_G} {cA : Nat → ClassId} {h0 h1 b L i : Nat} {qx qm : Nat → Nat} {xs : Nat → Int32} {Q : State → Prop} {zx : kx_S} {P : va_W} {zm : km_S} {Inv : kx_S → va_W → km_S → Prop} (F : kj_Fx p s m #[Value.ref b] meth c cL_law 4 wsL_law RL ret D (kx_T cA) (fun q => s.heap.size ≤ q)) (hN : kn_N s) (hKm : va_K D vwCl (km_T (kl_cM cA)) s) (hX : va_X b L xs s s.heap) (hbl : b < s.heap.size) (hi : i + 6 ≤ 3072) (hin : ∀ j : Int32, j.toNatClampNeg < 6 ∧ 0 ≤ j → vp_in (nI i + j) L) (hI : Inv zx P zm) (hs : kl_s20 cA Inv)
    (kk : ∀ zx' P' zm', Inv zx' P' zm' → kj_J p l e room_1 s m #[Value.ref b] below meth c (40 + 7 * (i + 6)) (14772 + 107 * (i + 6)) Q 4 D (fun q => s.heap.size ≤ q) (km_w (kl_cM cA) h1 qm zm' ++ kx_W cA h0 qx P' zx') 1235 [(0, .ref b), (1, .ref h0), (2, .ref h1), (3, .int (nI i))] []) : kj_J p l e room_1 s m #[Value.ref b] below meth c (40 + 7 * i) (14772 + 107 * i) Q 4 D (fun q => s.heap.size ≤ q) (km_w (kl_cM cA) h1 qm zm ++ kx_W cA h0 qx P zx) 921 [(0, .ref b), (1, .ref h0), (2, .ref h1), (3, .int (nI i))] [] := by
  have h := hs zx P zm hI (xs (nI i + 1).toNatClampNeg) (xs (nI i + 2).toNatClampNeg) (xs (nI i + 3).toNatClampNeg) (xs (nI i + 4).toNatClampNeg)
  refine kj_aload_n F dL_law_921 1 rfl rfl ?_
  refine kj_aload_n F dL_law_922 0 rfl rfl ?_
  refine kj_iload_n F dL_law_923 3 rfl rfl ?_
  refine kj_iconst F dL_law_924 (v := 1) (by decide) ?_
  refine kj_iadd F dL_law_925 ?_
  refine kl_sld F hX hbl dL_law_926 (hin 1 (by decide)) ?_
  refine kj_aload_n F dL_law_927 0 rfl rfl ?_
  refine kj_iload_n F dL_law_928 3 rfl rfl ?_
  refine kj_iconst F dL_law_929 (v := 2) (by decide) ?_
  refine kj_iadd F dL_law_930 ?_
  refine kl_sld F hX hbl dL_law_931 (hin 2 (by decide)) ?_
  refine kj_aload_n F dL_law_932 0 rfl rfl ?_
  refine kj_iload_n F dL_law_933 3 rfl rfl ?_
  refine kj_iconst F dL_law_934 (v := 3) (by decide) ?_
  refine kj_iadd F dL_law_935 ?_
  refine kl_sld F hX hbl dL_law_936 (hin 3 (by decide)) ?_
  refine kj_aload_n F dL_law_937 0 rfl rfl ?_
  refine kj_iload_n F dL_law_938 3 rfl rfl ?_
  refine kj_iconst F dL_law_939 (v := 4) (by decide) ?_
  refine kj_iadd F dL_law_940 ?_
  refine kl_sld F hX hbl dL_law_941 (hin 4 (by decide)) ?_
  refine kl_xwi (w := kx_V cA h0 qx) (As := [.int (xs (nI i + 1).toNatClampNeg), .int (xs (nI i + 2).toNatClampNeg), .int (xs (nI i + 3).toNatClampNeg), .int (xs (nI i + 4).toNatClampNeg)]) (rest := []) F hN (dc_series h) dL_law_942 (cwV 4 F.2.2.2.2.1 gL_law_X7_series rfl rfl rfl (by decide +kernel) ⟨(Nat.le_of_ble_eq_true rfl), (Nat.le_of_ble_eq_true rfl)⟩) 0 rfl rfl rfl rfl rfl (Nat.le_of_ble_eq_true rfl) ⟨Nat.le_trans (show 40 + 7 * i + 1 ≤ 50000 by omega) kl_rc, Nat.le_trans (show 14772 + 107 * i + 3 ≤ 500000 by omega) kl_rs⟩ (fun r u h => ?_)
  obtain ⟨om, hm, hr, hI'⟩ := h
  refine kj_cast (ww' := km_w (kl_cM cA) h1 qm zm ++ kx_W cA h0 qx u.2 u.1) rfl ?_
  refine kj_aload_n F dL_law_945 2 rfl rfl ?_
  refine kj_aload_n F dL_law_946 0 rfl rfl ?_
  refine kj_iload_n F dL_law_947 3 rfl rfl ?_
  refine kj_iconst F dL_law_948 (v := 1) (by decide) ?_
  refine kj_iadd F dL_law_949 ?_
  refine kl_sld F hX hbl dL_law_950 (hin 1 (by decide)) ?_
  refine kj_aload_n F dL_law_951 0 rfl rfl ?_
  refine kj_iload_n F dL_law_952 3 rfl rfl ?_
  refine kj_iconst F dL_law_953 (v := 2) (by decide) ?_
  refine kj_iadd F dL_law_954 ?_
  refine kl_sld F hX hbl dL_law_955 (hin 2 (by decide)) ?_
  refine kj_aload_n F dL_law_956 0 rfl rfl ?_
  refine kj_iload_n F dL_law_957 3 rfl rfl ?_
  refine kj_iconst F dL_law_958 (v := 3) (by decide) ?_
  refine kj_iadd F dL_law_959 ?_
  refine kl_sld F hX hbl dL_law_960 (hin 3 (by decide)) ?_
  refine kj_aload_n F dL_law_961 0 rfl rfl ?_
  refine kj_iload_n F dL_law_962 3 rfl rfl ?_
  refine kj_iconst F dL_law_963 (v := 4) (by decide) ?_
  refine kj_iadd F dL_law_964 ?_
  refine kl_sld F hX hbl dL_law_965 (hin 4 (by decide)) ?_
  refine kl_moi (w := km_w (kl_cM cA) h1 qm) (As := [.int (xs (nI i + 1).toNatClampNeg), .int (xs (nI i + 2).toNatClampNeg), .int (xs (nI i + 3).toNatClampNeg), .int (xs (nI i + 4).toNatClampNeg)]) (rest := [.int r]) F hKm (cm_series hm) dL_law_966 (cwV 4 F.2.2.2.2.1 gL_law_X8_series rfl rfl rfl (by decide +kernel) ⟨(Nat.le_of_ble_eq_true rfl), (Nat.le_of_ble_eq_true rfl)⟩) 0 rfl rfl rfl rfl rfl (Nat.le_of_ble_eq_true rfl) ⟨Nat.le_trans (show 40 + 7 * i + 1 ≤ 50000 by omega) kl_rc, Nat.le_trans (show 14772 + 107 * i + 3 ≤ 500000 by omega) kl_rs⟩ ?_
  refine kw_icmp_eq F dL_law_969 (tgt := 1235) (by decide) (fun _ => ?_) (fun hc => absurd hr hc)
  refine kn_widen (k := 40 + 7 * (i + 6)) (n := 14772 + 107 * (i + 6)) (by show 40 + 7 * i + 1 ≤ _; omega) (by show 14772 + 107 * i + 3 ≤ _; omega) ?_
  exact kk u.1 u.2 om.2 hI'
set_option maxRecDepth 20000 in
set_option maxHeartbeats 1000000 in
theorem kl_case21 {p : Program} {l : Launch} {e : Env} {s : State} {m : MethodId} {below : List Frame} {meth : Method} {c : Code} {D : va_G} {cA : Nat → ClassId} {h0 h1 b L i : Nat} {qx qm : Nat → Nat} {xs : Nat → Int32} {Q : State → Prop} {zx : kx_S} {P : va_W} {zm : km_S} {Inv : kx_S → va_W → km_S → Prop} (F : kj_Fx p s m #[Value.ref b] meth c cL_law 4 wsL_law RL ret D (kx_T cA) (fun q => s.heap.size ≤ q)) (hN : kn_N s) (hKm : va_K D vwCl (km_T (kl_cM cA)) s) (hX : va_X b L xs s s.heap) (hbl : b < s.heap.size) (hi : i + 6 ≤ 3072) (hin : ∀ j : Int32, j.toNatClampNeg < 6 ∧ 0 ≤ j → vp_in (nI i + j) L) (hI : Inv zx P zm) (hs : kl_s21 cA Inv)
    (kk : ∀ zx' P' zm', Inv zx' P' zm' → kj_J p l e room_1 s m #[Value.ref b] below meth c (40 + 7 * (i + 6)) (14772 + 107 * (i + 6)) Q 4 D (fun q => s.heap.size ≤ q) (km_w (kl_cM cA) h1 qm zm' ++ kx_W cA h0 qx P' zx') 1235 [(0, .ref b), (1, .ref h0), (2, .ref h1), (3, .int (nI i))] []) : kj_J p l e room_1 s m #[Value.ref b] below meth c (40 + 7 * i) (14772 + 107 * i) Q 4 D (fun q => s.heap.size ≤ q) (km_w (kl_cM cA) h1 qm zm ++ kx_W cA h0 qx P zx) 974 [(0, .ref b), (1, .ref h0), (2, .ref h1), (3, .int (nI i))] [] := by
  have h := hs zx P zm hI (xs (nI i + 1).toNatClampNeg) (xs (nI i + 2).toNatClampNeg) (xs (nI i + 3).toNatClampNeg) (xs (nI i + 4).toNatClampNeg) (xs (nI i + 5).toNatClampNeg)
  refine kj_aload_n F dL_law_974 1 rfl rfl ?_
  refine kj_aload_n F dL_law_975 0 rfl rfl ?_
  refine kj_iload_n F dL_law_976 3 rfl rfl ?_
  refine kj_iconst F dL_law_977 (v := 1) (by decide) ?_
  refine kj_iadd F dL_law_978 ?_
  refine kl_sld F hX hbl dL_law_979 (hin 1 (by decide)) ?_
  refine kj_aload_n F dL_law_980 0 rfl rfl ?_
  refine kj_iload_n F dL_law_981 3 rfl rfl ?_
  refine kj_iconst F dL_law_982 (v := 2) (by decide) ?_
  refine kj_iadd F dL_law_983 ?_
  refine kl_sld F hX hbl dL_law_984 (hin 2 (by decide)) ?_
  refine kj_aload_n F dL_law_985 0 rfl rfl ?_
  refine kj_iload_n F dL_law_986 3 rfl rfl ?_
  refine kj_iconst F dL_law_987 (v := 3) (by decide) ?_
  refine kj_iadd F dL_law_988 ?_
  refine kl_sld F hX hbl dL_law_989 (hin 3 (by decide)) ?_
  refine kj_aload_n F dL_law_990 0 rfl rfl ?_
  refine kj_iload_n F dL_law_991 3 rfl rfl ?_
  refine kj_iconst F dL_law_992 (v := 4) (by decide) ?_
  refine kj_iadd F dL_law_993 ?_
  refine kl_sld F hX hbl dL_law_994 (hin 4 (by decide)) ?_
  refine kj_aload_n F dL_law_995 0 rfl rfl ?_
  refine kj_iload_n F dL_law_996 3 rfl rfl ?_
  refine kj_iconst F dL_law_997 (v := 5) (by decide) ?_
  refine kj_iadd F dL_law_998 ?_
  refine kl_sld F hX hbl dL_law_999 (hin 5 (by decide)) ?_
  refine kl_xwi (w := kx_V cA h0 qx) (As := [.int (xs (nI i + 1).toNatClampNeg), .int (xs (nI i + 2).toNatClampNeg), .int (xs (nI i + 3).toNatClampNeg), .int (xs (nI i + 4).toNatClampNeg), .int (xs (nI i + 5).toNatClampNeg)]) (rest := []) F hN (dc_weighed h) dL_law_1000 (cwV 5 F.2.2.2.2.1 gL_law_X7_weighed rfl rfl rfl (by decide +kernel) ⟨(Nat.le_of_ble_eq_true rfl), (Nat.le_of_ble_eq_true rfl)⟩) 0 rfl rfl rfl rfl rfl (Nat.le_of_ble_eq_true rfl) ⟨Nat.le_trans (show 40 + 7 * i + 12 ≤ 50000 by omega) kl_rc, Nat.le_trans (show 14772 + 107 * i + 575 ≤ 500000 by omega) kl_rs⟩ (fun r u h => ?_)
  obtain ⟨om, hm, hr, hI'⟩ := h
  refine kj_cast (ww' := km_w (kl_cM cA) h1 qm zm ++ kx_W cA h0 qx u.2 u.1) rfl ?_
  refine kj_aload_n F dL_law_1003 2 rfl rfl ?_
  refine kj_aload_n F dL_law_1004 0 rfl rfl ?_
  refine kj_iload_n F dL_law_1005 3 rfl rfl ?_
  refine kj_iconst F dL_law_1006 (v := 1) (by decide) ?_
  refine kj_iadd F dL_law_1007 ?_
  refine kl_sld F hX hbl dL_law_1008 (hin 1 (by decide)) ?_
  refine kj_aload_n F dL_law_1009 0 rfl rfl ?_
  refine kj_iload_n F dL_law_1010 3 rfl rfl ?_
  refine kj_iconst F dL_law_1011 (v := 2) (by decide) ?_
  refine kj_iadd F dL_law_1012 ?_
  refine kl_sld F hX hbl dL_law_1013 (hin 2 (by decide)) ?_
  refine kj_aload_n F dL_law_1014 0 rfl rfl ?_
  refine kj_iload_n F dL_law_1015 3 rfl rfl ?_
  refine kj_iconst F dL_law_1016 (v := 3) (by decide) ?_
  refine kj_iadd F dL_law_1017 ?_
  refine kl_sld F hX hbl dL_law_1018 (hin 3 (by decide)) ?_
  refine kj_aload_n F dL_law_1019 0 rfl rfl ?_
  refine kj_iload_n F dL_law_1020 3 rfl rfl ?_
  refine kj_iconst F dL_law_1021 (v := 4) (by decide) ?_
  refine kj_iadd F dL_law_1022 ?_
  refine kl_sld F hX hbl dL_law_1023 (hin 4 (by decide)) ?_
  refine kj_aload_n F dL_law_1024 0 rfl rfl ?_
  refine kj_iload_n F dL_law_1025 3 rfl rfl ?_
  refine kj_iconst F dL_law_1026 (v := 5) (by decide) ?_
  refine kj_iadd F dL_law_1027 ?_
  refine kl_sld F hX hbl dL_law_1028 (hin 5 (by decide)) ?_
  refine kl_moi (w := km_w (kl_cM cA) h1 qm) (As := [.int (xs (nI i + 1).toNatClampNeg), .int (xs (nI i + 2).toNatClampNeg), .int (xs (nI i + 3).toNatClampNeg), .int (xs (nI i + 4).toNatClampNeg), .int (xs (nI i + 5).toNatClampNeg)]) (rest := [.int r]) F hKm (cm_weighed hm) dL_law_1029 (cwV 5 F.2.2.2.2.1 gL_law_X8_weighed rfl rfl rfl (by decide +kernel) ⟨(Nat.le_of_ble_eq_true rfl), (Nat.le_of_ble_eq_true rfl)⟩) 0 rfl rfl rfl rfl rfl (Nat.le_of_ble_eq_true rfl) ⟨Nat.le_trans (show 40 + 7 * i + 12 ≤ 50000 by omega) kl_rc, Nat.le_trans (show 14772 + 107 * i + 575 ≤ 500000 by omega) kl_rs⟩ ?_
  refine kw_icmp_eq F dL_law_1032 (tgt := 1235) (by decide) (fun _ => ?_) (fun hc => absurd hr hc)
  refine kn_widen (k := 40 + 7 * (i + 6)) (n := 14772 + 107 * (i + 6)) (by show 40 + 7 * i + 12 ≤ _; omega) (by show 14772 + 107 * i + 575 ≤ _; omega) ?_
  exact kk u.1 u.2 om.2 hI'
set_option maxRecDepth 20000 in
set_option maxHeartbeats 1000000 in
theorem kl_case22 {p : Program} {l : Launch} {e : Env} {s : State} {m : MethodId} {below : List Frame} {meth : Method} {c : Code} {D : va_G} {cA : Nat → ClassId} {h0 h1 b L i : Nat} {qx qm : Nat → Nat} {xs : Nat → Int32} {Q : State → Prop} {zx : kx_S} {P : va_W} {zm : km_S} {Inv : kx_S → va_W → km_S → Prop} (F : kj_Fx p s m #[Value.ref b] meth c cL_law 4 wsL_law RL ret D (kx_T cA) (fun q => s.heap.size ≤ q)) (hN : kn_N s) (hKm : va_K D vwCl (km_T (kl_cM cA)) s) (hX : va_X b L xs s s.heap) (hbl : b < s.heap.size) (hi : i + 6 ≤ 3072) (hin : ∀ j : Int32, j.toNatClampNeg < 6 ∧ 0 ≤ j → vp_in (nI i + j) L) (hI : Inv zx P zm) (hs : kl_s22 cA Inv)
    (kk : ∀ zx' P' zm', Inv zx' P' zm' → kj_J p l e room_1 s m #[Value.ref b] below meth c (40 + 7 * (i + 6)) (14772 + 107 * (i + 6)) Q 4 D (fun q => s.heap.size ≤ q) (km_w (kl_cM cA) h1 qm zm' ++ kx_W cA h0 qx P' zx') 1235 [(0, .ref b), (1, .ref h0), (2, .ref h1), (3, .int (nI i))] []) : kj_J p l e room_1 s m #[Value.ref b] below meth c (40 + 7 * i) (14772 + 107 * i) Q 4 D (fun q => s.heap.size ≤ q) (km_w (kl_cM cA) h1 qm zm ++ kx_W cA h0 qx P zx) 1037 [(0, .ref b), (1, .ref h0), (2, .ref h1), (3, .int (nI i))] [] := by
  have h := hs zx P zm hI (xs (nI i + 1).toNatClampNeg) (xs (nI i + 2).toNatClampNeg) (xs (nI i + 3).toNatClampNeg) (xs (nI i + 4).toNatClampNeg)
  refine kj_aload_n F dL_law_1037 1 rfl rfl ?_
  refine kj_aload_n F dL_law_1038 0 rfl rfl ?_
  refine kj_iload_n F dL_law_1039 3 rfl rfl ?_
  refine kj_iconst F dL_law_1040 (v := 1) (by decide) ?_
  refine kj_iadd F dL_law_1041 ?_
  refine kl_sld F hX hbl dL_law_1042 (hin 1 (by decide)) ?_
  refine kj_aload_n F dL_law_1043 0 rfl rfl ?_
  refine kj_iload_n F dL_law_1044 3 rfl rfl ?_
  refine kj_iconst F dL_law_1045 (v := 2) (by decide) ?_
  refine kj_iadd F dL_law_1046 ?_
  refine kl_sld F hX hbl dL_law_1047 (hin 2 (by decide)) ?_
  refine kj_aload_n F dL_law_1048 0 rfl rfl ?_
  refine kj_iload_n F dL_law_1049 3 rfl rfl ?_
  refine kj_iconst F dL_law_1050 (v := 3) (by decide) ?_
  refine kj_iadd F dL_law_1051 ?_
  refine kl_sld F hX hbl dL_law_1052 (hin 3 (by decide)) ?_
  refine kj_aload_n F dL_law_1053 0 rfl rfl ?_
  refine kj_iload_n F dL_law_1054 3 rfl rfl ?_
  refine kj_iconst F dL_law_1055 (v := 4) (by decide) ?_
  refine kj_iadd F dL_law_1056 ?_
  refine kl_sld F hX hbl dL_law_1057 (hin 4 (by decide)) ?_
  refine kl_xwi (w := kx_V cA h0 qx) (As := [.int (xs (nI i + 1).toNatClampNeg), .int (xs (nI i + 2).toNatClampNeg), .int (xs (nI i + 3).toNatClampNeg), .int (xs (nI i + 4).toNatClampNeg)]) (rest := []) F hN (dc_symmetric h) dL_law_1058 (cwV 4 F.2.2.2.2.1 gL_law_X7_symmetric rfl rfl rfl (by decide +kernel) ⟨(Nat.le_of_ble_eq_true rfl), (Nat.le_of_ble_eq_true rfl)⟩) 0 rfl rfl rfl rfl rfl (Nat.le_of_ble_eq_true rfl) ⟨Nat.le_trans (show 40 + 7 * i + 12 ≤ 50000 by omega) kl_rc, Nat.le_trans (show 14772 + 107 * i + 575 ≤ 500000 by omega) kl_rs⟩ (fun r u h => ?_)
  obtain ⟨om, hm, hr, hI'⟩ := h
  refine kj_cast (ww' := km_w (kl_cM cA) h1 qm zm ++ kx_W cA h0 qx u.2 u.1) rfl ?_
  refine kj_aload_n F dL_law_1061 2 rfl rfl ?_
  refine kj_aload_n F dL_law_1062 0 rfl rfl ?_
  refine kj_iload_n F dL_law_1063 3 rfl rfl ?_
  refine kj_iconst F dL_law_1064 (v := 1) (by decide) ?_
  refine kj_iadd F dL_law_1065 ?_
  refine kl_sld F hX hbl dL_law_1066 (hin 1 (by decide)) ?_
  refine kj_aload_n F dL_law_1067 0 rfl rfl ?_
  refine kj_iload_n F dL_law_1068 3 rfl rfl ?_
  refine kj_iconst F dL_law_1069 (v := 2) (by decide) ?_
  refine kj_iadd F dL_law_1070 ?_
  refine kl_sld F hX hbl dL_law_1071 (hin 2 (by decide)) ?_
  refine kj_aload_n F dL_law_1072 0 rfl rfl ?_
  refine kj_iload_n F dL_law_1073 3 rfl rfl ?_
  refine kj_iconst F dL_law_1074 (v := 3) (by decide) ?_
  refine kj_iadd F dL_law_1075 ?_
  refine kl_sld F hX hbl dL_law_1076 (hin 3 (by decide)) ?_
  refine kj_aload_n F dL_law_1077 0 rfl rfl ?_
  refine kj_iload_n F dL_law_1078 3 rfl rfl ?_
  refine kj_iconst F dL_law_1079 (v := 4) (by decide) ?_
  refine kj_iadd F dL_law_1080 ?_
  refine kl_sld F hX hbl dL_law_1081 (hin 4 (by decide)) ?_
  refine kl_moi (w := km_w (kl_cM cA) h1 qm) (As := [.int (xs (nI i + 1).toNatClampNeg), .int (xs (nI i + 2).toNatClampNeg), .int (xs (nI i + 3).toNatClampNeg), .int (xs (nI i + 4).toNatClampNeg)]) (rest := [.int r]) F hKm (cm_symmetric hm) dL_law_1082 (cwV 4 F.2.2.2.2.1 gL_law_X8_symmetric rfl rfl rfl (by decide +kernel) ⟨(Nat.le_of_ble_eq_true rfl), (Nat.le_of_ble_eq_true rfl)⟩) 0 rfl rfl rfl rfl rfl (Nat.le_of_ble_eq_true rfl) ⟨Nat.le_trans (show 40 + 7 * i + 12 ≤ 50000 by omega) kl_rc, Nat.le_trans (show 14772 + 107 * i + 575 ≤ 500000 by omega) kl_rs⟩ ?_
  refine kw_icmp_eq F dL_law_1085 (tgt := 1235) (by decide) (fun _ => ?_) (fun hc => absurd hr hc)
  refine kn_widen (k := 40 + 7 * (i + 6)) (n := 14772 + 107 * (i + 6)) (by show 40 + 7 * i + 12 ≤ _; omega) (by show 14772 + 107 * i + 575 ≤ _; omega) ?_
  exact kk u.1 u.2 om.2 hI'
set_option maxRecDepth 20000 in
set_option maxHeartbeats 1000000 in
theorem kl_case23 {p : Program} {l : Launch} {e : Env} {s : State} {m : MethodId} {below : List Frame} {meth : Method} {c : Code} {D : va_G} {cA : Nat → ClassId} {h0 h1 b L i : Nat} {qx qm : Nat → Nat} {xs : Nat → Int32} {Q : State → Prop} {zx : kx_S} {P : va_W} {zm : km_S} {Inv : kx_S → va_W → km_S → Prop} (F : kj_Fx p s m #[Value.ref b] meth c cL_law 4 wsL_law RL ret D (kx_T cA) (fun q => s.heap.size ≤ q)) (hN : kn_N s) (hKm : va_K D vwCl (km_T (kl_cM cA)) s) (hX : va_X b L xs s s.heap) (hbl : b < s.heap.size) (hi : i + 6 ≤ 3072) (hin : ∀ j : Int32, j.toNatClampNeg < 6 ∧ 0 ≤ j → vp_in (nI i + j) L) (hI : Inv zx P zm) (hs : kl_s23 cA Inv)
    (kk : ∀ zx' P' zm', Inv zx' P' zm' → kj_J p l e room_1 s m #[Value.ref b] below meth c (40 + 7 * (i + 6)) (14772 + 107 * (i + 6)) Q 4 D (fun q => s.heap.size ≤ q) (km_w (kl_cM cA) h1 qm zm' ++ kx_W cA h0 qx P' zx') 1235 [(0, .ref b), (1, .ref h0), (2, .ref h1), (3, .int (nI i))] []) : kj_J p l e room_1 s m #[Value.ref b] below meth c (40 + 7 * i) (14772 + 107 * i) Q 4 D (fun q => s.heap.size ≤ q) (km_w (kl_cM cA) h1 qm zm ++ kx_W cA h0 qx P zx) 1090 [(0, .ref b), (1, .ref h0), (2, .ref h1), (3, .int (nI i))] [] := by
  have h := hs zx P zm hI (xs (nI i + 1).toNatClampNeg) (xs (nI i + 2).toNatClampNeg)
  refine kj_aload_n F dL_law_1090 1 rfl rfl ?_
  refine kj_aload_n F dL_law_1091 0 rfl rfl ?_
  refine kj_iload_n F dL_law_1092 3 rfl rfl ?_
  refine kj_iconst F dL_law_1093 (v := 1) (by decide) ?_
  refine kj_iadd F dL_law_1094 ?_
  refine kl_sld F hX hbl dL_law_1095 (hin 1 (by decide)) ?_
  refine kj_aload_n F dL_law_1096 0 rfl rfl ?_
  refine kj_iload_n F dL_law_1097 3 rfl rfl ?_
  refine kj_iconst F dL_law_1098 (v := 2) (by decide) ?_
  refine kj_iadd F dL_law_1099 ?_
  refine kl_sld F hX hbl dL_law_1100 (hin 2 (by decide)) ?_
  refine kl_xwi (w := kx_V cA h0 qx) (As := [.int (xs (nI i + 1).toNatClampNeg), .int (xs (nI i + 2).toNatClampNeg)]) (rest := []) F hN (dc_between h) dL_law_1101 (cwV 2 F.2.2.2.2.1 gL_law_X7_between rfl rfl rfl (by decide +kernel) ⟨(Nat.le_of_ble_eq_true rfl), (Nat.le_of_ble_eq_true rfl)⟩) 0 rfl rfl rfl rfl rfl (Nat.le_of_ble_eq_true rfl) ⟨Nat.le_trans (show 40 + 7 * i + 11 ≤ 50000 by omega) kl_rc, Nat.le_trans (show 14772 + 107 * i + 572 ≤ 500000 by omega) kl_rs⟩ (fun r u h => ?_)
  obtain ⟨om, hm, hr, hI'⟩ := h
  refine kj_cast (ww' := km_w (kl_cM cA) h1 qm zm ++ kx_W cA h0 qx u.2 u.1) rfl ?_
  refine kj_aload_n F dL_law_1104 2 rfl rfl ?_
  refine kj_aload_n F dL_law_1105 0 rfl rfl ?_
  refine kj_iload_n F dL_law_1106 3 rfl rfl ?_
  refine kj_iconst F dL_law_1107 (v := 1) (by decide) ?_
  refine kj_iadd F dL_law_1108 ?_
  refine kl_sld F hX hbl dL_law_1109 (hin 1 (by decide)) ?_
  refine kj_aload_n F dL_law_1110 0 rfl rfl ?_
  refine kj_iload_n F dL_law_1111 3 rfl rfl ?_
  refine kj_iconst F dL_law_1112 (v := 2) (by decide) ?_
  refine kj_iadd F dL_law_1113 ?_
  refine kl_sld F hX hbl dL_law_1114 (hin 2 (by decide)) ?_
  refine kl_moi (w := km_w (kl_cM cA) h1 qm) (As := [.int (xs (nI i + 1).toNatClampNeg), .int (xs (nI i + 2).toNatClampNeg)]) (rest := [.int r]) F hKm (cm_between hm) dL_law_1115 (cwV 2 F.2.2.2.2.1 gL_law_X8_between rfl rfl rfl (by decide +kernel) ⟨(Nat.le_of_ble_eq_true rfl), (Nat.le_of_ble_eq_true rfl)⟩) 0 rfl rfl rfl rfl rfl (Nat.le_of_ble_eq_true rfl) ⟨Nat.le_trans (show 40 + 7 * i + 11 ≤ 50000 by omega) kl_rc, Nat.le_trans (show 14772 + 107 * i + 572 ≤ 500000 by omega) kl_rs⟩ ?_
  refine kw_icmp_eq F dL_law_1118 (tgt := 1235) (by decide) (fun _ => ?_) (fun hc => absurd hr hc)
  refine kn_widen (k := 40 + 7 * (i + 6)) (n := 14772 + 107 * (i + 6)) (by show 40 + 7 * i + 11 ≤ _; omega) (by show 14772 + 107 * i + 572 ≤ _; omega) ?_
  exact kk u.1 u.2 om.2 hI'
set_option maxRecDepth 20000 in
set_option maxHeartbeats 1000000 in
theorem kl_case24 {p : Program} {l : Launch} {e : Env} {s : State} {m : MethodId} {below : List Frame} {meth : Method} {c : Code} {D : va_G} {cA : Nat → ClassId} {h0 h1 b L i : Nat} {qx qm : Nat → Nat} {xs : Nat → Int32} {Q : State → Prop} {zx : kx_S} {P : va_W} {zm : km_S} {Inv : kx_S → va_W → km_S → Prop} (F : kj_Fx p s m #[Value.ref b] meth c cL_law 4 wsL_law RL ret D (kx_T cA) (fun q => s.heap.size ≤ q)) (hN : kn_N s) (hKm : va_K D vwCl (km_T (kl_cM cA)) s) (hX : va_X b L xs s s.heap) (hbl : b < s.heap.size) (hi : i + 6 ≤ 3072) (hin : ∀ j : Int32, j.toNatClampNeg < 6 ∧ 0 ≤ j → vp_in (nI i + j) L) (hI : Inv zx P zm) (hs : kl_s24 cA Inv)
    (kk : ∀ zx' P' zm', Inv zx' P' zm' → kj_J p l e room_1 s m #[Value.ref b] below meth c (40 + 7 * (i + 6)) (14772 + 107 * (i + 6)) Q 4 D (fun q => s.heap.size ≤ q) (km_w (kl_cM cA) h1 qm zm' ++ kx_W cA h0 qx P' zx') 1235 [(0, .ref b), (1, .ref h0), (2, .ref h1), (3, .int (nI i))] []) : kj_J p l e room_1 s m #[Value.ref b] below meth c (40 + 7 * i) (14772 + 107 * i) Q 4 D (fun q => s.heap.size ≤ q) (km_w (kl_cM cA) h1 qm zm ++ kx_W cA h0 qx P zx) 1123 [(0, .ref b), (1, .ref h0), (2, .ref h1), (3, .int (nI i))] [] := by
  have h := hs zx P zm hI (xs (nI i + 1).toNatClampNeg) (xs (nI i + 2).toNatClampNeg) (xs (nI i + 3).toNatClampNeg)
  refine kj_aload_n F dL_law_1123 1 rfl rfl ?_
  refine kj_aload_n F dL_law_1124 0 rfl rfl ?_
  refine kj_iload_n F dL_law_1125 3 rfl rfl ?_
  refine kj_iconst F dL_law_1126 (v := 1) (by decide) ?_
  refine kj_iadd F dL_law_1127 ?_
  refine kl_sld F hX hbl dL_law_1128 (hin 1 (by decide)) ?_
  refine kj_aload_n F dL_law_1129 0 rfl rfl ?_
  refine kj_iload_n F dL_law_1130 3 rfl rfl ?_
  refine kj_iconst F dL_law_1131 (v := 2) (by decide) ?_
  refine kj_iadd F dL_law_1132 ?_
  refine kl_sld F hX hbl dL_law_1133 (hin 2 (by decide)) ?_
  refine kj_aload_n F dL_law_1134 0 rfl rfl ?_
  refine kj_iload_n F dL_law_1135 3 rfl rfl ?_
  refine kj_iconst F dL_law_1136 (v := 3) (by decide) ?_
  refine kj_iadd F dL_law_1137 ?_
  refine kl_sld F hX hbl dL_law_1138 (hin 3 (by decide)) ?_
  refine kl_xwi (w := kx_V cA h0 qx) (As := [.int (xs (nI i + 1).toNatClampNeg), .int (xs (nI i + 2).toNatClampNeg), .int (xs (nI i + 3).toNatClampNeg)]) (rest := []) F hN (dc_way h) dL_law_1139 (cwV 3 F.2.2.2.2.1 gL_law_X7_way rfl rfl rfl (by decide +kernel) ⟨(Nat.le_of_ble_eq_true rfl), (Nat.le_of_ble_eq_true rfl)⟩) 0 rfl rfl rfl rfl rfl (Nat.le_of_ble_eq_true rfl) ⟨Nat.le_trans (show 40 + 7 * i + 11 ≤ 50000 by omega) kl_rc, Nat.le_trans (show 14772 + 107 * i + 572 ≤ 500000 by omega) kl_rs⟩ (fun r u h => ?_)
  obtain ⟨om, hm, hr, hI'⟩ := h
  refine kj_cast (ww' := km_w (kl_cM cA) h1 qm zm ++ kx_W cA h0 qx u.2 u.1) rfl ?_
  refine kj_aload_n F dL_law_1142 2 rfl rfl ?_
  refine kj_aload_n F dL_law_1143 0 rfl rfl ?_
  refine kj_iload_n F dL_law_1144 3 rfl rfl ?_
  refine kj_iconst F dL_law_1145 (v := 1) (by decide) ?_
  refine kj_iadd F dL_law_1146 ?_
  refine kl_sld F hX hbl dL_law_1147 (hin 1 (by decide)) ?_
  refine kj_aload_n F dL_law_1148 0 rfl rfl ?_
  refine kj_iload_n F dL_law_1149 3 rfl rfl ?_
  refine kj_iconst F dL_law_1150 (v := 2) (by decide) ?_
  refine kj_iadd F dL_law_1151 ?_
  refine kl_sld F hX hbl dL_law_1152 (hin 2 (by decide)) ?_
  refine kj_aload_n F dL_law_1153 0 rfl rfl ?_
  refine kj_iload_n F dL_law_1154 3 rfl rfl ?_
  refine kj_iconst F dL_law_1155 (v := 3) (by decide) ?_
  refine kj_iadd F dL_law_1156 ?_
  refine kl_sld F hX hbl dL_law_1157 (hin 3 (by decide)) ?_
  refine kl_moi (w := km_w (kl_cM cA) h1 qm) (As := [.int (xs (nI i + 1).toNatClampNeg), .int (xs (nI i + 2).toNatClampNeg), .int (xs (nI i + 3).toNatClampNeg)]) (rest := [.int r]) F hKm (cm_way hm) dL_law_1158 (cwV 3 F.2.2.2.2.1 gL_law_X8_way rfl rfl rfl (by decide +kernel) ⟨(Nat.le_of_ble_eq_true rfl), (Nat.le_of_ble_eq_true rfl)⟩) 0 rfl rfl rfl rfl rfl (Nat.le_of_ble_eq_true rfl) ⟨Nat.le_trans (show 40 + 7 * i + 11 ≤ 50000 by omega) kl_rc, Nat.le_trans (show 14772 + 107 * i + 572 ≤ 500000 by omega) kl_rs⟩ ?_
  refine kw_icmp_eq F dL_law_1161 (tgt := 1235) (by decide) (fun _ => ?_) (fun hc => absurd hr hc)
  refine kn_widen (k := 40 + 7 * (i + 6)) (n := 14772 + 107 * (i + 6)) (by show 40 + 7 * i + 11 ≤ _; omega) (by show 14772 + 107 * i + 572 ≤ _; omega) ?_
  exact kk u.1 u.2 om.2 hI'
set_option maxRecDepth 20000 in
set_option maxHeartbeats 1000000 in
theorem kl_case25 {p : Program} {l : Launch} {e : Env} {s : State} {m : MethodId} {below : List Frame} {meth : Method} {c : Code} {D : va_G} {cA : Nat → ClassId} {h0 h1 b L i : Nat} {qx qm : Nat → Nat} {xs : Nat → Int32} {Q : State → Prop} {zx : kx_S} {P : va_W} {zm : km_S} {Inv : kx_S → va_W → km_S → Prop} (F : kj_Fx p s m #[Value.ref b] meth c cL_law 4 wsL_law RL ret D (kx_T cA) (fun q => s.heap.size ≤ q)) (hN : kn_N s) (hKm : va_K D vwCl (km_T (kl_cM cA)) s) (hX : va_X b L xs s s.heap) (hbl : b < s.heap.size) (hi : i + 6 ≤ 3072) (hin : ∀ j : Int32, j.toNatClampNeg < 6 ∧ 0 ≤ j → vp_in (nI i + j) L) (hI : Inv zx P zm) (hs : kl_s25 cA Inv)
    (kk : ∀ zx' P' zm', Inv zx' P' zm' → kj_J p l e room_1 s m #[Value.ref b] below meth c (40 + 7 * (i + 6)) (14772 + 107 * (i + 6)) Q 4 D (fun q => s.heap.size ≤ q) (km_w (kl_cM cA) h1 qm zm' ++ kx_W cA h0 qx P' zx') 1235 [(0, .ref b), (1, .ref h0), (2, .ref h1), (3, .int (nI i))] []) : kj_J p l e room_1 s m #[Value.ref b] below meth c (40 + 7 * i) (14772 + 107 * i) Q 4 D (fun q => s.heap.size ≤ q) (km_w (kl_cM cA) h1 qm zm ++ kx_W cA h0 qx P zx) 1166 [(0, .ref b), (1, .ref h0), (2, .ref h1), (3, .int (nI i))] [] := by
  have h := hs zx P zm hI (xs (nI i + 1).toNatClampNeg)
  refine kj_aload_n F dL_law_1166 1 rfl rfl ?_
  refine kj_aload_n F dL_law_1167 0 rfl rfl ?_
  refine kj_iload_n F dL_law_1168 3 rfl rfl ?_
  refine kj_iconst F dL_law_1169 (v := 1) (by decide) ?_
  refine kj_iadd F dL_law_1170 ?_
  refine kl_sld F hX hbl dL_law_1171 (hin 1 (by decide)) ?_
  obtain ⟨ox, hx1, om, hm, hr, hI'⟩ := h
  refine kl_xoi (w := kx_W cA h0 qx P) (As := [.int (xs (nI i + 1).toNatClampNeg)]) (rest := []) F (cc_image hx1) dL_law_1172 (cwV 1 F.2.2.2.2.1 gL_law_X7_image rfl rfl rfl (by decide +kernel) ⟨(Nat.le_of_ble_eq_true rfl), (Nat.le_of_ble_eq_true rfl)⟩) 0 rfl rfl rfl rfl rfl (Nat.le_of_ble_eq_true rfl) ⟨Nat.le_trans (show 40 + 7 * i ≤ 50000 by omega) kl_rc, Nat.le_trans (show 14772 + 107 * i ≤ 500000 by omega) kl_rs⟩ ?_
  refine kj_aload_n F dL_law_1175 2 rfl rfl ?_
  refine kj_aload_n F dL_law_1176 0 rfl rfl ?_
  refine kj_iload_n F dL_law_1177 3 rfl rfl ?_
  refine kj_iconst F dL_law_1178 (v := 1) (by decide) ?_
  refine kj_iadd F dL_law_1179 ?_
  refine kl_sld F hX hbl dL_law_1180 (hin 1 (by decide)) ?_
  refine kl_moi (w := km_w (kl_cM cA) h1 qm) (As := [.int (xs (nI i + 1).toNatClampNeg)]) (rest := [.int ox.1]) F hKm (cm_image hm) dL_law_1181 (cwV 1 F.2.2.2.2.1 gL_law_X8_image rfl rfl rfl (by decide +kernel) ⟨(Nat.le_of_ble_eq_true rfl), (Nat.le_of_ble_eq_true rfl)⟩) 0 rfl rfl rfl rfl rfl (Nat.le_of_ble_eq_true rfl) ⟨Nat.le_trans (show 40 + 7 * i + 0 ≤ 50000 by omega) kl_rc, Nat.le_trans (show 14772 + 107 * i + 0 ≤ 500000 by omega) kl_rs⟩ ?_
  refine kw_icmp_eq F dL_law_1184 (tgt := 1235) (by decide) (fun _ => ?_) (fun hc => absurd hr hc)
  refine kn_widen (k := 40 + 7 * (i + 6)) (n := 14772 + 107 * (i + 6)) (by show 40 + 7 * i + 0 ≤ _; omega) (by show 14772 + 107 * i + 0 ≤ _; omega) ?_
  exact kk ox.2 P om.2 hI'
set_option maxRecDepth 20000 in
set_option maxHeartbeats 1000000 in
theorem kl_case26 {p : Program} {l : Launch} {e : Env} {s : State} {m : MethodId} {below : List Frame} {meth : Method} {c : Code} {D : va_G} {cA : Nat → ClassId} {h0 h1 b L i : Nat} {qx qm : Nat → Nat} {xs : Nat → Int32} {Q : State → Prop} {zx : kx_S} {P : va_W} {zm : km_S} {Inv : kx_S → va_W → km_S → Prop} (F : kj_Fx p s m #[Value.ref b] meth c cL_law 4 wsL_law RL ret D (kx_T cA) (fun q => s.heap.size ≤ q)) (hN : kn_N s) (hKm : va_K D vwCl (km_T (kl_cM cA)) s) (hX : va_X b L xs s s.heap) (hbl : b < s.heap.size) (hi : i + 6 ≤ 3072) (hin : ∀ j : Int32, j.toNatClampNeg < 6 ∧ 0 ≤ j → vp_in (nI i + j) L) (hI : Inv zx P zm) (hs : kl_s26 cA Inv)
    (kk : ∀ zx' P' zm', Inv zx' P' zm' → kj_J p l e room_1 s m #[Value.ref b] below meth c (40 + 7 * (i + 6)) (14772 + 107 * (i + 6)) Q 4 D (fun q => s.heap.size ≤ q) (km_w (kl_cM cA) h1 qm zm' ++ kx_W cA h0 qx P' zx') 1235 [(0, .ref b), (1, .ref h0), (2, .ref h1), (3, .int (nI i))] []) : kj_J p l e room_1 s m #[Value.ref b] below meth c (40 + 7 * i) (14772 + 107 * i) Q 4 D (fun q => s.heap.size ≤ q) (km_w (kl_cM cA) h1 qm zm ++ kx_W cA h0 qx P zx) 1189 [(0, .ref b), (1, .ref h0), (2, .ref h1), (3, .int (nI i))] [] := by
  have h := hs zx P zm hI (xs (nI i + 1).toNatClampNeg)
  refine kj_aload_n F dL_law_1189 1 rfl rfl ?_
  refine kj_aload_n F dL_law_1190 0 rfl rfl ?_
  refine kj_iload_n F dL_law_1191 3 rfl rfl ?_
  refine kj_iconst F dL_law_1192 (v := 1) (by decide) ?_
  refine kj_iadd F dL_law_1193 ?_
  refine kl_sld F hX hbl dL_law_1194 (hin 1 (by decide)) ?_
  obtain ⟨ox, hx1, om, hm, hr, hI'⟩ := h
  refine kl_xoi (w := kx_W cA h0 qx P) (As := [.int (xs (nI i + 1).toNatClampNeg)]) (rest := []) F (cc_restore hx1) dL_law_1195 (cwV 1 F.2.2.2.2.1 gL_law_X7_restore rfl rfl rfl (by decide +kernel) ⟨(Nat.le_of_ble_eq_true rfl), (Nat.le_of_ble_eq_true rfl)⟩) 0 rfl rfl rfl rfl rfl (Nat.le_of_ble_eq_true rfl) ⟨Nat.le_trans (show 40 + 7 * i ≤ 50000 by omega) kl_rc, Nat.le_trans (show 14772 + 107 * i ≤ 500000 by omega) kl_rs⟩ ?_
  refine kj_aload_n F dL_law_1198 2 rfl rfl ?_
  refine kj_aload_n F dL_law_1199 0 rfl rfl ?_
  refine kj_iload_n F dL_law_1200 3 rfl rfl ?_
  refine kj_iconst F dL_law_1201 (v := 1) (by decide) ?_
  refine kj_iadd F dL_law_1202 ?_
  refine kl_sld F hX hbl dL_law_1203 (hin 1 (by decide)) ?_
  refine kl_moi (w := km_w (kl_cM cA) h1 qm) (As := [.int (xs (nI i + 1).toNatClampNeg)]) (rest := [.int ox.1]) F hKm (cm_restore hm) dL_law_1204 (cwV 1 F.2.2.2.2.1 gL_law_X8_restore rfl rfl rfl (by decide +kernel) ⟨(Nat.le_of_ble_eq_true rfl), (Nat.le_of_ble_eq_true rfl)⟩) 0 rfl rfl rfl rfl rfl (Nat.le_of_ble_eq_true rfl) ⟨Nat.le_trans (show 40 + 7 * i + 0 ≤ 50000 by omega) kl_rc, Nat.le_trans (show 14772 + 107 * i + 0 ≤ 500000 by omega) kl_rs⟩ ?_
  refine kw_icmp_eq F dL_law_1207 (tgt := 1235) (by decide) (fun _ => ?_) (fun hc => absurd hr hc)
  refine kn_widen (k := 40 + 7 * (i + 6)) (n := 14772 + 107 * (i + 6)) (by show 40 + 7 * i + 0 ≤ _; omega) (by show 14772 + 107 * i + 0 ≤ _; omega) ?_
  exact kk ox.2 P om.2 hI'
set_option maxRecDepth 20000 in
set_option maxHeartbeats 1000000 in
theorem kl_case27 {p : Program} {l : Launch} {e : Env} {s : State} {m : MethodId} {below : List Frame} {meth : Method} {c : Code} {D : va_G} {cA : Nat → ClassId} {h0 h1 b L i : Nat} {qx qm : Nat → Nat} {xs : Nat → Int32} {Q : State → Prop} {zx : kx_S} {P : va_W} {zm : km_S} {Inv : kx_S → va_W → km_S → Prop} (F : kj_Fx p s m #[Value.ref b] meth c cL_law 4 wsL_law RL ret D (kx_T cA) (fun q => s.heap.size ≤ q)) (hN : kn_N s) (hKm : va_K D vwCl (km_T (kl_cM cA)) s) (hX : va_X b L xs s s.heap) (hbl : b < s.heap.size) (hi : i + 6 ≤ 3072) (hin : ∀ j : Int32, j.toNatClampNeg < 6 ∧ 0 ≤ j → vp_in (nI i + j) L) (hI : Inv zx P zm) (hs : kl_s27 cA Inv)
    (kk : ∀ zx' P' zm', Inv zx' P' zm' → kj_J p l e room_1 s m #[Value.ref b] below meth c (40 + 7 * (i + 6)) (14772 + 107 * (i + 6)) Q 4 D (fun q => s.heap.size ≤ q) (km_w (kl_cM cA) h1 qm zm' ++ kx_W cA h0 qx P' zx') 1235 [(0, .ref b), (1, .ref h0), (2, .ref h1), (3, .int (nI i))] []) : kj_J p l e room_1 s m #[Value.ref b] below meth c (40 + 7 * i) (14772 + 107 * i) Q 4 D (fun q => s.heap.size ≤ q) (km_w (kl_cM cA) h1 qm zm ++ kx_W cA h0 qx P zx) 1212 [(0, .ref b), (1, .ref h0), (2, .ref h1), (3, .int (nI i))] [] := by
  have h := hs zx P zm hI (xs (nI i + 1).toNatClampNeg)
  refine kj_aload_n F dL_law_1212 1 rfl rfl ?_
  refine kj_aload_n F dL_law_1213 0 rfl rfl ?_
  refine kj_iload_n F dL_law_1214 3 rfl rfl ?_
  refine kj_iconst F dL_law_1215 (v := 1) (by decide) ?_
  refine kj_iadd F dL_law_1216 ?_
  refine kl_sld F hX hbl dL_law_1217 (hin 1 (by decide)) ?_
  obtain ⟨ox, hx1, om, hm, hr, hI'⟩ := h
  refine kl_xoi (w := kx_W cA h0 qx P) (As := [.int (xs (nI i + 1).toNatClampNeg)]) (rest := []) F (cc_count hx1) dL_law_1218 (cwV 1 F.2.2.2.2.1 gL_law_X7_count rfl rfl rfl (by decide +kernel) ⟨(Nat.le_of_ble_eq_true rfl), (Nat.le_of_ble_eq_true rfl)⟩) 0 rfl rfl rfl rfl rfl (Nat.le_of_ble_eq_true rfl) ⟨Nat.le_trans (show 40 + 7 * i ≤ 50000 by omega) kl_rc, Nat.le_trans (show 14772 + 107 * i ≤ 500000 by omega) kl_rs⟩ ?_
  refine kj_aload_n F dL_law_1221 2 rfl rfl ?_
  refine kj_aload_n F dL_law_1222 0 rfl rfl ?_
  refine kj_iload_n F dL_law_1223 3 rfl rfl ?_
  refine kj_iconst F dL_law_1224 (v := 1) (by decide) ?_
  refine kj_iadd F dL_law_1225 ?_
  refine kl_sld F hX hbl dL_law_1226 (hin 1 (by decide)) ?_
  refine kl_moi (w := km_w (kl_cM cA) h1 qm) (As := [.int (xs (nI i + 1).toNatClampNeg)]) (rest := [.int ox.1]) F hKm (cm_count hm) dL_law_1227 (cwV 1 F.2.2.2.2.1 gL_law_X8_count rfl rfl rfl (by decide +kernel) ⟨(Nat.le_of_ble_eq_true rfl), (Nat.le_of_ble_eq_true rfl)⟩) 0 rfl rfl rfl rfl rfl (Nat.le_of_ble_eq_true rfl) ⟨Nat.le_trans (show 40 + 7 * i + 0 ≤ 50000 by omega) kl_rc, Nat.le_trans (show 14772 + 107 * i + 0 ≤ 500000 by omega) kl_rs⟩ ?_
  refine kw_icmp_eq F dL_law_1230 (tgt := 1235) (by decide) (fun _ => ?_) (fun hc => absurd hr hc)
  refine kn_widen (k := 40 + 7 * (i + 6)) (n := 14772 + 107 * (i + 6)) (by show 40 + 7 * i + 0 ≤ _; omega) (by show 14772 + 107 * i + 0 ≤ _; omega) ?_
  exact kk ox.2 P om.2 hI'
