/-- arrays of arrays: as va_AO is of arrays of objects -/
def va_AOA (ty : FieldType) (U : State) : Prop := (Cond.arrayOver (.array ty)).before #[] U = true
theorem va_AOA.use {ty : FieldType} {A : Array Value} {U : State} (h : va_AOA ty U) : (Cond.arrayOver (.array ty)).before A U = true := h
theorem va_AOA.spec {ty : FieldType} {s : State} (h : va_AOA ty s) : ∃ comp c k, s.vm.findClass (FieldType.array ty).toString = some comp ∧ (s.vm.classes.findIdx? fun x => match x.kind with | .array component _ => component == comp | _ => false) = some c ∧ s.vm.classes[c]? = some k ∧ k.kind = .array comp (.array ty) ∧ s.vm.findClass ("[" ++ (FieldType.array ty).toString) = some c := by
  unfold va_AOA Cond.before at h
  simp only [Cond.holds, Cond.value, beq_iff_eq] at h
  cases hc : s.vm.findClass (FieldType.array ty).toString with
  | none => simp [hc] at h
  | some comp =>
    simp only [hc, Option.bind_some, Option.bind_eq_some_iff, Option.map_eq_some_iff] at h
    obtain ⟨c, hi, k, hk, hb⟩ := h
    obtain ⟨hlt, hp, -⟩ := Array.findIdx?_eq_some_iff_getElem.mp hi
    have hke : s.vm.classes[c] = k := by rw [Array.getElem?_eq_getElem hlt] at hk; exact Option.some.inj hk
    rw [hke] at hp
    cases hkk : k.kind with
    | array c' t' =>
      simp only [hkk, Bool.and_eq_true, decide_eq_true_eq, beq_iff_eq] at hb hp
      obtain ⟨rfl, hf⟩ := hb
      subst hp
      exact ⟨_, c, k, rfl, hi, hk, hkk, hf⟩
    | _ => simp [hkk] at hb
theorem kn_idx_bare (vm : Vm) (comp : ClassId) : (vm.bare.classes.findIdx? fun (x : Class) => match x.kind with | .array component _ => component == comp | _ => false) = (vm.classes.findIdx? fun (x : Class) => match x.kind with | .array component _ => component == comp | _ => false) := by
  simp only [Vm.bare, Array.findIdx?_map]
  rfl
theorem va_AOA.moved {ty : FieldType} {u U : State} (hvm : u.vm.Alike U.vm) (h : va_AOA ty u) : va_AOA ty U := by
  obtain ⟨comp, c, k, h1, h2, h3, h4, h5⟩ := va_AOA.spec h
  obtain ⟨k', hk', he⟩ := hvm.2.2 _ _ h3
  have hi : (U.vm.classes.findIdx? fun (x : Class) => match x.kind with | .array component _ => component == comp | _ => false) = some c := by
    rw [← kn_idx_bare]
    first | rw [hvm.bare_eq] | rw [← hvm.bare_eq]
    rw [kn_idx_bare]
    exact h2
  have hkind : k'.kind = .array comp (.array ty) := by rw [he]; exact h4
  have f1 : U.vm.findClass (FieldType.array ty).toString = some comp := by rw [hvm.findClass]; exact h1
  have f2 : U.vm.findClass ("[" ++ (FieldType.array ty).toString) = some c := by rw [hvm.findClass]; exact h5
  unfold va_AOA Cond.before Cond.holds
  simp only [Cond.value]
  rw [f1, Option.bind_some]
  refine (congrArg (fun o : Option Nat => (o.bind (fun c => (U.vm.classes[c]?).map fun (k : Class) => match k.kind with | .array _ t => decide (t = FieldType.array ty) && decide (U.vm.findClass ("[" ++ (FieldType.array ty).toString) = some c) | _ => false) == some true)) hi).trans ?_
  simp [hk', hkind, f2]
/-- what the tables say of the private members that a nest mate calls -/
def kn_N (U : State) : Prop := va_Nw (.methodLinkNest RX7 9 yX6_init RX7) U ∧ va_Nw (.methodLinkNest RX7 24 yX3_init RX7) U ∧ va_Nw (.methodLinkNest RX7 44 yX2_init RX7) U ∧ va_Nw (.methodLinkNest RX7 51 yX5_init RX7) U ∧ va_Nw (.methodLinkNest RX6 61 yX0_init RX7) U ∧ va_Nw (.methodLinkNest RX3 24 yX7_copyPlaces RX7) U ∧ va_Nw (.methodLinkNest RX4 9 yX7_choose RX7) U ∧ va_Nw (.methodLinkNest RX4 33 yX0_init RX7) U ∧ va_Nw (.methodLinkNest RX1 33 yX0_init RX7) U ∧ va_AOA .int U ∧ va_AO RX1 U ∧ va_AO RX4 U
theorem kn_N.same {u U : State} (e : u.vm = U.vm) (h : kn_N u) : kn_N U := ⟨va_Nw.same rfl e h.1, va_Nw.same rfl e h.2.1, va_Nw.same rfl e h.2.2.1, va_Nw.same rfl e h.2.2.2.1, va_Nw.same rfl e h.2.2.2.2.1, va_Nw.same rfl e h.2.2.2.2.2.1, va_Nw.same rfl e h.2.2.2.2.2.2.1, va_Nw.same rfl e h.2.2.2.2.2.2.2.1, va_Nw.same rfl e h.2.2.2.2.2.2.2.2.1, (va_AOA.moved (by rw [e]; exact Vm.Alike.refl _) h.2.2.2.2.2.2.2.2.2.1), (va_AO.moved (by rw [e]; exact Vm.Alike.refl _) h.2.2.2.2.2.2.2.2.2.2.1), (va_AO.moved (by rw [e]; exact Vm.Alike.refl _) h.2.2.2.2.2.2.2.2.2.2.2)⟩
theorem kn_N.warm {s U : State} (e : s.WarmedH U.vm) (h : kn_N s) : kn_N U := ⟨va_Nw.warmM e h.1, va_Nw.warmM e h.2.1, va_Nw.warmM e h.2.2.1, va_Nw.warmM e h.2.2.2.1, va_Nw.warmM e h.2.2.2.2.1, va_Nw.warmM e h.2.2.2.2.2.1, va_Nw.warmM e h.2.2.2.2.2.2.1, va_Nw.warmM e h.2.2.2.2.2.2.2.1, va_Nw.warmM e h.2.2.2.2.2.2.2.2.1, (va_AOA.moved e.alike h.2.2.2.2.2.2.2.2.2.1), (va_AO.moved e.alike h.2.2.2.2.2.2.2.2.2.2.1), (va_AO.moved e.alike h.2.2.2.2.2.2.2.2.2.2.2)⟩
def kn_pre (D : va_G) (tys : List (ClassId × FieldType)) (ww : va_W) (sz : Nat) : State → Prop := fun U => kj_pre D tys ww sz U ∧ kn_N U
theorem kn_blind {D : va_G} {tys : List (ClassId × FieldType)} {ww : va_W} {sz : Nat} {av : List Value} : FrameBlind (va_Pc av (kn_pre D tys ww sz)) :=
  fun a U g mk q => ⟨q.1, (kj_blind (av := av) a U g mk ⟨q.1, q.2.1⟩).2, kn_N.same rfl q.2.2⟩
def kn_Qi {S : Type} (D : va_G) (tys : List (ClassId × FieldType)) (A : Nat → Prop) (w : S → va_W) (Post : Int32 → S → Prop) : Array Value → State → Outcome → State → Prop := va_Qi Post (fun u => kj_post D tys A (w u)) A
def kn_Mi {S : Type} (l : Launch) (y : MethodName) (ws : List Cond) (rm : Room) (D : va_G) (tys : List (ClassId × FieldType)) (w : S → va_W) (ww : va_W) (av : List Value) (Post : Int32 → S → Prop) : Prop := ∀ sz, Met l y ws rm (va_Pc av (kn_pre D tys ww sz)) (kn_Qi D tys (va_A ww sz) w Post) rm.cells rm.slots (va_A ww sz)
def kn_Ql {S : Type} (D : va_G) (tys : List (ClassId × FieldType)) (A : Nat → Prop) (w : S → va_W) (Post : Int64 → S → Prop) : Array Value → State → Outcome → State → Prop := va_Ql Post (fun u => kj_post D tys A (w u)) A
def kn_Ml {S : Type} (l : Launch) (y : MethodName) (ws : List Cond) (rm : Room) (D : va_G) (tys : List (ClassId × FieldType)) (w : S → va_W) (ww : va_W) (av : List Value) (Post : Int64 → S → Prop) : Prop := ∀ sz, Met l y ws rm (va_Pc av (kn_pre D tys ww sz)) (kn_Ql D tys (va_A ww sz) w Post) rm.cells rm.slots (va_A ww sz)
def kn_Qq {S : Type} (D : va_G) (tys : List (ClassId × FieldType)) (A : Nat → Prop) (w : S → va_W) (Post : Option Nat → S → Prop) : Array Value → State → Outcome → State → Prop := va_Qq Post (fun u => kj_post D tys A (w u)) A
def kn_Mq {S : Type} (l : Launch) (y : MethodName) (ws : List Cond) (rm : Room) (D : va_G) (tys : List (ClassId × FieldType)) (w : S → va_W) (ww : va_W) (av : List Value) (Post : Option Nat → S → Prop) : Prop := ∀ sz, Met l y ws rm (va_Pc av (kn_pre D tys ww sz)) (kn_Qq D tys (va_A ww sz) w Post) rm.cells rm.slots (va_A ww sz)
def kn_Qv {S : Type} (D : va_G) (tys : List (ClassId × FieldType)) (A : Nat → Prop) (w : S → va_W) (Post : S → Prop) : Array Value → State → Outcome → State → Prop := va_Qv Post (fun u => kj_post D tys A (w u)) A
def kn_Mv {S : Type} (l : Launch) (y : MethodName) (ws : List Cond) (rm : Room) (D : va_G) (tys : List (ClassId × FieldType)) (w : S → va_W) (ww : va_W) (av : List Value) (Post : S → Prop) : Prop := ∀ sz, Met l y ws rm (va_Pc av (kn_pre D tys ww sz)) (kn_Qv D tys (va_A ww sz) w Post) rm.cells rm.slots (va_A ww sz)
/-- a method's start, with its name and the nest's words -/
theorem kn_start {l : Launch} {y : MethodName} {ws ws' : List Cond} {rm : Room} {D : va_G} {tys : List (ClassId × FieldType)} {ww : va_W} {av : List Value} {sz : Nat} {cc : ByteArray} {maxL : Nat} {ret : Option FieldType} {Qc : Array Value → State → Outcome → State → Prop} {lv : List (Nat × Value)} {mc ms : Nat}
    (hy : plainName y.cls = true) (hw : ws = Cond.code y cc maxL ret :: ws') (hn : (lg_sl av).length ≤ maxL) (hlv : lv_args 0 av = lv)
    (body : ∀ (p : Program) (e : Env) (s : State) (m : MethodId) (args : Array Value) (below : List Frame) (meth : Method) (c : Code), s.heap.size = sz → kj_Fx p s m args meth c cc maxL ws y.cls ret D tys (va_A ww sz) → kn_N s → meth.name = y.name →
      kj_J p l e rm s m args below meth c 0 0 (MQ below Qc args s mc ms (va_A ww sz)) maxL D (va_A ww sz) ww 0 lv []) :
    Met l y ws rm (va_Pc av (kn_pre D tys ww sz)) Qc mc ms (va_A ww sz) := by
  refine Met.ofW (cc := cc) (maxL := maxL) (ret := ret) hy hw ?_
  intro p e s m args below meth c s₁ B hml hv
  obtain ⟨rfl, ⟨hsz, hP, hK, hD0⟩, hN⟩ := hv
  have hl := lv_entry av (n := maxL) hn
  rw [lg_entry_eq]
  exact body p e s m _ below meth c hsz ⟨B.exec, B.bytes, hml, findClass_of_methodNamed B.named, atoms_spec (ws := ws) B.pre, B.returns, B.notSynchronized, hK, fun q h => Or.inr (hsz ▸ h)⟩ hN (name_of_methodNamed B.named B.method).1 _ _ _ ⟨hP, hD0.self, va_S.rf, hlv ▸ hl⟩
/-- the same without the nest's words -/
theorem kj_startN {l : Launch} {y : MethodName} {ws ws' : List Cond} {rm : Room} {D : va_G} {tys : List (ClassId × FieldType)} {ww : va_W} {av : List Value} {sz : Nat} {cc : ByteArray} {maxL : Nat} {ret : Option FieldType} {Qc : Array Value → State → Outcome → State → Prop} {lv : List (Nat × Value)} {mc ms : Nat}
    (hy : plainName y.cls = true) (hw : ws = Cond.code y cc maxL ret :: ws') (hn : (lg_sl av).length ≤ maxL) (hlv : lv_args 0 av = lv)
    (body : ∀ (p : Program) (e : Env) (s : State) (m : MethodId) (args : Array Value) (below : List Frame) (meth : Method) (c : Code), s.heap.size = sz → kj_Fx p s m args meth c cc maxL ws y.cls ret D tys (va_A ww sz) → meth.name = y.name →
      kj_J p l e rm s m args below meth c 0 0 (MQ below Qc args s mc ms (va_A ww sz)) maxL D (va_A ww sz) ww 0 lv []) :
    Met l y ws rm (va_Pc av (kj_pre D tys ww sz)) Qc mc ms (va_A ww sz) := by
  refine Met.ofW (cc := cc) (maxL := maxL) (ret := ret) hy hw ?_
  intro p e s m args below meth c s₁ B hml hv
  obtain ⟨rfl, hsz, hP, hK, hD0⟩ := hv
  have hl := lv_entry av (n := maxL) hn
  rw [lg_entry_eq]
  exact body p e s m _ below meth c hsz ⟨B.exec, B.bytes, hml, findClass_of_methodNamed B.named, atoms_spec (ws := ws) B.pre, B.returns, B.notSynchronized, hK, fun q h => Or.inr (hsz ▸ h)⟩ (name_of_methodNamed B.named B.method).1 _ _ _ ⟨hP, hD0.self, va_S.rf, hlv ▸ hl⟩
theorem kw_h {α : Type} {g : Option α} {o : α} (h : g = some o) : g.bind some = some o := by rw [h]; rfl
section KN
variable {p : Program} {l : Launch} {e : Env} {R : Room} {s : State} {m : MethodId} {args : Array Value} {below : List Frame} {meth : Method} {c : Code} {cells slots : Nat} {Q : State → Prop} {cc : ByteArray} {nL : Nat} {Ts : List Cond} {own : String} {ret : Option FieldType} {D : va_G} {tys : List (ClassId × FieldType)} {A : Nat → Prop} {ww : va_W} {pc : Nat} {lv : List (Nat × Value)} {rest : List Value} {S : Type} {w : S → va_W} {z : S}
theorem kn_widen {st : List Value} {k n : Nat} (h1 : cells ≤ k) (h2 : slots ≤ n) (kk : kj_J p l e R s m args below meth c k n Q nL D A ww pc lv st) : kj_J p l e R s m args below meth c cells slots Q nL D A ww pc lv st := fun H locs ls h => W.widen h1 h2 (kk H locs ls h)
theorem kw_if_eq (F : kj_Fx p s m args meth c cc nL Ts own ret D tys A) {x : Int32} {off : Int} {tgt : Nat} (hdg : decode cc pc = .ok (.ifCond .eq off, 3)) (ht : (pc : Int) + off = (tgt : Int)) (k1 : x = 0 → kj_J p l e R s m args below meth c cells slots Q nL D A ww tgt lv rest) (k2 : ¬ x = 0 → kj_J p l e R s m args below meth c cells slots Q nL D A ww (pc + 3) lv rest) : kj_J p l e R s m args below meth c cells slots Q nL D A ww pc lv (.int x :: rest) :=
  fun H locs ls a => lv_if_eq F.1 F.2.1 hdg ht (fun q => k1 q H locs ls a) (fun q => k2 q H locs ls a)
theorem kw_if_ne (F : kj_Fx p s m args meth c cc nL Ts own ret D tys A) {x : Int32} {off : Int} {tgt : Nat} (hdg : decode cc pc = .ok (.ifCond .ne off, 3)) (ht : (pc : Int) + off = (tgt : Int)) (k1 : x = 0 → kj_J p l e R s m args below meth c cells slots Q nL D A ww (pc + 3) lv rest) (k2 : ¬ x = 0 → kj_J p l e R s m args below meth c cells slots Q nL D A ww tgt lv rest) : kj_J p l e R s m args below meth c cells slots Q nL D A ww pc lv (.int x :: rest) :=
  fun H locs ls a => lv_if_ne F.1 F.2.1 hdg ht (fun q => k2 q H locs ls a) (fun q => k1 q H locs ls a)
theorem kw_if_lt (F : kj_Fx p s m args meth c cc nL Ts own ret D tys A) {x : Int32} {off : Int} {tgt : Nat} (hdg : decode cc pc = .ok (.ifCond .lt off, 3)) (ht : (pc : Int) + off = (tgt : Int)) (k1 : x < 0 → kj_J p l e R s m args below meth c cells slots Q nL D A ww tgt lv rest) (k2 : ¬ x < 0 → kj_J p l e R s m args below meth c cells slots Q nL D A ww (pc + 3) lv rest) : kj_J p l e R s m args below meth c cells slots Q nL D A ww pc lv (.int x :: rest) :=
  fun H locs ls a => lv_if_lt F.1 F.2.1 hdg ht (fun q => k1 q H locs ls a) (fun q => k2 q H locs ls a)
theorem kw_if_ge (F : kj_Fx p s m args meth c cc nL Ts own ret D tys A) {x : Int32} {off : Int} {tgt : Nat} (hdg : decode cc pc = .ok (.ifCond .ge off, 3)) (ht : (pc : Int) + off = (tgt : Int)) (k1 : 0 ≤ x → kj_J p l e R s m args below meth c cells slots Q nL D A ww tgt lv rest) (k2 : ¬ 0 ≤ x → kj_J p l e R s m args below meth c cells slots Q nL D A ww (pc + 3) lv rest) : kj_J p l e R s m args below meth c cells slots Q nL D A ww pc lv (.int x :: rest) :=
  fun H locs ls a => lv_if_ge F.1 F.2.1 hdg ht (fun q => k1 q H locs ls a) (fun q => k2 q H locs ls a)
theorem kw_if_gt (F : kj_Fx p s m args meth c cc nL Ts own ret D tys A) {x : Int32} {off : Int} {tgt : Nat} (hdg : decode cc pc = .ok (.ifCond .gt off, 3)) (ht : (pc : Int) + off = (tgt : Int)) (k1 : 0 < x → kj_J p l e R s m args below meth c cells slots Q nL D A ww tgt lv rest) (k2 : ¬ 0 < x → kj_J p l e R s m args below meth c cells slots Q nL D A ww (pc + 3) lv rest) : kj_J p l e R s m args below meth c cells slots Q nL D A ww pc lv (.int x :: rest) :=
  fun H locs ls a => lv_if_gt F.1 F.2.1 hdg ht (fun q => k1 q H locs ls a) (fun q => k2 q H locs ls a)
theorem kw_if_le (F : kj_Fx p s m args meth c cc nL Ts own ret D tys A) {x : Int32} {off : Int} {tgt : Nat} (hdg : decode cc pc = .ok (.ifCond .le off, 3)) (ht : (pc : Int) + off = (tgt : Int)) (k1 : x ≤ 0 → kj_J p l e R s m args below meth c cells slots Q nL D A ww tgt lv rest) (k2 : ¬ x ≤ 0 → kj_J p l e R s m args below meth c cells slots Q nL D A ww (pc + 3) lv rest) : kj_J p l e R s m args below meth c cells slots Q nL D A ww pc lv (.int x :: rest) :=
  fun H locs ls a => lv_if_le F.1 F.2.1 hdg ht (fun q => k1 q H locs ls a) (fun q => k2 q H locs ls a)
theorem kw_icmp_eq (F : kj_Fx p s m args meth c cc nL Ts own ret D tys A) {x y : Int32} {off : Int} {tgt : Nat} (hdg : decode cc pc = .ok (.if_icmp .eq off, 3)) (ht : (pc : Int) + off = (tgt : Int)) (k1 : x = y → kj_J p l e R s m args below meth c cells slots Q nL D A ww tgt lv rest) (k2 : ¬ x = y → kj_J p l e R s m args below meth c cells slots Q nL D A ww (pc + 3) lv rest) : kj_J p l e R s m args below meth c cells slots Q nL D A ww pc lv (.int y :: .int x :: rest) :=
  fun H locs ls a => lv_icmp_eq F.1 F.2.1 hdg ht (fun q => k1 q H locs ls a) (fun q => k2 q H locs ls a)
theorem kw_icmp_ne (F : kj_Fx p s m args meth c cc nL Ts own ret D tys A) {x y : Int32} {off : Int} {tgt : Nat} (hdg : decode cc pc = .ok (.if_icmp .ne off, 3)) (ht : (pc : Int) + off = (tgt : Int)) (k1 : x = y → kj_J p l e R s m args below meth c cells slots Q nL D A ww (pc + 3) lv rest) (k2 : ¬ x = y → kj_J p l e R s m args below meth c cells slots Q nL D A ww tgt lv rest) : kj_J p l e R s m args below meth c cells slots Q nL D A ww pc lv (.int y :: .int x :: rest) :=
  fun H locs ls a => lv_icmp_ne F.1 F.2.1 hdg ht (fun q => k2 q H locs ls a) (fun q => k1 q H locs ls a)
theorem kw_icmp_lt (F : kj_Fx p s m args meth c cc nL Ts own ret D tys A) {x y : Int32} {off : Int} {tgt : Nat} (hdg : decode cc pc = .ok (.if_icmp .lt off, 3)) (ht : (pc : Int) + off = (tgt : Int)) (k1 : x < y → kj_J p l e R s m args below meth c cells slots Q nL D A ww tgt lv rest) (k2 : ¬ x < y → kj_J p l e R s m args below meth c cells slots Q nL D A ww (pc + 3) lv rest) : kj_J p l e R s m args below meth c cells slots Q nL D A ww pc lv (.int y :: .int x :: rest) :=
  fun H locs ls a => lv_icmp_lt F.1 F.2.1 hdg ht (fun q => k1 q H locs ls a) (fun q => k2 q H locs ls a)
theorem kw_icmp_ge (F : kj_Fx p s m args meth c cc nL Ts own ret D tys A) {x y : Int32} {off : Int} {tgt : Nat} (hdg : decode cc pc = .ok (.if_icmp .ge off, 3)) (ht : (pc : Int) + off = (tgt : Int)) (k1 : y ≤ x → kj_J p l e R s m args below meth c cells slots Q nL D A ww tgt lv rest) (k2 : ¬ y ≤ x → kj_J p l e R s m args below meth c cells slots Q nL D A ww (pc + 3) lv rest) : kj_J p l e R s m args below meth c cells slots Q nL D A ww pc lv (.int y :: .int x :: rest) :=
  fun H locs ls a => lv_icmp_ge F.1 F.2.1 hdg ht (fun q => k1 q H locs ls a) (fun q => k2 q H locs ls a)
theorem kw_icmp_gt (F : kj_Fx p s m args meth c cc nL Ts own ret D tys A) {x y : Int32} {off : Int} {tgt : Nat} (hdg : decode cc pc = .ok (.if_icmp .gt off, 3)) (ht : (pc : Int) + off = (tgt : Int)) (k1 : y < x → kj_J p l e R s m args below meth c cells slots Q nL D A ww tgt lv rest) (k2 : ¬ y < x → kj_J p l e R s m args below meth c cells slots Q nL D A ww (pc + 3) lv rest) : kj_J p l e R s m args below meth c cells slots Q nL D A ww pc lv (.int y :: .int x :: rest) :=
  fun H locs ls a => lv_icmp_gt F.1 F.2.1 hdg ht (fun q => k1 q H locs ls a) (fun q => k2 q H locs ls a)
theorem kw_icmp_le (F : kj_Fx p s m args meth c cc nL Ts own ret D tys A) {x y : Int32} {off : Int} {tgt : Nat} (hdg : decode cc pc = .ok (.if_icmp .le off, 3)) (ht : (pc : Int) + off = (tgt : Int)) (k1 : x ≤ y → kj_J p l e R s m args below meth c cells slots Q nL D A ww tgt lv rest) (k2 : ¬ x ≤ y → kj_J p l e R s m args below meth c cells slots Q nL D A ww (pc + 3) lv rest) : kj_J p l e R s m args below meth c cells slots Q nL D A ww pc lv (.int y :: .int x :: rest) :=
  fun H locs ls a => lv_icmp_le F.1 F.2.1 hdg ht (fun q => k1 q H locs ls a) (fun q => k2 q H locs ls a)
theorem kn_iret {v : Int32} {Post : Int32 → S → Prop} {mc ms : Nat} (F : kj_Fx p s m args meth c cc nL Ts own (some .int) D tys A) (hdg : decode cc pc = .ok (.ireturn, 1)) (hc : cells ≤ mc) (hs : slots ≤ ms) (h : Post v z) :
    kj_J p l e R s m args below meth c cells slots (MQ below (kn_Qi D tys A w Post) args s mc ms A) nL D A (w z) pc lv [.int v] := by
  obtain ⟨hx, hb, hml, hown, hts, hr, hlocks, hK, hA⟩ := F
  exact fun H locs ls ⟨hP, hD, hS, hl⟩ => W.widen hc hs (W.iret (v := v) hx hb hr (fun t ht hW => ⟨⟨v, z, rfl, h, by rw [ht]; exact hP, va_K.moved hW.alike hK, hD⟩, hS.F ht⟩) hS.2.2 hdg)
theorem kn_lret {v : Int64} {Post : Int64 → S → Prop} {mc ms : Nat} (F : kj_Fx p s m args meth c cc nL Ts own (some .long) D tys A) (hdg : decode cc pc = .ok (.lreturn, 1)) (hc : cells ≤ mc) (hs : slots ≤ ms) (h : Post v z) :
    kj_J p l e R s m args below meth c cells slots (MQ below (kn_Ql D tys A w Post) args s mc ms A) nL D A (w z) pc lv [.long v] := by
  obtain ⟨hx, hb, hml, hown, hts, hr, hlocks, hK, hA⟩ := F
  exact fun H locs ls ⟨hP, hD, hS, hl⟩ => W.widen hc hs (W.lret (v := v) hx hb hr (fun t ht hW => ⟨⟨v, z, rfl, h, by rw [ht]; exact hP, va_K.moved hW.alike hK, hD⟩, hS.F ht⟩) hS.2.2 hdg)
theorem kn_zret {v : Int32} {Post : Int32 → S → Prop} {mc ms : Nat} (F : kj_Fx p s m args meth c cc nL Ts own (some .boolean) D tys A) (hdg : decode cc pc = .ok (.ireturn, 1)) (hv : v = 0 ∨ v = 1) (hc : cells ≤ mc) (hs : slots ≤ ms) (h : Post v z) :
    kj_J p l e R s m args below meth c cells slots (MQ below (kn_Qi D tys A w Post) args s mc ms A) nL D A (w z) pc lv [.int v] := by
  obtain ⟨hx, hb, hml, hown, hts, hr, hlocks, hK, hA⟩ := F
  exact fun H locs ls ⟨hP, hD, hS, hl⟩ => W.widen hc hs (W.zret (v := v) hx hb hr (by rcases hv with rfl | rfl <;> rfl) (fun t ht hW => ⟨⟨v, z, rfl, h, by rw [ht]; exact hP, va_K.moved hW.alike hK, hD⟩, hS.F ht⟩) hS.2.2 hdg)
theorem kn_vret {Post : S → Prop} {mc ms : Nat} (F : kj_Fx p s m args meth c cc nL Ts own none D tys A) (hdg : decode cc pc = .ok (.return_, 1)) (hc : cells ≤ mc) (hs : slots ≤ ms) (h : Post z) :
    kj_J p l e R s m args below meth c cells slots (MQ below (kn_Qv D tys A w Post) args s mc ms A) nL D A (w z) pc lv [] := by
  obtain ⟨hx, hb, hml, hown, hts, hr, hlocks, hK, hA⟩ := F
  exact fun H locs ls ⟨hP, hD, hS, hl⟩ => W.widen hc hs (W.vret hx hb hr (fun t ht hW => ⟨⟨z, rfl, h, by rw [ht]; exact hP, va_K.moved hW.alike hK, hD⟩, hS.F ht⟩) hS.2.2 hdg)
theorem kn_aret {v : Option Nat} {n : String} {Post : Option Nat → S → Prop} {mc ms : Nat} (F : kj_Fx p s m args meth c cc nL Ts own (some (.object n)) D tys A) (hdg : decode cc pc = .ok (.areturn, 1)) (hc : cells ≤ mc) (hs : slots ≤ ms) (h : Post v z) :
    kj_J p l e R s m args below meth c cells slots (MQ below (kn_Qq D tys A w Post) args s mc ms A) nL D A (w z) pc lv [va_rf v] := by
  obtain ⟨hx, hb, hml, hown, hts, hr, hlocks, hK, hA⟩ := F
  exact fun H locs ls ⟨hP, hD, hS, hl⟩ => W.widen hc hs (W.aret (v := va_rf v) hx hb hr (Or.inl ⟨n, rfl⟩) (by cases v with | none => exact Or.inl rfl | some a => exact Or.inr ⟨a, rfl⟩) (fun t ht hW => ⟨⟨v, z, rfl, h, by rw [ht]; exact hP, va_K.moved hW.alike hK, hD⟩, hS.F ht⟩) hS.2.2 hdg)
theorem kn_preV {H : Heap} {C : String} {b ci q0 : Nat} {q : vw_C} {fs As : List Value} (hK : va_K D vwCl tys s) (hN : kn_N s) (hP : va_P D vwCl ww H) (hD : va_D A ww) (hc : vwCl[ci]? = some q) (hq : q.1 = C) (he : ww[q0]? = some (b, .inr (ci, fs))) : PreV s H C b (va_Pc (.ref b :: As) (kn_pre D tys ww H.size)) As :=
  ⟨kn_blind, hq ▸ va_recv hK hP hc he, fun U hU hW => ⟨rfl, ⟨by rw [hU], by rw [hU]; exact hP, va_K.moved hW.alike hK, hD.weaken (fun _ _ _ _ => trivial)⟩, hN.warm hW⟩⟩
theorem kn_preS {H : Heap} {As : List Value} (hK : va_K D vwCl tys s) (hN : kn_N s) (hP : va_P D vwCl ww H) (hD : va_D A ww) : PreS s H (va_Pc As (kn_pre D tys ww H.size)) As :=
  ⟨kn_blind, fun U hU hW => ⟨rfl, ⟨by rw [hU], by rw [hU]; exact hP, va_K.moved hW.alike hK, hD.weaken (fun _ _ _ _ => trivial)⟩, hN.warm hW⟩⟩
variable {y : MethodName} {bytes : ByteArray} {maxL n index : Nat} {retC : Option FieldType} {wsC : List Cond} {rmC : Room} {C host : String} {b ci : Nat} {qC : vw_C} {fs As st : List Value}
theorem kn_cVi (F : kj_Fx p s m args meth c cc nL Ts own ret D tys A) (hN : kn_N s) {Post : Int32 → S → Prop} (hdg : decode cc pc = .ok (.invokevirtual index, 3)) (hM : kn_Mi l y wsC rmC D tys w ww (.ref b :: As) Post) (cw : CallW R s args own C index y bytes maxL retC wsC rmC rmC.cells rmC.slots n) (q0 : Nat) (he : ww[q0]? = some (b, .inr (ci, fs))) (hc : vwCl[ci]? = some qC) (hq : qC.1 = C) (hn : As.length = n) (hst : st = As.reverse ++ .ref b :: rest) (hm : (rest.map fun v => v.category).sum ≤ 8) (hf : cells + rmC.cells ≤ R.cells ∧ slots + rmC.slots ≤ R.slots) (k : ∀ (r : Int32) (u : S), Post r u → kj_J p l e R s m args below meth c (cells + rmC.cells) (slots + rmC.slots) Q nL D A (w u) (pc + 3) lv (.int r :: rest)) : kj_J p l e R s m args below meth c cells slots Q nL D A ww pc lv st := by
  obtain ⟨hx, hb, hml, hown, hts, hr, hlocks, hK, hA⟩ := F
  intro H locs ls ⟨hP, hD, hS, hl⟩
  refine va_calli (va_runV (As := As) (rest := rest) ⟨hx, hb, hml, hown, hts⟩ (hM H.size) cw (kn_preV hK hN hP hD hc hq he) rfl hn hl.1 hst (lv_room hm) hdg hf) hS (fun q _ h => kj_back hD hS hA q h) (kj_back hD hS hA) (fun r u t H1 locs1 ht hvm hw hB hz1 hk1 hS1 => ?_)
  obtain ⟨hP1, hK1, hD1⟩ := hB
  rw [ht] at hP1
  exact k r u hw H1 locs1 ls ⟨hP1, hD1.weaken (fun _ _ _ q => kj_back hD hS hA _ q), hS1, hl⟩
theorem kn_cVl (F : kj_Fx p s m args meth c cc nL Ts own ret D tys A) (hN : kn_N s) {Post : Int64 → S → Prop} (hdg : decode cc pc = .ok (.invokevirtual index, 3)) (hM : kn_Ml l y wsC rmC D tys w ww (.ref b :: As) Post) (cw : CallW R s args own C index y bytes maxL retC wsC rmC rmC.cells rmC.slots n) (q0 : Nat) (he : ww[q0]? = some (b, .inr (ci, fs))) (hc : vwCl[ci]? = some qC) (hq : qC.1 = C) (hn : As.length = n) (hst : st = As.reverse ++ .ref b :: rest) (hm : (rest.map fun v => v.category).sum ≤ 8) (hf : cells + rmC.cells ≤ R.cells ∧ slots + rmC.slots ≤ R.slots) (k : ∀ (r : Int64) (u : S), Post r u → kj_J p l e R s m args below meth c (cells + rmC.cells) (slots + rmC.slots) Q nL D A (w u) (pc + 3) lv (.long r :: rest)) : kj_J p l e R s m args below meth c cells slots Q nL D A ww pc lv st := by
  obtain ⟨hx, hb, hml, hown, hts, hr, hlocks, hK, hA⟩ := F
  intro H locs ls ⟨hP, hD, hS, hl⟩
  refine va_calll (va_runV (As := As) (rest := rest) ⟨hx, hb, hml, hown, hts⟩ (hM H.size) cw (kn_preV hK hN hP hD hc hq he) rfl hn hl.1 hst (lv_room hm) hdg hf) hS (fun q _ h => kj_back hD hS hA q h) (kj_back hD hS hA) (fun r u t H1 locs1 ht hvm hw hB hz1 hk1 hS1 => ?_)
  obtain ⟨hP1, hK1, hD1⟩ := hB
  rw [ht] at hP1
  exact k r u hw H1 locs1 ls ⟨hP1, hD1.weaken (fun _ _ _ q => kj_back hD hS hA _ q), hS1, hl⟩
theorem kn_cVv (F : kj_Fx p s m args meth c cc nL Ts own ret D tys A) (hN : kn_N s) {Post : S → Prop} (hdg : decode cc pc = .ok (.invokevirtual index, 3)) (hM : kn_Mv l y wsC rmC D tys w ww (.ref b :: As) Post) (cw : CallW R s args own C index y bytes maxL retC wsC rmC rmC.cells rmC.slots n) (q0 : Nat) (he : ww[q0]? = some (b, .inr (ci, fs))) (hc : vwCl[ci]? = some qC) (hq : qC.1 = C) (hn : As.length = n) (hst : st = As.reverse ++ .ref b :: rest) (hm : (rest.map fun v => v.category).sum ≤ 8) (hf : cells + rmC.cells ≤ R.cells ∧ slots + rmC.slots ≤ R.slots) (k : ∀ (u : S), Post u → kj_J p l e R s m args below meth c (cells + rmC.cells) (slots + rmC.slots) Q nL D A (w u) (pc + 3) lv rest) : kj_J p l e R s m args below meth c cells slots Q nL D A ww pc lv st := by
  obtain ⟨hx, hb, hml, hown, hts, hr, hlocks, hK, hA⟩ := F
  intro H locs ls ⟨hP, hD, hS, hl⟩
  refine va_callv (va_runV (As := As) (rest := rest) ⟨hx, hb, hml, hown, hts⟩ (hM H.size) cw (kn_preV hK hN hP hD hc hq he) rfl hn hl.1 hst (lv_room hm) hdg hf) hS (fun q _ h => kj_back hD hS hA q h) (kj_back hD hS hA) (fun u t H1 locs1 ht hvm hw hB hz1 hk1 hS1 => ?_)
  obtain ⟨hP1, hK1, hD1⟩ := hB
  rw [ht] at hP1
  exact k u hw H1 locs1 ls ⟨hP1, hD1.weaken (fun _ _ _ q => kj_back hD hS hA _ q), hS1, hl⟩
theorem kn_cVq (F : kj_Fx p s m args meth c cc nL Ts own ret D tys A) (hN : kn_N s) {Post : Option Nat → S → Prop} (hdg : decode cc pc = .ok (.invokevirtual index, 3)) (hM : kn_Mq l y wsC rmC D tys w ww (.ref b :: As) Post) (cw : CallW R s args own C index y bytes maxL retC wsC rmC rmC.cells rmC.slots n) (q0 : Nat) (he : ww[q0]? = some (b, .inr (ci, fs))) (hc : vwCl[ci]? = some qC) (hq : qC.1 = C) (hn : As.length = n) (hst : st = As.reverse ++ .ref b :: rest) (hm : (rest.map fun v => v.category).sum ≤ 8) (hf : cells + rmC.cells ≤ R.cells ∧ slots + rmC.slots ≤ R.slots) (k : ∀ (r : Option Nat) (u : S), Post r u → kj_J p l e R s m args below meth c (cells + rmC.cells) (slots + rmC.slots) Q nL D A (w u) (pc + 3) lv (va_rf r :: rest)) : kj_J p l e R s m args below meth c cells slots Q nL D A ww pc lv st := by
  obtain ⟨hx, hb, hml, hown, hts, hr, hlocks, hK, hA⟩ := F
  intro H locs ls ⟨hP, hD, hS, hl⟩
  refine va_callq (va_runV (As := As) (rest := rest) ⟨hx, hb, hml, hown, hts⟩ (hM H.size) cw (kn_preV hK hN hP hD hc hq he) rfl hn hl.1 hst (lv_room hm) hdg hf) hS (fun q _ h => kj_back hD hS hA q h) (kj_back hD hS hA) (fun r u t H1 locs1 ht hvm hw hB hz1 hk1 hS1 => ?_)
  obtain ⟨hP1, hK1, hD1⟩ := hB
  rw [ht] at hP1
  exact k r u hw H1 locs1 ls ⟨hP1, hD1.weaken (fun _ _ _ q => kj_back hD hS hA _ q), hS1, hl⟩
theorem kn_cSi (F : kj_Fx p s m args meth c cc nL Ts own ret D tys A) (hN : kn_N s) {Post : Int32 → S → Prop} (hdg : decode cc pc = .ok (.invokestatic index, 3)) (hM : kn_Mi l y wsC rmC D tys w ww As Post) (cw : CallB R s args own index y bytes maxL retC wsC rmC rmC.cells rmC.slots n ∧ (Cond.static y).before args s = true) (hn : As.length = n) (hst : st = As.reverse ++ rest) (hm : (rest.map fun v => v.category).sum ≤ 8) (hf : cells + rmC.cells ≤ R.cells ∧ slots + rmC.slots ≤ R.slots) (k : ∀ (r : Int32) (u : S), Post r u → kj_J p l e R s m args below meth c (cells + rmC.cells) (slots + rmC.slots) Q nL D A (w u) (pc + 3) lv (.int r :: rest)) : kj_J p l e R s m args below meth c cells slots Q nL D A ww pc lv st := by
  obtain ⟨hx, hb, hml, hown, hts, hr, hlocks, hK, hA⟩ := F
  intro H locs ls ⟨hP, hD, hS, hl⟩
  refine va_calli (va_runS (As := As) (rest := rest) ⟨hx, hb, hml, hown, hts⟩ (hM H.size) cw (kn_preS hK hN hP hD) rfl hn hl.1 hst (lv_room hm) hdg hf) hS (fun q _ h => kj_back hD hS hA q h) (kj_back hD hS hA) (fun r u t H1 locs1 ht hvm hw hB hz1 hk1 hS1 => ?_)
  obtain ⟨hP1, hK1, hD1⟩ := hB
  rw [ht] at hP1
  exact k r u hw H1 locs1 ls ⟨hP1, hD1.weaken (fun _ _ _ q => kj_back hD hS hA _ q), hS1, hl⟩
theorem kn_cSl (F : kj_Fx p s m args meth c cc nL Ts own ret D tys A) (hN : kn_N s) {Post : Int64 → S → Prop} (hdg : decode cc pc = .ok (.invokestatic index, 3)) (hM : kn_Ml l y wsC rmC D tys w ww As Post) (cw : CallB R s args own index y bytes maxL retC wsC rmC rmC.cells rmC.slots n ∧ (Cond.static y).before args s = true) (hn : As.length = n) (hst : st = As.reverse ++ rest) (hm : (rest.map fun v => v.category).sum ≤ 8) (hf : cells + rmC.cells ≤ R.cells ∧ slots + rmC.slots ≤ R.slots) (k : ∀ (r : Int64) (u : S), Post r u → kj_J p l e R s m args below meth c (cells + rmC.cells) (slots + rmC.slots) Q nL D A (w u) (pc + 3) lv (.long r :: rest)) : kj_J p l e R s m args below meth c cells slots Q nL D A ww pc lv st := by
  obtain ⟨hx, hb, hml, hown, hts, hr, hlocks, hK, hA⟩ := F
  intro H locs ls ⟨hP, hD, hS, hl⟩
  refine va_calll (va_runS (As := As) (rest := rest) ⟨hx, hb, hml, hown, hts⟩ (hM H.size) cw (kn_preS hK hN hP hD) rfl hn hl.1 hst (lv_room hm) hdg hf) hS (fun q _ h => kj_back hD hS hA q h) (kj_back hD hS hA) (fun r u t H1 locs1 ht hvm hw hB hz1 hk1 hS1 => ?_)
  obtain ⟨hP1, hK1, hD1⟩ := hB
  rw [ht] at hP1
  exact k r u hw H1 locs1 ls ⟨hP1, hD1.weaken (fun _ _ _ q => kj_back hD hS hA _ q), hS1, hl⟩
theorem kn_cSv (F : kj_Fx p s m args meth c cc nL Ts own ret D tys A) (hN : kn_N s) {Post : S → Prop} (hdg : decode cc pc = .ok (.invokestatic index, 3)) (hM : kn_Mv l y wsC rmC D tys w ww As Post) (cw : CallB R s args own index y bytes maxL retC wsC rmC rmC.cells rmC.slots n ∧ (Cond.static y).before args s = true) (hn : As.length = n) (hst : st = As.reverse ++ rest) (hm : (rest.map fun v => v.category).sum ≤ 8) (hf : cells + rmC.cells ≤ R.cells ∧ slots + rmC.slots ≤ R.slots) (k : ∀ (u : S), Post u → kj_J p l e R s m args below meth c (cells + rmC.cells) (slots + rmC.slots) Q nL D A (w u) (pc + 3) lv rest) : kj_J p l e R s m args below meth c cells slots Q nL D A ww pc lv st := by
  obtain ⟨hx, hb, hml, hown, hts, hr, hlocks, hK, hA⟩ := F
  intro H locs ls ⟨hP, hD, hS, hl⟩
  refine va_callv (va_runS (As := As) (rest := rest) ⟨hx, hb, hml, hown, hts⟩ (hM H.size) cw (kn_preS hK hN hP hD) rfl hn hl.1 hst (lv_room hm) hdg hf) hS (fun q _ h => kj_back hD hS hA q h) (kj_back hD hS hA) (fun u t H1 locs1 ht hvm hw hB hz1 hk1 hS1 => ?_)
  obtain ⟨hP1, hK1, hD1⟩ := hB
  rw [ht] at hP1
  exact k u hw H1 locs1 ls ⟨hP1, hD1.weaken (fun _ _ _ q => kj_back hD hS hA _ q), hS1, hl⟩
theorem kn_cSq (F : kj_Fx p s m args meth c cc nL Ts own ret D tys A) (hN : kn_N s) {Post : Option Nat → S → Prop} (hdg : decode cc pc = .ok (.invokestatic index, 3)) (hM : kn_Mq l y wsC rmC D tys w ww As Post) (cw : CallB R s args own index y bytes maxL retC wsC rmC rmC.cells rmC.slots n ∧ (Cond.static y).before args s = true) (hn : As.length = n) (hst : st = As.reverse ++ rest) (hm : (rest.map fun v => v.category).sum ≤ 8) (hf : cells + rmC.cells ≤ R.cells ∧ slots + rmC.slots ≤ R.slots) (k : ∀ (r : Option Nat) (u : S), Post r u → kj_J p l e R s m args below meth c (cells + rmC.cells) (slots + rmC.slots) Q nL D A (w u) (pc + 3) lv (va_rf r :: rest)) : kj_J p l e R s m args below meth c cells slots Q nL D A ww pc lv st := by
  obtain ⟨hx, hb, hml, hown, hts, hr, hlocks, hK, hA⟩ := F
  intro H locs ls ⟨hP, hD, hS, hl⟩
  refine va_callq (va_runS (As := As) (rest := rest) ⟨hx, hb, hml, hown, hts⟩ (hM H.size) cw (kn_preS hK hN hP hD) rfl hn hl.1 hst (lv_room hm) hdg hf) hS (fun q _ h => kj_back hD hS hA q h) (kj_back hD hS hA) (fun r u t H1 locs1 ht hvm hw hB hz1 hk1 hS1 => ?_)
  obtain ⟨hP1, hK1, hD1⟩ := hB
  rw [ht] at hP1
  exact k r u hw H1 locs1 ls ⟨hP1, hD1.weaken (fun _ _ _ q => kj_back hD hS hA _ q), hS1, hl⟩
theorem kn_cIv (F : kj_Fx p s m args meth c cc nL Ts own ret D tys A) (hN : kn_N s) {Post : S → Prop} (hdg : decode cc pc = .ok (.invokespecial index, 3)) (hM : kn_Mv l y wsC rmC D tys w ww (.ref b :: As) Post) (cw : CallB R s args own index y bytes maxL none wsC rmC rmC.cells rmC.slots n ∧ y.name = "<init>" ∧ (Cond.instanceMethod y).before args s = true) (hn : As.length = n) (hst : st = As.reverse ++ .ref b :: rest) (hm : (rest.map fun v => v.category).sum ≤ 8) (hf : cells + rmC.cells ≤ R.cells ∧ slots + rmC.slots ≤ R.slots) (k : ∀ (u : S), Post u → kj_J p l e R s m args below meth c (cells + rmC.cells) (slots + rmC.slots) Q nL D A (w u) (pc + 3) lv rest) : kj_J p l e R s m args below meth c cells slots Q nL D A ww pc lv st := by
  obtain ⟨hx, hb, hml, hown, hts, hr, hlocks, hK, hA⟩ := F
  intro H locs ls ⟨hP, hD, hS, hl⟩
  refine va_callv (va_runI (As := As) (rest := rest) ⟨hx, hb, hml, hown, hts⟩ (hM H.size) cw (kn_preS hK hN hP hD) rfl hn hl.1 hst (lv_room hm) hdg hf) hS (fun q _ h => kj_back hD hS hA q h) (kj_back hD hS hA) (fun u t H1 locs1 ht hvm hw hB hz1 hk1 hS1 => ?_)
  obtain ⟨hP1, hK1, hD1⟩ := hB
  rw [ht] at hP1
  exact k u hw H1 locs1 ls ⟨hP1, hD1.weaken (fun _ _ _ q => kj_back hD hS hA _ q), hS1, hl⟩
theorem kn_cINv (F : kj_Fx p s m args meth c cc nL Ts own ret D tys A) (hN : kn_N s) {Post : S → Prop} (hdg : decode cc pc = .ok (.invokespecial index, 3)) (hM : kn_Mv l y wsC rmC D tys w ww (.ref b :: As) Post) (cw : va_CN R s args own index y host bytes maxL none wsC rmC rmC.cells rmC.slots n ∧ y.name = "<init>" ∧ (Cond.instanceMethod y).before args s = true) (hn : As.length = n) (hst : st = As.reverse ++ .ref b :: rest) (hm : (rest.map fun v => v.category).sum ≤ 8) (hf : cells + rmC.cells ≤ R.cells ∧ slots + rmC.slots ≤ R.slots) (k : ∀ (u : S), Post u → kj_J p l e R s m args below meth c (cells + rmC.cells) (slots + rmC.slots) Q nL D A (w u) (pc + 3) lv rest) : kj_J p l e R s m args below meth c cells slots Q nL D A ww pc lv st := by
  obtain ⟨hx, hb, hml, hown, hts, hr, hlocks, hK, hA⟩ := F
  intro H locs ls ⟨hP, hD, hS, hl⟩
  refine va_callv (va_runIN (As := As) (rest := rest) ⟨hx, hb, hml, hown, hts⟩ (hM H.size) cw (kn_preS hK hN hP hD) rfl hn hl.1 hst (lv_room hm) hdg hf) hS (fun q _ h => kj_back hD hS hA q h) (kj_back hD hS hA) (fun u t H1 locs1 ht hvm hw hB hz1 hk1 hS1 => ?_)
  obtain ⟨hP1, hK1, hD1⟩ := hB
  rw [ht] at hP1
  exact k u hw H1 locs1 ls ⟨hP1, hD1.weaken (fun _ _ _ q => kj_back hD hS hA _ q), hS1, hl⟩
theorem kj_cIv (F : kj_Fx p s m args meth c cc nL Ts own ret D tys A) {o : S} (hdg : decode cc pc = .ok (.invokespecial index, 3)) (hM : kj_Mv l y wsC rmC D tys w z (.ref b :: As) o) (cw : CallB R s args own index y bytes maxL none wsC rmC 0 0 n ∧ y.name = "<init>" ∧ (Cond.instanceMethod y).before args s = true) (hn : As.length = n) (hst : st = As.reverse ++ .ref b :: rest) (hm : (rest.map fun v => v.category).sum ≤ 8) (hf : cells ≤ R.cells ∧ slots ≤ R.slots) (k : kj_J p l e R s m args below meth c cells slots Q nL D A (w o) (pc + 3) lv rest) : kj_J p l e R s m args below meth c cells slots Q nL D A (w z) pc lv st := by
  obtain ⟨hx, hb, hml, hown, hts, hr, hlocks, hK, hA⟩ := F
  intro H locs ls ⟨hP, hD, hS, hl⟩
  refine va_callv (va_runI (As := As) (rest := rest) ⟨hx, hb, hml, hown, hts⟩ (hM H.size) cw (kj_preS hK hP hD) rfl hn hl.1 hst (lv_room hm) hdg hf) hS (fun q _ h => kj_back hD hS hA q h) (kj_back hD hS hA) (fun u t H1 locs1 ht hvm hw hB hz1 hk1 hS1 => ?_)
  subst hw
  obtain ⟨hP1, hK1, hD1⟩ := hB
  rw [ht] at hP1
  exact k H1 locs1 ls ⟨hP1, hD1.weaken (fun _ _ _ q => kj_back hD hS hA _ q), hS1, hl⟩
theorem kj_cINv (F : kj_Fx p s m args meth c cc nL Ts own ret D tys A) {o : S} (hdg : decode cc pc = .ok (.invokespecial index, 3)) (hM : kj_Mv l y wsC rmC D tys w z (.ref b :: As) o) (cw : va_CN R s args own index y host bytes maxL none wsC rmC 0 0 n ∧ y.name = "<init>" ∧ (Cond.instanceMethod y).before args s = true) (hn : As.length = n) (hst : st = As.reverse ++ .ref b :: rest) (hm : (rest.map fun v => v.category).sum ≤ 8) (hf : cells ≤ R.cells ∧ slots ≤ R.slots) (k : kj_J p l e R s m args below meth c cells slots Q nL D A (w o) (pc + 3) lv rest) : kj_J p l e R s m args below meth c cells slots Q nL D A (w z) pc lv st := by
  obtain ⟨hx, hb, hml, hown, hts, hr, hlocks, hK, hA⟩ := F
  intro H locs ls ⟨hP, hD, hS, hl⟩
  refine va_callv (va_runIN (As := As) (rest := rest) ⟨hx, hb, hml, hown, hts⟩ (hM H.size) cw (kj_preS hK hP hD) rfl hn hl.1 hst (lv_room hm) hdg hf) hS (fun q _ h => kj_back hD hS hA q h) (kj_back hD hS hA) (fun u t H1 locs1 ht hvm hw hB hz1 hk1 hS1 => ?_)
  subst hw
  obtain ⟨hP1, hK1, hD1⟩ := hB
  rw [ht] at hP1
  exact k H1 locs1 ls ⟨hP1, hD1.weaken (fun _ _ _ q => kj_back hD hS hA _ q), hS1, hl⟩
theorem kj_cSNv (F : kj_Fx p s m args meth c cc nL Ts own ret D tys A) {o : S} (hdg : decode cc pc = .ok (.invokestatic index, 3)) (hM : kj_Mv l y wsC rmC D tys w z As o) (cw : va_CN R s args own index y host bytes maxL retC wsC rmC 0 0 n ∧ (Cond.static y).before args s = true) (hn : As.length = n) (hst : st = As.reverse ++ rest) (hm : (rest.map fun v => v.category).sum ≤ 8) (hf : cells ≤ R.cells ∧ slots ≤ R.slots) (k : kj_J p l e R s m args below meth c cells slots Q nL D A (w o) (pc + 3) lv rest) : kj_J p l e R s m args below meth c cells slots Q nL D A (w z) pc lv st := by
  obtain ⟨hx, hb, hml, hown, hts, hr, hlocks, hK, hA⟩ := F
  intro H locs ls ⟨hP, hD, hS, hl⟩
  refine va_callv (va_runSN (As := As) (rest := rest) ⟨hx, hb, hml, hown, hts⟩ (hM H.size) ⟨cw.1, cw.2, trivial⟩ (kj_preS hK hP hD) rfl hn hl.1 hst (lv_room hm) hdg hf) hS (fun q _ h => kj_back hD hS hA q h) (kj_back hD hS hA) (fun u t H1 locs1 ht hvm hw hB hz1 hk1 hS1 => ?_)
  subst hw
  obtain ⟨hP1, hK1, hD1⟩ := hB
  rw [ht] at hP1
  exact k H1 locs1 ls ⟨hP1, hD1.weaken (fun _ _ _ q => kj_back hD hS hA _ q), hS1, hl⟩
theorem kj_cSNip (F : kj_Fx p s m args meth c cc nL Ts own ret D tys A) {o : Int32} (hdg : decode cc pc = .ok (.invokestatic index, 3)) (hM : kj_Mi l y wsC rmC D tys w z As (o, z)) (cw : va_CN R s args own index y host bytes maxL retC wsC rmC 0 0 n ∧ (Cond.static y).before args s = true) (hn : As.length = n) (hst : st = As.reverse ++ rest) (hm : (rest.map fun v => v.category).sum ≤ 8) (hf : cells ≤ R.cells ∧ slots ≤ R.slots) (k : kj_J p l e R s m args below meth c cells slots Q nL D A (w z) (pc + 3) lv (.int o :: rest)) : kj_J p l e R s m args below meth c cells slots Q nL D A (w z) pc lv st := by
  obtain ⟨hx, hb, hml, hown, hts, hr, hlocks, hK, hA⟩ := F
  intro H locs ls ⟨hP, hD, hS, hl⟩
  refine va_calli (va_runSN (As := As) (rest := rest) ⟨hx, hb, hml, hown, hts⟩ (hM H.size) ⟨cw.1, cw.2, trivial⟩ (kj_preS hK hP hD) rfl hn hl.1 hst (lv_room hm) hdg hf) hS (fun q _ h => kj_back hD hS hA q h) (kj_back hD hS hA) (fun r u t H1 locs1 ht hvm hw hB hz1 hk1 hS1 => ?_)
  obtain ⟨rfl, rfl⟩ := hw
  obtain ⟨hP1, hK1, hD1⟩ := hB
  rw [ht] at hP1
  exact k H1 locs1 ls ⟨hP1, hD1.weaken (fun _ _ _ q => kj_back hD hS hA _ q), hS1, hl⟩
theorem kn_new (F : kj_Fx p s m args meth c cc nL Ts own ret D tys A) {C : String} {T : u_T} {N ci index : Nat} {fs : List Value} (hdg : decode cc pc = .ok (.new index, 3)) (hin : ∀ w ∈ u_ws C T N, w ∈ Ts) (ty : Nat → FieldType) (hty : ∀ k, k < N → parseFieldDescriptor (T k).2.2.1 = some (ty k)) (hcl : Cond.classLink own index C ∈ Ts) (hinst : Cond.instantiable C N ∈ Ts) (hini : Cond.initialized C ∈ Ts) (hc : vwCl[ci]? = some (C, T, N)) (hfs : ∀ j, j < N → defaultValue (ty j) = vp_V fs j) (hcells : cells + 1 ≤ R.cells) (hslots : slots + N ≤ R.slots)
    (kk : ∀ q : Nat, (∀ x ∈ ww, x.1 ≠ q) → kj_J p l e R s m args below meth c (cells + 1) (slots + N) Q nL D A (ww ++ [(q, .inr (ci, fs))]) (pc + 3) lv (.ref q :: rest)) : kj_J p l e R s m args below meth c cells slots Q nL D A ww pc lv rest := by
  obtain ⟨hx, hb, hml, hown, hts, hr, hlocks, hK, hA⟩ := F
  intro H locs ls ⟨hP, hD, hS, hl⟩
  refine va_new (D := D) hx hb hts hin ty hty hown (hts _ hcl) (hts _ hinst) (hts _ hini) hK hP hD hS hA hc hfs hcells hslots hdg (fun q H1 hP1 hD1 hS1 => ?_)
  refine kk q (fun x hx e => ?_) H1 locs ls ⟨hP1, hD1, hS1, hl⟩
  obtain ⟨i, hi⟩ := List.getElem?_of_mem hx
  have h1 : (ww ++ [(q, .inr (ci, fs))])[i]? = some x := by rw [List.getElem?_append_left (List.getElem?_eq_some_iff.mp hi).1]; exact hi
  have h2 : (ww ++ [(q, .inr (ci, fs))])[ww.length]? = some (q, .inr (ci, fs)) := by simp
  have h3 := hD1.1 i ww.length x _ h1 h2 e
  have h4 := (List.getElem?_eq_some_iff.mp hi).1
  omega
theorem kn_objInit (F : kj_Fx p s m args meth c cc nL Ts own ret D tys A) {a : Nat} {index : Nat} (hdg : decode cc pc = .ok (.invokespecial index, 3)) (hl : Cond.methodLink own index objectInit ∈ Ts) (hi : Cond.instanceMethod objectInit ∈ Ts) (hc : Cond.code objectInit ⟨#[0xb1]⟩ 1 none ∈ Ts) (hfr : 1 ≤ R.frames) (hlo : 8 + 12 ≤ R.locals) (hm : (rest.map fun v => v.category).sum ≤ 8) (k : kj_J p l e R s m args below meth c cells slots Q nL D A ww (pc + 3) lv rest) : kj_J p l e R s m args below meth c cells slots Q nL D A ww pc lv (.ref a :: rest) := by
  obtain ⟨hx, hb, hml, hown, hts, hr, hlocks, hK, hA⟩ := F
  intro H locs ls h
  exact W.objInit hx hb hown (hts _ hl) (hts _ hi) (hts _ hc) rfl (h.2.2.2.1.trans hml.symm) rfl hdg hfr (Nat.le_trans (Nat.add_le_add_right (lv_room hm) 12) hlo) (k H locs ls h)
end KN
