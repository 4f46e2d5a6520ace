def kx_0 : kx_S := (fun _ => 0, fun _ _ => 0, fun _ _ => 0, fun _ _ => none)
def km_0 : km_S := (fun _ => 0, fun _ _ => 0, fun _ _ => 0)
def R_law : String := "CornerHeapsLaw"
def lw_P (b : Addr) (xs : List Int32) (args : Array Value) (s : State) : Prop := args = #[.ref b] ∧ s.IntsAt b xs ∧ xs.length ≤ 3072 ∧ (Jvm.Cond.and given_1 narrow_1).before args s = true
def lw_Q (_ : Array Value) (s : State) (o : Outcome) (t : State) : Prop := o = .returned (some (.int 1)) ∧ Framed s o t [] room_1.cells room_1.slots
def lw_Z (below : List Frame) (a : Array Value) (s : State) : State → Prop := fun t => ∃ o, t.status = .running ∧ Ended t below o ∧ lw_Q a s o t
/-- the law's own end, with 1 on the stack, nothing written that was there before, its room as the claim has it -/
theorem lw_ret {p : Program} {l : Launch} {e : Env} {s : State} {m : MethodId} {below : List Frame} {meth : Method} {c : Code} {b : Nat} (hx : p.tables.exec = Jvm.exec) (hb : c.code = code) (hr : meth.sig.returnType = ret) (hlocks : meth.locks = false) {pc : Nat} {H : Heap} {ls : Array Slot} (hdg : decode code pc = .ok (.ireturn, 1)) : W p l e room_1 s m #[Value.ref b] below meth c H [] room_1.cells room_1.slots (lw_Z below #[Value.ref b] s) (F0 m pc ls [.int 1]) := by
  intro T hT X
  obtain ⟨fs, hret, hrun, hended, hW, hframe⟩ := X.leave (v := some (.int 1)) (hlocks := hlocks) (fun h => by rw [hr] at h; cases h)
  have hmeth' : T.vm.method? m = some meth := X.method'
  refine ⟨T.setFrames fs, ?_, .returned (some (.int 1)), hrun, hended, rfl, ⟨_, rfl⟩, hW, hframe⟩
  jvm_step X.here [X.here.top, hx, hb, hdg, hmeth', hr, ret, narrow_b1]
  (try refine ⟨rfl, ?_⟩); (try refine ⟨rfl, ?_⟩)
  first | (intro acts; rw [hret _ acts rfl rfl rfl]) | rw [hret _ _ rfl rfl rfl]
  exact Steps.refl _
/-- what holds at the law's entry: the machine, the code, the tables' words (any of lw_tbl by 'hts w (by decide +kernel)'), the script of L ints xs at the cell b, what the Statement gives of the start (any of its parts by flat_of_before) -/
def lw_At (p : Program) (s : State) (m : MethodId) (meth : Method) (c : Code) (b L : Nat) (xs : Nat → Int32) : Prop :=
  p.tables.exec = Jvm.exec ∧ c.code = code ∧ meth.sig.returnType = ret ∧ c.maxLocals = 4 ∧ s.vm.findClass R_law = some m.cls ∧ (∀ w ∈ lw_tbl, w.before #[Value.ref b] s = true) ∧ va_X b L xs s s.heap ∧ b < s.heap.size ∧ meth.locks = false ∧ (Jvm.Cond.and given_1 narrow_1).before #[Value.ref b] s = true
set_option maxRecDepth 20000 in
set_option maxHeartbeats 4000000 in
/-- THE LAW'S LOOP -/
theorem kl_loop {p : Program} {l : Launch} {e : Env} {s : State} {m : MethodId} {below : List Frame} {meth : Method} {c : Code} {D : va_G} {cA : Nat → ClassId} {h0 h1 b L : Nat} {qx qm : Nat → Nat} {xs : Nat → Int32} {Inv : kx_S → va_W → km_S → Prop} (F : kj_Fx p s m #[Value.ref b] meth c cL_law 4 wsL_law RL ret D (kx_T cA) (fun q => s.heap.size ≤ q)) (hN : kn_N s) (hKm : va_K D vwCl (km_T (kl_cM cA)) s) (hX : va_X b L xs s s.heap) (hbl : b < s.heap.size) (hL : L ≤ 3072) (hall : kl_all cA Inv) : ∀ (n i : Nat) (zx : kx_S) (P : va_W) (zm : km_S), i ≤ L → L + 1 ≤ i + n → Inv zx P zm → kj_J p l e room_1 s m #[Value.ref b] below meth c (40 + 7 * i) (14772 + 107 * i) (lw_Z below #[Value.ref b] s) 4 D (fun q => s.heap.size ≤ q) (km_w (kl_cM cA) h1 qm zm ++ kx_W cA h0 qx P zx) 18 [(0, .ref b), (1, .ref h0), (2, .ref h1), (3, .int (nI i))] [] := by
  intro n
  induction n with
  | zero => intro i zx P zm h1 h2; exact absurd h2 (by omega)
  | succ n ih =>
    intro i zx P zm hi hn hI
    refine kj_iload_n F dL_law_18 3 rfl rfl ?_
    refine kj_aload_n F dL_law_19 0 rfl rfl ?_
    refine kl_slen F hX hbl dL_law_20 ?_
    refine kj_bipush F dL_law_21 (v := 6) (by decide) ?_
    refine kj_isub F dL_law_23 ?_
    refine kw_icmp_gt F dL_law_24 (tgt := 1241) (by decide) (fun hc => ?_) (fun hc => ?_)
    · refine kj_iconst F dL_law_1241 (v := 1) (by decide) ?_
      exact fun H locs ls ⟨hP, hD, hS, hl⟩ => va_forget (fun q hq => hS.2.2 q hq) (W.widen (k := room_1.cells) (n := room_1.slots) (by have := kl_rc; omega) (by have := kl_rs; omega) (lw_ret F.1 F.2.1 F.2.2.2.2.2.1 F.2.2.2.2.2.2.1 dL_law_1242))
    have h6 : i + 6 ≤ L := by
      have e1 : (nI L - 6).toInt = (L : Int) - 6 := pk_sub_toInt (b := 6) (by omega) (by omega)
      have e2 : (nI i).toInt = (i : Int) := nI_toInt (by omega)
      have e3 : ¬ (nI L - 6).toInt < (nI i).toInt := fun q => hc (Int32.lt_iff_toInt_lt.mpr q)
      rw [e1, e2] at e3
      omega
    have hin : ∀ j : Int32, j.toNatClampNeg < 6 ∧ 0 ≤ j → vp_in (nI i + j) L := by
      intro j hj
      obtain ⟨k, hk, rfl⟩ := nI_of (x := j) (fun q => absurd hj.2 (Int32.not_le.mpr q))
      rw [nI_clamp hk] at hj
      rw [nI_add]
      exact vp_in_nI (by omega) (by omega)
    have tail : ∀ zx' P' zm', Inv zx' P' zm' → kj_J p l e room_1 s m #[Value.ref b] below meth c (40 + 7 * (i + 6)) (14772 + 107 * (i + 6)) (lw_Z below #[Value.ref b] s) 4 D (fun q => s.heap.size ≤ q) (km_w (kl_cM cA) h1 qm zm' ++ kx_W cA h0 qx P' zx') 1235 [(0, .ref b), (1, .ref h0), (2, .ref h1), (3, .int (nI i))] [] := by
      intro zx' P' zm' hI'
      have e6 : nI i + 6 = nI (i + 6) := nI_add i 6
      refine kj_iinc F dL_law_1235 3 rfl (v := 6) (by decide) (by decide) (lv' := [(3, .int (nI i + 6)), (0, .ref b), (1, .ref h0), (2, .ref h1)]) rfl ?_
      rw [e6]
      refine kj_goto F dL_law_1238 (tgt := 18) (by decide) ?_
      refine kj_J.sub [1, 2, 3, 0] rfl ?_
      exact ih (i + 6) zx' P' zm' h6 (by omega) hI'
    refine kj_aload_n F dL_law_27 0 rfl rfl ?_
    refine kj_iload_n F dL_law_28 3 rfl rfl ?_
    refine kl_sld F hX hbl dL_law_29 (vp_in_nI (by omega) (by omega)) ?_
    refine kj_bipush F dL_law_30 (v := 31) (by decide) ?_
    refine kj_iand F dL_law_32 ?_
    refine Classical.byCases (p := (xs (nI i).toNatClampNeg &&& 31) = 0) (fun hc => ?_) (fun hn0 => ?_)
    · refine kj_tableIn F dL_law_33 (off := 127) (tgt := 160) (by rw [hc]; decide) (by rw [hc]; decide) (by rw [hc]; rfl) (by decide) ?_
      exact kl_case0 F hN hKm hX hbl (by omega) hin hI hall.1 tail
    refine Classical.byCases (p := (xs (nI i).toNatClampNeg &&& 31) = 1) (fun hc => ?_) (fun hn1 => ?_)
    · refine kj_tableIn F dL_law_33 (off := 150) (tgt := 183) (by rw [hc]; decide) (by rw [hc]; decide) (by rw [hc]; rfl) (by decide) ?_
      exact kl_case1 F hN hKm hX hbl (by omega) hin hI hall.2.1 tail
    refine Classical.byCases (p := (xs (nI i).toNatClampNeg &&& 31) = 2) (fun hc => ?_) (fun hn2 => ?_)
    · refine kj_tableIn F dL_law_33 (off := 173) (tgt := 206) (by rw [hc]; decide) (by rw [hc]; decide) (by rw [hc]; rfl) (by decide) ?_
      exact kl_case2 F hN hKm hX hbl (by omega) hin hI hall.2.2.1 tail
    refine Classical.byCases (p := (xs (nI i).toNatClampNeg &&& 31) = 3) (fun hc => ?_) (fun hn3 => ?_)
    · refine kj_tableIn F dL_law_33 (off := 186) (tgt := 219) (by rw [hc]; decide) (by rw [hc]; decide) (by rw [hc]; rfl) (by decide) ?_
      exact kl_case3 F hN hKm hX hbl (by omega) hin hI hall.2.2.2.1 tail
    refine Classical.byCases (p := (xs (nI i).toNatClampNeg &&& 31) = 4) (fun hc => ?_) (fun hn4 => ?_)
    · refine kj_tableIn F dL_law_33 (off := 199) (tgt := 232) (by rw [hc]; decide) (by rw [hc]; decide) (by rw [hc]; rfl) (by decide) ?_
      exact kl_case4 F hN hKm hX hbl (by omega) hin hI hall.2.2.2.2.1 tail
    refine Classical.byCases (p := (xs (nI i).toNatClampNeg &&& 31) = 5) (fun hc => ?_) (fun hn5 => ?_)
    · refine kj_tableIn F dL_law_33 (off := 262) (tgt := 295) (by rw [hc]; decide) (by rw [hc]; decide) (by rw [hc]; rfl) (by decide) ?_
      exact kl_case5 F hN hKm hX hbl (by omega) hin hI hall.2.2.2.2.2.1 tail
    refine Classical.byCases (p := (xs (nI i).toNatClampNeg &&& 31) = 6) (fun hc => ?_) (fun hn6 => ?_)
    · refine kj_tableIn F dL_law_33 (off := 325) (tgt := 358) (by rw [hc]; decide) (by rw [hc]; decide) (by rw [hc]; rfl) (by decide) ?_
      exact kl_case6 F hN hKm hX hbl (by omega) hin hI hall.2.2.2.2.2.2.1 tail
    refine Classical.byCases (p := (xs (nI i).toNatClampNeg &&& 31) = 7) (fun hc => ?_) (fun hn7 => ?_)
    · refine kj_tableIn F dL_law_33 (off := 368) (tgt := 401) (by rw [hc]; decide) (by rw [hc]; decide) (by rw [hc]; rfl) (by decide) ?_
      exact kl_case7 F hN hKm hX hbl (by omega) hin hI hall.2.2.2.2.2.2.2.1 tail
    refine Classical.byCases (p := (xs (nI i).toNatClampNeg &&& 31) = 8) (fun hc => ?_) (fun hn8 => ?_)
    · refine kj_tableIn F dL_law_33 (off := 411) (tgt := 444) (by rw [hc]; decide) (by rw [hc]; decide) (by rw [hc]; rfl) (by decide) ?_
      exact kl_case8 F hN hKm hX hbl (by omega) hin hI hall.2.2.2.2.2.2.2.2.1 tail
    refine Classical.byCases (p := (xs (nI i).toNatClampNeg &&& 31) = 9) (fun hc => ?_) (fun hn9 => ?_)
    · refine kj_tableIn F dL_law_33 (off := 454) (tgt := 487) (by rw [hc]; decide) (by rw [hc]; decide) (by rw [hc]; rfl) (by decide) ?_
      exact kl_case9 F hN hKm hX hbl (by omega) hin hI hall.2.2.2.2.2.2.2.2.2.1 tail
    refine Classical.byCases (p := (xs (nI i).toNatClampNeg &&& 31) = 10) (fun hc => ?_) (fun hn10 => ?_)
    · refine kj_tableIn F dL_law_33 (off := 507) (tgt := 540) (by rw [hc]; decide) (by rw [hc]; decide) (by rw [hc]; rfl) (by decide) ?_
      exact kl_case10 F hN hKm hX hbl (by omega) hin hI hall.2.2.2.2.2.2.2.2.2.2.1 tail
    refine Classical.byCases (p := (xs (nI i).toNatClampNeg &&& 31) = 11) (fun hc => ?_) (fun hn11 => ?_)
    · refine kj_tableIn F dL_law_33 (off := 530) (tgt := 563) (by rw [hc]; decide) (by rw [hc]; decide) (by rw [hc]; rfl) (by decide) ?_
      exact kl_case11 F hN hKm hX hbl (by omega) hin hI hall.2.2.2.2.2.2.2.2.2.2.2.1 tail
    refine Classical.byCases (p := (xs (nI i).toNatClampNeg &&& 31) = 12) (fun hc => ?_) (fun hn12 => ?_)
    · refine kj_tableIn F dL_law_33 (off := 573) (tgt := 606) (by rw [hc]; decide) (by rw [hc]; decide) (by rw [hc]; rfl) (by decide) ?_
      exact kl_case12 F hN hKm hX hbl (by omega) hin hI hall.2.2.2.2.2.2.2.2.2.2.2.2.1 tail
    refine Classical.byCases (p := (xs (nI i).toNatClampNeg &&& 31) = 13) (fun hc => ?_) (fun hn13 => ?_)
    · refine kj_tableIn F dL_law_33 (off := 606) (tgt := 639) (by rw [hc]; decide) (by rw [hc]; decide) (by rw [hc]; rfl) (by decide) ?_
      exact kl_case13 F hN hKm hX hbl (by omega) hin hI hall.2.2.2.2.2.2.2.2.2.2.2.2.2.1 tail
    refine Classical.byCases (p := (xs (nI i).toNatClampNeg &&& 31) = 14) (fun hc => ?_) (fun hn14 => ?_)
    · refine kj_tableIn F dL_law_33 (off := 649) (tgt := 682) (by rw [hc]; decide) (by rw [hc]; decide) (by rw [hc]; rfl) (by decide) ?_
      exact kl_case14 F hN hKm hX hbl (by omega) hin hI hall.2.2.2.2.2.2.2.2.2.2.2.2.2.2.1 tail
    refine Classical.byCases (p := (xs (nI i).toNatClampNeg &&& 31) = 15) (fun hc => ?_) (fun hn15 => ?_)
    · refine kj_tableIn F dL_law_33 (off := 692) (tgt := 725) (by rw [hc]; decide) (by rw [hc]; decide) (by rw [hc]; rfl) (by decide) ?_
      exact kl_case15 F hN hKm hX hbl (by omega) hin hI hall.2.2.2.2.2.2.2.2.2.2.2.2.2.2.2.1 tail
    refine Classical.byCases (p := (xs (nI i).toNatClampNeg &&& 31) = 16) (fun hc => ?_) (fun hn16 => ?_)
    · refine kj_tableIn F dL_law_33 (off := 735) (tgt := 768) (by rw [hc]; decide) (by rw [hc]; decide) (by rw [hc]; rfl) (by decide) ?_
      exact kl_case16 F hN hKm hX hbl (by omega) hin hI hall.2.2.2.2.2.2.2.2.2.2.2.2.2.2.2.2.1 tail
    refine Classical.byCases (p := (xs (nI i).toNatClampNeg &&& 31) = 17) (fun hc => ?_) (fun hn17 => ?_)
    · refine kj_tableIn F dL_law_33 (off := 768) (tgt := 801) (by rw [hc]; decide) (by rw [hc]; decide) (by rw [hc]; rfl) (by decide) ?_
      exact kl_case17 F hN hKm hX hbl (by omega) hin hI hall.2.2.2.2.2.2.2.2.2.2.2.2.2.2.2.2.2.1 tail
    refine Classical.byCases (p := (xs (nI i).toNatClampNeg &&& 31) = 18) (fun hc => ?_) (fun hn18 => ?_)
    · refine kj_tableIn F dL_law_33 (off := 791) (tgt := 824) (by rw [hc]; decide) (by rw [hc]; decide) (by rw [hc]; rfl) (by decide) ?_
      exact kl_case18 F hN hKm hX hbl (by omega) hin hI hall.2.2.2.2.2.2.2.2.2.2.2.2.2.2.2.2.2.2.1 tail
    refine Classical.byCases (p := (xs (nI i).toNatClampNeg &&& 31) = 19) (fun hc => ?_) (fun hn19 => ?_)
    · refine kj_tableIn F dL_law_33 (off := 834) (tgt := 867) (by rw [hc]; decide) (by rw [hc]; decide) (by rw [hc]; rfl) (by decide) ?_
      exact kl_case19 F hN hKm hX hbl (by omega) hin hI hall.2.2.2.2.2.2.2.2.2.2.2.2.2.2.2.2.2.2.2.1 tail
    refine Classical.byCases (p := (xs (nI i).toNatClampNeg &&& 31) = 20) (fun hc => ?_) (fun hn20 => ?_)
    · refine kj_tableIn F dL_law_33 (off := 888) (tgt := 921) (by rw [hc]; decide) (by rw [hc]; decide) (by rw [hc]; rfl) (by decide) ?_
      exact kl_case20 F hN hKm hX hbl (by omega) hin hI hall.2.2.2.2.2.2.2.2.2.2.2.2.2.2.2.2.2.2.2.2.1 tail
    refine Classical.byCases (p := (xs (nI i).toNatClampNeg &&& 31) = 21) (fun hc => ?_) (fun hn21 => ?_)
    · refine kj_tableIn F dL_law_33 (off := 941) (tgt := 974) (by rw [hc]; decide) (by rw [hc]; decide) (by rw [hc]; rfl) (by decide) ?_
      exact kl_case21 F hN hKm hX hbl (by omega) hin hI hall.2.2.2.2.2.2.2.2.2.2.2.2.2.2.2.2.2.2.2.2.2.1 tail
    refine Classical.byCases (p := (xs (nI i).toNatClampNeg &&& 31) = 22) (fun hc => ?_) (fun hn22 => ?_)
    · refine kj_tableIn F dL_law_33 (off := 1004) (tgt := 1037) (by rw [hc]; decide) (by rw [hc]; decide) (by rw [hc]; rfl) (by decide) ?_
      exact kl_case22 F hN hKm hX hbl (by omega) hin hI hall.2.2.2.2.2.2.2.2.2.2.2.2.2.2.2.2.2.2.2.2.2.2.1 tail
    refine Classical.byCases (p := (xs (nI i).toNatClampNeg &&& 31) = 23) (fun hc => ?_) (fun hn23 => ?_)
    · refine kj_tableIn F dL_law_33 (off := 1057) (tgt := 1090) (by rw [hc]; decide) (by rw [hc]; decide) (by rw [hc]; rfl) (by decide) ?_
      exact kl_case23 F hN hKm hX hbl (by omega) hin hI hall.2.2.2.2.2.2.2.2.2.2.2.2.2.2.2.2.2.2.2.2.2.2.2.1 tail
    refine Classical.byCases (p := (xs (nI i).toNatClampNeg &&& 31) = 24) (fun hc => ?_) (fun hn24 => ?_)
    · refine kj_tableIn F dL_law_33 (off := 1090) (tgt := 1123) (by rw [hc]; decide) (by rw [hc]; decide) (by rw [hc]; rfl) (by decide) ?_
      exact kl_case24 F hN hKm hX hbl (by omega) hin hI hall.2.2.2.2.2.2.2.2.2.2.2.2.2.2.2.2.2.2.2.2.2.2.2.2.1 tail
    refine Classical.byCases (p := (xs (nI i).toNatClampNeg &&& 31) = 25) (fun hc => ?_) (fun hn25 => ?_)
    · refine kj_tableIn F dL_law_33 (off := 1133) (tgt := 1166) (by rw [hc]; decide) (by rw [hc]; decide) (by rw [hc]; rfl) (by decide) ?_
      exact kl_case25 F hN hKm hX hbl (by omega) hin hI hall.2.2.2.2.2.2.2.2.2.2.2.2.2.2.2.2.2.2.2.2.2.2.2.2.2.1 tail
    refine Classical.byCases (p := (xs (nI i).toNatClampNeg &&& 31) = 26) (fun hc => ?_) (fun hn26 => ?_)
    · refine kj_tableIn F dL_law_33 (off := 1156) (tgt := 1189) (by rw [hc]; decide) (by rw [hc]; decide) (by rw [hc]; rfl) (by decide) ?_
      exact kl_case26 F hN hKm hX hbl (by omega) hin hI hall.2.2.2.2.2.2.2.2.2.2.2.2.2.2.2.2.2.2.2.2.2.2.2.2.2.2.1 tail
    refine Classical.byCases (p := (xs (nI i).toNatClampNeg &&& 31) = 27) (fun hc => ?_) (fun hn27 => ?_)
    · refine kj_tableIn F dL_law_33 (off := 1179) (tgt := 1212) (by rw [hc]; decide) (by rw [hc]; decide) (by rw [hc]; rfl) (by decide) ?_
      exact kl_case27 F hN hKm hX hbl (by omega) hin hI hall.2.2.2.2.2.2.2.2.2.2.2.2.2.2.2.2.2.2.2.2.2.2.2.2.2.2.2 tail
    refine kj_tableOut F dL_law_33 (tgt := 1235) (by have e0 : Int32.toInt (xs (nI i).toNatClampNeg &&& 31) ≠ 0 := fun q => hn0 (Int32.toInt_inj.mp (q.trans (by decide))); have e1 : Int32.toInt (xs (nI i).toNatClampNeg &&& 31) ≠ 1 := fun q => hn1 (Int32.toInt_inj.mp (q.trans (by decide))); have e2 : Int32.toInt (xs (nI i).toNatClampNeg &&& 31) ≠ 2 := fun q => hn2 (Int32.toInt_inj.mp (q.trans (by decide))); have e3 : Int32.toInt (xs (nI i).toNatClampNeg &&& 31) ≠ 3 := fun q => hn3 (Int32.toInt_inj.mp (q.trans (by decide))); have e4 : Int32.toInt (xs (nI i).toNatClampNeg &&& 31) ≠ 4 := fun q => hn4 (Int32.toInt_inj.mp (q.trans (by decide))); have e5 : Int32.toInt (xs (nI i).toNatClampNeg &&& 31) ≠ 5 := fun q => hn5 (Int32.toInt_inj.mp (q.trans (by decide))); have e6 : Int32.toInt (xs (nI i).toNatClampNeg &&& 31) ≠ 6 := fun q => hn6 (Int32.toInt_inj.mp (q.trans (by decide))); have e7 : Int32.toInt (xs (nI i).toNatClampNeg &&& 31) ≠ 7 := fun q => hn7 (Int32.toInt_inj.mp (q.trans (by decide))); have e8 : Int32.toInt (xs (nI i).toNatClampNeg &&& 31) ≠ 8 := fun q => hn8 (Int32.toInt_inj.mp (q.trans (by decide))); have e9 : Int32.toInt (xs (nI i).toNatClampNeg &&& 31) ≠ 9 := fun q => hn9 (Int32.toInt_inj.mp (q.trans (by decide))); have e10 : Int32.toInt (xs (nI i).toNatClampNeg &&& 31) ≠ 10 := fun q => hn10 (Int32.toInt_inj.mp (q.trans (by decide))); have e11 : Int32.toInt (xs (nI i).toNatClampNeg &&& 31) ≠ 11 := fun q => hn11 (Int32.toInt_inj.mp (q.trans (by decide))); have e12 : Int32.toInt (xs (nI i).toNatClampNeg &&& 31) ≠ 12 := fun q => hn12 (Int32.toInt_inj.mp (q.trans (by decide))); have e13 : Int32.toInt (xs (nI i).toNatClampNeg &&& 31) ≠ 13 := fun q => hn13 (Int32.toInt_inj.mp (q.trans (by decide))); have e14 : Int32.toInt (xs (nI i).toNatClampNeg &&& 31) ≠ 14 := fun q => hn14 (Int32.toInt_inj.mp (q.trans (by decide))); have e15 : Int32.toInt (xs (nI i).toNatClampNeg &&& 31) ≠ 15 := fun q => hn15 (Int32.toInt_inj.mp (q.trans (by decide))); have e16 : Int32.toInt (xs (nI i).toNatClampNeg &&& 31) ≠ 16 := fun q => hn16 (Int32.toInt_inj.mp (q.trans (by decide))); have e17 : Int32.toInt (xs (nI i).toNatClampNeg &&& 31) ≠ 17 := fun q => hn17 (Int32.toInt_inj.mp (q.trans (by decide))); have e18 : Int32.toInt (xs (nI i).toNatClampNeg &&& 31) ≠ 18 := fun q => hn18 (Int32.toInt_inj.mp (q.trans (by decide))); have e19 : Int32.toInt (xs (nI i).toNatClampNeg &&& 31) ≠ 19 := fun q => hn19 (Int32.toInt_inj.mp (q.trans (by decide))); have e20 : Int32.toInt (xs (nI i).toNatClampNeg &&& 31) ≠ 20 := fun q => hn20 (Int32.toInt_inj.mp (q.trans (by decide))); have e21 : Int32.toInt (xs (nI i).toNatClampNeg &&& 31) ≠ 21 := fun q => hn21 (Int32.toInt_inj.mp (q.trans (by decide))); have e22 : Int32.toInt (xs (nI i).toNatClampNeg &&& 31) ≠ 22 := fun q => hn22 (Int32.toInt_inj.mp (q.trans (by decide))); have e23 : Int32.toInt (xs (nI i).toNatClampNeg &&& 31) ≠ 23 := fun q => hn23 (Int32.toInt_inj.mp (q.trans (by decide))); have e24 : Int32.toInt (xs (nI i).toNatClampNeg &&& 31) ≠ 24 := fun q => hn24 (Int32.toInt_inj.mp (q.trans (by decide))); have e25 : Int32.toInt (xs (nI i).toNatClampNeg &&& 31) ≠ 25 := fun q => hn25 (Int32.toInt_inj.mp (q.trans (by decide))); have e26 : Int32.toInt (xs (nI i).toNatClampNeg &&& 31) ≠ 26 := fun q => hn26 (Int32.toInt_inj.mp (q.trans (by decide))); have e27 : Int32.toInt (xs (nI i).toNatClampNeg &&& 31) ≠ 27 := fun q => hn27 (Int32.toInt_inj.mp (q.trans (by decide))); omega) (by decide) ?_
    refine kn_widen (k := 40 + 7 * (i + 6)) (n := 14772 + 107 * (i + 6)) (by omega) (by omega) ?_
    exact tail zx P zm hI
set_option maxRecDepth 20000 in
set_option maxHeartbeats 4000000 in
/-- THE LAW, from its entry, given an invariant that every call keeps -/
theorem whole_of {p : Program} {e : Env} {s : State} {m : MethodId} {below : List Frame} {meth : Method} {c : Code} (l : Launch) {b L : Nat} {xs : Nat → Int32} (hL : L ≤ 3072) (C0 : lw_At p s m meth c b L xs) (Inv : (Nat → ClassId) → kx_S → va_W → km_S → Prop) (hinit : ∀ cA, Inv cA kx_0 [] km_0) (hall : ∀ cA, kl_all cA (Inv cA)) : W p l e room_1 s m #[Value.ref b] below meth c s.heap [] 0 0 (lw_Z below #[Value.ref b] s) (entryFrame m ([Value.ref b] : List Value).toArray 4) := by
  obtain ⟨hx, hb, hr, hml, hown, hts, hX, hbl, hlocks, hgv⟩ := C0
  obtain ⟨c0, iS0, hKn0⟩ := u_known (C := RX0) (T := TX0) (N := 3) (n := 3) hts kl_inX0 (hts (.instantiable RX0 3) (by decide +kernel))
  obtain ⟨c1, iS1, hKn1⟩ := u_known (C := RX1) (T := TX1) (N := 2) (n := 2) hts kl_inX1 (hts (.instantiable RX1 2) (by decide +kernel))
  obtain ⟨c2, iS2, hKn2⟩ := u_known (C := RX2) (T := TX2) (N := 2) (n := 2) hts kl_inX2 (hts (.instantiable RX2 2) (by decide +kernel))
  obtain ⟨c3, iS3, hKn3⟩ := u_known (C := RX3) (T := TX3) (N := 3) (n := 3) hts kl_inX3 (hts (.instantiable RX3 3) (by decide +kernel))
  obtain ⟨c4, iS4, hKn4⟩ := u_known (C := RX4) (T := TX4) (N := 4) (n := 4) hts kl_inX4 (hts (.instantiable RX4 4) (by decide +kernel))
  obtain ⟨c5, iS5, hKn5⟩ := u_known (C := RX5) (T := TX5) (N := 5) (n := 5) hts kl_inX5 (hts (.instantiable RX5 5) (by decide +kernel))
  obtain ⟨c6, iS6, hKn6⟩ := u_known (C := RX6) (T := TX6) (N := 8) (n := 8) hts kl_inX6 (hts (.instantiable RX6 8) (by decide +kernel))
  obtain ⟨c7, iS7, hKn7⟩ := u_known (C := RX7) (T := TX7) (N := 10) (n := 10) hts kl_inX7 (hts (.instantiable RX7 10) (by decide +kernel))
  obtain ⟨c8, iS8, hKn8⟩ := u_known (C := RX8) (T := TX8) (N := 29) (n := 29) hts kl_inX8 (hts (.instantiable RX8 29) (by decide +kernel))
  obtain ⟨dC, dI, hKc⟩ : ∃ (dC : Nat → ClassId) (dI : Nat → Nat → Nat), ∀ (k : Nat) (q : vw_C), vwCl[k]? = some q → u_Kn s q.1 q.2.1 q.2.2 (dC k) (dI k) := by
    refine ⟨fun k => if k = 0 then c0 else if k = 1 then c1 else if k = 2 then c2 else if k = 3 then c3 else if k = 4 then c4 else if k = 5 then c5 else if k = 6 then c6 else if k = 7 then c7 else c8, fun k => if k = 0 then iS0 else if k = 1 then iS1 else if k = 2 then iS2 else if k = 3 then iS3 else if k = 4 then iS4 else if k = 5 then iS5 else if k = 6 then iS6 else if k = 7 then iS7 else iS8, ?_⟩
    intro k q hq
    match k, hq with
    | 0, hq => cases hq; exact hKn0
    | 1, hq => cases hq; exact hKn1
    | 2, hq => cases hq; exact hKn2
    | 3, hq => cases hq; exact hKn3
    | 4, hq => cases hq; exact hKn4
    | 5, hq => cases hq; exact hKn5
    | 6, hq => cases hq; exact hKn6
    | 7, hq => cases hq; exact hKn7
    | 8, hq => cases hq; exact hKn8
    | k + 9, hq => simp [vwCl] at hq
  obtain ⟨ci, kI, qI, fI, gI, hI⟩ := Cond.arrayClass_spec (hts (.arrayClass .int) (by decide +kernel))
  obtain ⟨cj, kJ, qJ, fJ, gJ, hJ⟩ := Cond.arrayClass_spec (hts (.arrayClass .long) (by decide +kernel))
  obtain ⟨cz, kZ, qZ, fZ, gZ, hZ⟩ := Cond.arrayClass_spec (hts (.arrayClass .boolean) (by decide +kernel))
  have hN : kn_N s := ⟨va_Nw.of rfl (hts (.methodLinkNest RX7 9 yX6_init RX7) (by decide +kernel)), va_Nw.of rfl (hts (.methodLinkNest RX7 24 yX3_init RX7) (by decide +kernel)), va_Nw.of rfl (hts (.methodLinkNest RX7 44 yX2_init RX7) (by decide +kernel)), va_Nw.of rfl (hts (.methodLinkNest RX7 51 yX5_init RX7) (by decide +kernel)), va_Nw.of rfl (hts (.methodLinkNest RX6 61 yX0_init RX7) (by decide +kernel)), va_Nw.of rfl (hts (.methodLinkNest RX3 24 yX7_copyPlaces RX7) (by decide +kernel)), va_Nw.of rfl (hts (.methodLinkNest RX4 9 yX7_choose RX7) (by decide +kernel)), va_Nw.of rfl (hts (.methodLinkNest RX4 33 yX0_init RX7) (by decide +kernel)), va_Nw.of rfl (hts (.methodLinkNest RX1 33 yX0_init RX7) (by decide +kernel)), (hts (.arrayOver (.array .int)) (by decide +kernel)), (hts (.arrayOver (.object RX1)) (by decide +kernel)), (hts (.arrayOver (.object RX4)) (by decide +kernel))⟩
  obtain ⟨qH, ch, kH, fH1, _, gH, hH, fH⟩ := Cond.arrayOver_spec (hts (.arrayOver (.object RX1)) (by decide +kernel))
  obtain ⟨qR, cr, kR, fR1, _, gR, hR, fR⟩ := Cond.arrayOver_spec (hts (.arrayOver (.object RX4)) (by decide +kernel))
  obtain ⟨qG, cg, kG, fG1, _, gG, hG, fG⟩ := va_AOA.spec hN.2.2.2.2.2.2.2.2.2.1
  obtain ⟨cA, hcA⟩ : ∃ cA : Nat → ClassId, cA = fun k => [ci, cj, cz, ch, cr, cg].getD k 0 := ⟨_, rfl⟩
  have hK : va_K (dC, dI) vwCl (kx_T cA) s := by
    refine ⟨hKc, fun k q hq => ?_⟩
    subst hcA
    match k, hq with
    | 0, hq => cases hq; exact ⟨fun N z => ⟨(fun k h => by cases h), kI, gI, qI, hI⟩, fI⟩
    | 1, hq => cases hq; exact ⟨fun N z => ⟨(fun k h => by cases h), kJ, gJ, qJ, hJ⟩, fJ⟩
    | 2, hq => cases hq; exact ⟨fun N z => ⟨(fun k h => by cases h), kZ, gZ, qZ, hZ⟩, fZ⟩
    | 3, hq => cases hq; exact ⟨fun N z => ⟨(fun k h => by cases h), kH, gH, qH, hH⟩, kH, qH, gH, hH, fH1, fH⟩
    | 4, hq => cases hq; exact ⟨fun N z => ⟨(fun k h => by cases h), kR, gR, qR, hR⟩, kR, qR, gR, hR, fR1, fR⟩
    | 5, hq => cases hq; exact ⟨fun N z => ⟨(fun k h => by cases h), kG, gG, qG, hG⟩, fG⟩
    | k + 6, hq => simp [kx_T] at hq
  have F : kj_Fx p s m #[Value.ref b] meth c cL_law 4 wsL_law RL ret (dC, dI) (kx_T cA) (fun q => s.heap.size ≤ q) := ⟨hx, hb, hml, hown, fun w h => hts w (wsL_law_in w h), hr, hlocks, hK, fun _ h => h⟩
  have inX7 : ∀ w ∈ u_ws RX7 TX7 10, w ∈ wsL_law := by decide +kernel
  have inX8 : ∀ w ∈ u_ws RX8 TX8 29, w ∈ wsL_law := by decide +kernel
  have hl := lv_entry ([.ref b]) (n := 4) (Nat.le_of_ble_eq_true rfl)
  rw [lg_entry_eq]
  have start : kj_J p l e room_1 s m #[Value.ref b] below meth c 0 0 (lw_Z below #[Value.ref b] s) 4 (dC, dI) (fun q => s.heap.size ≤ q) [] 0 [(0, .ref b)] [] := by
    refine kn_new (fs := [.null, .null, .null, .null, .null, .null, .null, .null, .null, .int 0]) F dL_law_0 inX7 tyX7 tyX7_ok (by decide +kernel) (by decide +kernel) (by decide +kernel) (ci := 7) rfl (fun j hj => by rcases (show j = 0 ∨ j = 1 ∨ j = 2 ∨ j = 3 ∨ j = 4 ∨ j = 5 ∨ j = 6 ∨ j = 7 ∨ j = 8 ∨ j = 9 by omega) with rfl | rfl | rfl | rfl | rfl | rfl | rfl | rfl | rfl | rfl <;> rfl) (Nat.le_of_ble_eq_true rfl) (Nat.le_of_ble_eq_true rfl) (fun h0 _ => ?_)
    refine kj_dup F dL_law_3 rfl ?_
    refine kn_cIv (As := []) (rest := [.ref h0]) F hN dL_law_4 (db_X7_init (X := [])) (cwI 0 F.2.2.2.2.1 gL_law_X7_init rfl rfl rfl (F.2.2.2.2.1 _ (by decide +kernel)) (F.2.2.2.2.1 _ (by decide +kernel)) (F.2.2.2.2.1 _ (by decide +kernel)) rfl (by decide +kernel) ⟨(Nat.le_of_ble_eq_true rfl), (Nat.le_of_ble_eq_true rfl)⟩) rfl rfl (Nat.le_of_ble_eq_true rfl) ⟨(by exact Nat.le_of_ble_eq_true rfl), (by exact Nat.le_of_ble_eq_true rfl)⟩ (fun ux _ => ?_)
    refine kj_astore_n F dL_law_7 (lv' := [(1, .ref h0), (0, .ref b)]) rfl (by decide) rfl ?_
    refine kn_new (fs := [.null, .null, .int 0, .null, .null, .null, .int 0, .int 0, .null, .null, .int 0, .int 0, .null, .null, .int 0, .null, .null, .null, .int 0, .null, .null, .null, .null, .null, .null, .null, .null, .null, .null]) F dL_law_8 inX8 tyX8 tyX8_ok (by decide +kernel) (by decide +kernel) (by decide +kernel) (ci := 8) rfl (fun j hj => by rcases (show j = 0 ∨ j = 1 ∨ j = 2 ∨ j = 3 ∨ j = 4 ∨ j = 5 ∨ j = 6 ∨ j = 7 ∨ j = 8 ∨ j = 9 ∨ j = 10 ∨ j = 11 ∨ j = 12 ∨ j = 13 ∨ j = 14 ∨ j = 15 ∨ j = 16 ∨ j = 17 ∨ j = 18 ∨ j = 19 ∨ j = 20 ∨ j = 21 ∨ j = 22 ∨ j = 23 ∨ j = 24 ∨ j = 25 ∨ j = 26 ∨ j = 27 ∨ j = 28 by omega) with rfl | rfl | rfl | rfl | rfl | rfl | rfl | rfl | rfl | rfl | rfl | rfl | rfl | rfl | rfl | rfl | rfl | rfl | rfl | rfl | rfl | rfl | rfl | rfl | rfl | rfl | rfl | rfl | rfl <;> rfl) (Nat.le_of_ble_eq_true rfl) (Nat.le_of_ble_eq_true rfl) (fun h1 _ => ?_)
    refine kj_dup F dL_law_11 rfl ?_
    refine kn_cIv (As := []) (rest := [.ref h1]) F hN dL_law_12 (db_X8_init (X := [] ++ ([((h0, .inr (7, [.ref (ux 0), .ref (ux 3), .ref (ux 4), .ref (ux 6), .ref (ux 7), .ref (ux 8), .ref (ux 9), .ref (ux 11), .ref (ux 15), .int 0])) : Nat × va_E), (((ux 0), .inr (6, [.ref (ux 1), .ref (ux 2), .int 0, .int 0, .int 0, .int 0, .int 0, .int 0])) : Nat × va_E), (((ux 1), .inl (cA 0, 60, .inl (fun _ => 0))) : Nat × va_E), (((ux 2), .inl (cA 0, 16, .inl (fun _ => 0))) : Nat × va_E), (((ux 3), .inl (cA 3, 4, .inr (.inr (.inr (.inr (fun _ => none)))))) : Nat × va_E), (((ux 4), .inr (3, [.ref (ux 5), .int 0, .int 0])) : Nat × va_E), (((ux 5), .inl (cA 3, 48, .inr (.inr (.inr (.inr (fun _ => none)))))) : Nat × va_E), (((ux 6), .inl (cA 3, 8, .inr (.inr (.inr (.inr (fun _ => none)))))) : Nat × va_E), (((ux 7), .inl (cA 2, 2, .inl (fun _ => 0))) : Nat × va_E), (((ux 8), .inl (cA 4, 16, .inr (.inr (.inr (.inr (fun _ => none)))))) : Nat × va_E), (((ux 9), .inr (2, [.ref (ux 10), .int 0])) : Nat × va_E), (((ux 10), .inl (cA 3, 12, .inr (.inr (.inr (.inr (fun _ => none)))))) : Nat × va_E), (((ux 11), .inr (5, [.ref (ux 12), .ref (ux 13), .ref (ux 14), .int 0, .int 0])) : Nat × va_E), (((ux 12), .inl (cA 1, 200, .inr (.inl (fun _ => 0)))) : Nat × va_E), (((ux 13), .inl (cA 0, 200, .inl (fun _ => 0))) : Nat × va_E), (((ux 14), .inl (cA 0, 200, .inl (fun _ => 0))) : Nat × va_E), (((ux 15), .inl (cA 1, 49, .inr (.inl (fun _ => 0)))) : Nat × va_E)] : va_W))) (cwI 0 F.2.2.2.2.1 gL_law_X8_init rfl rfl rfl (F.2.2.2.2.1 _ (by decide +kernel)) (F.2.2.2.2.1 _ (by decide +kernel)) (F.2.2.2.2.1 _ (by decide +kernel)) rfl (by decide +kernel) ⟨(Nat.le_of_ble_eq_true rfl), (Nat.le_of_ble_eq_true rfl)⟩) rfl rfl (Nat.le_of_ble_eq_true rfl) ⟨(by exact Nat.le_of_ble_eq_true rfl), (by exact Nat.le_of_ble_eq_true rfl)⟩ (fun um _ => ?_)
    refine kj_astore_n F dL_law_15 (lv' := [(2, .ref h1), (1, .ref h0), (0, .ref b)]) rfl (by decide) rfl ?_
    refine kj_iconst F dL_law_16 (v := 0) (by decide) ?_
    refine kj_istore_n F dL_law_17 (lv' := [(3, .int 0), (2, .ref h1), (1, .ref h0), (0, .ref b)]) rfl (by decide) rfl ?_
    refine kj_J.sub [3, 2, 1, 0] rfl ?_
    refine kj_perm (ww' := km_w (kl_cM cA) h1 (fun k => [um 0, um 1, um 2, um 4, um 5, um 6, um 8, um 9, um 10, um 11, um 12, um 13, um 14, um 15, um 16, um 19, um 20, um 21, um 3, um 7, um 17, um 18].getD k 0) km_0 ++ kx_W cA h0 (fun k => [ux 0, ux 4, ux 9, ux 11, ux 1, ux 2, ux 13, ux 14, ux 7, ux 12, ux 15, ux 3, ux 5, ux 6, ux 8, ux 10].getD k 0) [] kx_0) [17, 18, 19, 20, 22, 23, 24, 26, 27, 28, 29, 30, 31, 32, 33, 34, 37, 38, 39, 21, 25, 35, 36, 0, 1, 5, 10, 12, 2, 3, 14, 15, 8, 13, 16, 4, 6, 7, 9, 11] rfl rfl ?_
    refine kn_widen (k := 40 + 7 * 0) (n := 14772 + 107 * 0) (Nat.le_of_ble_eq_true rfl) (Nat.le_of_ble_eq_true rfl) ?_
    exact kl_loop F hN (kl_KM hK) hX hbl hL (hall cA) (L + 1) 0 kx_0 [] km_0 (Nat.zero_le _) (by omega) (hinit cA)
  exact start _ _ _ ⟨fun k q h => by simp at h, ⟨fun i j p q h => by simp at h, fun k q h => by simp at h⟩, va_S.rf, hl⟩
