theorem kj_cat (v : Option Nat) : (va_rf v).category = 1 := by cases v <;> rfl
theorem kj_steq {p : Program} {l : Launch} {e : Env} {R : Room} {s : State} {m : MethodId} {args : Array Value} {below : List Frame} {meth : Method} {c : Code} {cells slots : Nat} {Q : State → Prop} {nL : Nat} {D : va_G} {A : Nat → Prop} {ww : va_W} {pc : Nat} {lv : List (Nat × Value)} {st st' : List Value} (h : st = st') (k : kj_J p l e R s m args below meth c cells slots Q nL D A ww pc lv st') : kj_J p l e R s m args below meth c cells slots Q nL D A ww pc lv st := h ▸ k
/-! X1_volume -/
abbrev rm_X1_volume : Room := { frames := 1, cells := 0, slots := 0, locals := 23 }
theorem in_X1_volume_X1 : ∀ w ∈ u_ws RX1 TX1 2, w ∈ wsX1_volume := by decide +kernel
def fh_volume (hc : Int64) : Option Int32 :=
  (fx_volume hc).bind fun o1 =>
  some o1
set_option maxRecDepth 20000 in
theorem jh_volume {p : Program} {l : Launch} {e : Env} {s : State} {m : MethodId} {args : Array Value} {below : List Frame} {meth : Method} {c : Code} {A : Nat → Prop} {D : va_G} {tys : List (ClassId × FieldType)} {S : Type} {w : S → va_W} {z : S} (F : kj_Fx p s m args meth c cX1_volume 1 wsX1_volume RX1 (some .int) D tys A) {hc : Int64} {b0 b1 q0 : Nat} (hh : (w z)[q0]? = some (b0, .inr (1, [.ref b1, .long hc]))) {o : Int32} (h : fh_volume hc = some o) : kj_J p l e rm_X1_volume s m args below meth c 0 0 (MQ below (kj_Qi D tys A w (o, z)) args s 0 0 A) 1 D A (w z) 0 [(0, .ref b0)] [] := by
  unfold fh_volume at h
  refine kj_aload_n F dX1_volume_0 0 rfl rfl ?_
  refine kj_get F dX1_volume_1 in_X1_volume_X1 _ hh rfl 1 (by decide) (by decide +kernel) rfl rfl ?_
  refine kj_cSip (As := [.long hc]) (rest := []) F dX1_volume_4 h (fun o h1 => cx_volume (w := w) h1) (va_cwS 1 F.2.2.2.2.1 gX1_volume_X0_volume rfl rfl rfl (by decide +kernel) ⟨Nat.le_of_ble_eq_true rfl, Nat.le_of_ble_eq_true rfl⟩) rfl rfl (Nat.le_of_ble_eq_true rfl) ⟨Nat.zero_le _, Nat.zero_le _⟩ (fun o1 h => ?_)
  exact kj_iret F dX1_volume_7 (kj_pr h)
theorem ch_volume {l : Launch} {D : va_G} {tys : List (ClassId × FieldType)} {S : Type} {w : S → va_W} {z : S} {hc : Int64} {b0 b1 q0 : Nat} (hh : (w z)[q0]? = some (b0, .inr (1, [.ref b1, .long hc]))) {o : Int32} (h : fh_volume hc = some o) : kj_Mi l yX1_volume wsX1_volume rm_X1_volume D tys w z [.ref b0] (o, z) :=
  fun sz => kj_start (by decide) rfl (Nat.le_of_ble_eq_true rfl) rfl fun p e s m args below meth c hsz F => jh_volume F hh h
/-! X1_equalTo -/
abbrev rm_X1_equalTo : Room := { frames := 1, cells := 0, slots := 0, locals := 21 }
theorem in_X1_equalTo_X1 : ∀ w ∈ u_ws RX1 TX1 2, w ∈ wsX1_equalTo := by decide +kernel
def fh_equalTo (ba bb bc : Int32) (hc : Int64) (ba' bb' bc' : Int32) (hc' : Int64) : Option Int32 :=
  (fx_sameAs ba bb bc ba' bb' bc').bind fun o1 =>
  if o1 = 0 then
  some (0 : Int32)
  else
  if (lg_cmp hc hc') = 0 then
  some (1 : Int32)
  else
  some (0 : Int32)
set_option maxRecDepth 20000 in
theorem jh_equalTo {p : Program} {l : Launch} {e : Env} {s : State} {m : MethodId} {args : Array Value} {below : List Frame} {meth : Method} {c : Code} {A : Nat → Prop} {D : va_G} {tys : List (ClassId × FieldType)} {S : Type} {w : S → va_W} {z : S} (F : kj_Fx p s m args meth c cX1_equalTo 2 wsX1_equalTo RX1 (some .boolean) D tys A) {ba bb bc : Int32} {hc : Int64} {b0 b1 q0 q1 : Nat} (hh : (w z)[q0]? = some (b0, .inr (1, [.ref b1, .long hc]))) (hb : (w z)[q1]? = some (b1, .inr (0, [.int ba, .int bb, .int bc]))) {ba' bb' bc' : Int32} {hc' : Int64} {b0' b1' q0' q1' : Nat} (hh' : (w z)[q0']? = some (b0', .inr (1, [.ref b1', .long hc']))) (hb' : (w z)[q1']? = some (b1', .inr (0, [.int ba', .int bb', .int bc']))) {o : Int32} (h : fh_equalTo ba bb bc hc ba' bb' bc' hc' = some o) : kj_J p l e rm_X1_equalTo s m args below meth c 0 0 (MQ below (kj_Qi D tys A w (o, z)) args s 0 0 A) 2 D A (w z) 0 [(0, .ref b0), (1, .ref b0')] [] := by
  unfold fh_equalTo at h
  refine kj_aload_n F dX1_equalTo_0 0 rfl rfl ?_
  refine kj_get F dX1_equalTo_1 in_X1_equalTo_X1 _ hh rfl 0 (by decide) (by decide +kernel) rfl rfl ?_
  refine kj_aload_n F dX1_equalTo_4 1 rfl rfl ?_
  refine kj_get F dX1_equalTo_5 in_X1_equalTo_X1 _ hh' rfl 0 (by decide) (by decide +kernel) rfl rfl ?_
  refine kj_cVip (As := [.ref b1']) (rest := []) F dX1_equalTo_8 h (fun o h1 => cx_sameAs (w := w) hb hb' h1) (cwV 1 F.2.2.2.2.1 gX1_equalTo_X0_sameAs rfl rfl rfl (by decide +kernel) ⟨Nat.le_of_ble_eq_true rfl, Nat.le_of_ble_eq_true rfl⟩) _ hb rfl rfl rfl rfl (Nat.le_of_ble_eq_true rfl) ⟨Nat.zero_le _, Nat.zero_le _⟩ (fun o1 h => ?_)
  refine kj_if_eq F dX1_equalTo_11 (tgt := 30) (by decide) h (fun hc h => ?_) (fun hc h => ?_)
  · refine kj_iconst F dX1_equalTo_30 (v := 0) (by decide) ?_
    exact kj_zret F dX1_equalTo_31 (by decide) (kj_pr h)
  · refine kj_aload_n F dX1_equalTo_14 0 rfl rfl ?_
    refine kj_get F dX1_equalTo_15 in_X1_equalTo_X1 _ hh rfl 1 (by decide) (by decide +kernel) rfl rfl ?_
    refine kj_aload_n F dX1_equalTo_18 1 rfl rfl ?_
    refine kj_get F dX1_equalTo_19 in_X1_equalTo_X1 _ hh' rfl 1 (by decide) (by decide +kernel) rfl rfl ?_
    refine kj_lcmp F dX1_equalTo_22 ?_
    refine kj_if_ne F dX1_equalTo_23 (tgt := 30) (by decide) h (fun hc h => ?_) (fun hc h => ?_)
    · refine kj_iconst F dX1_equalTo_26 (v := 1) (by decide) ?_
      refine kj_goto F dX1_equalTo_27 (tgt := 31) (by decide) ?_
      exact kj_zret F dX1_equalTo_31 (by decide) (kj_pr h)
    · refine kj_iconst F dX1_equalTo_30 (v := 0) (by decide) ?_
      exact kj_zret F dX1_equalTo_31 (by decide) (kj_pr h)
theorem ch_equalTo {l : Launch} {D : va_G} {tys : List (ClassId × FieldType)} {S : Type} {w : S → va_W} {z : S} {ba bb bc : Int32} {hc : Int64} {b0 b1 q0 q1 : Nat} (hh : (w z)[q0]? = some (b0, .inr (1, [.ref b1, .long hc]))) (hb : (w z)[q1]? = some (b1, .inr (0, [.int ba, .int bb, .int bc]))) {ba' bb' bc' : Int32} {hc' : Int64} {b0' b1' q0' q1' : Nat} (hh' : (w z)[q0']? = some (b0', .inr (1, [.ref b1', .long hc']))) (hb' : (w z)[q1']? = some (b1', .inr (0, [.int ba', .int bb', .int bc']))) {o : Int32} (h : fh_equalTo ba bb bc hc ba' bb' bc' hc' = some o) : kj_Mi l yX1_equalTo wsX1_equalTo rm_X1_equalTo D tys w z [.ref b0, .ref b0'] (o, z) :=
  fun sz => kj_start (by decide) rfl (Nat.le_of_ble_eq_true rfl) rfl fun p e s m args below meth c hsz F => jh_equalTo F hh hb hh' hb' h
/-! X1_before -/
abbrev rm_X1_before : Room := { frames := 0, cells := 0, slots := 0, locals := 0 }
theorem in_X1_before_X0 : ∀ w ∈ u_ws RX0 TX0 3, w ∈ wsX1_before := by decide +kernel
theorem in_X1_before_X1 : ∀ w ∈ u_ws RX1 TX1 2, w ∈ wsX1_before := by decide +kernel
def fh_before (ba bb bc : Int32) (hc : Int64) (ba' bb' bc' : Int32) (hc' : Int64) : Option Int32 :=
  if ba = ba' then
  if bb = bb' then
  if bc = bc' then
  if 0 ≤ (lg_cmp hc hc') then
  some (0 : Int32)
  else
  some (1 : Int32)
  else
  if bc' ≤ bc then
  some (0 : Int32)
  else
  some (1 : Int32)
  else
  if bb' ≤ bb then
  some (0 : Int32)
  else
  some (1 : Int32)
  else
  if ba' ≤ ba then
  some (0 : Int32)
  else
  some (1 : Int32)
set_option maxRecDepth 20000 in
theorem jh_before {p : Program} {l : Launch} {e : Env} {s : State} {m : MethodId} {args : Array Value} {below : List Frame} {meth : Method} {c : Code} {A : Nat → Prop} {D : va_G} {tys : List (ClassId × FieldType)} {S : Type} {w : S → va_W} {z : S} (F : kj_Fx p s m args meth c cX1_before 2 wsX1_before RX1 (some .boolean) D tys A) {ba bb bc : Int32} {hc : Int64} {b0 b1 q0 q1 : Nat} (hh : (w z)[q0]? = some (b0, .inr (1, [.ref b1, .long hc]))) (hb : (w z)[q1]? = some (b1, .inr (0, [.int ba, .int bb, .int bc]))) {ba' bb' bc' : Int32} {hc' : Int64} {b0' b1' q0' q1' : Nat} (hh' : (w z)[q0']? = some (b0', .inr (1, [.ref b1', .long hc']))) (hb' : (w z)[q1']? = some (b1', .inr (0, [.int ba', .int bb', .int bc']))) {o : Int32} (h : fh_before ba bb bc hc ba' bb' bc' hc' = some o) : kj_J p l e rm_X1_before s m args below meth c 0 0 (MQ below (kj_Qi D tys A w (o, z)) args s 0 0 A) 2 D A (w z) 0 [(0, .ref b0), (1, .ref b0')] [] := by
  unfold fh_before at h
  refine kj_aload_n F dX1_before_0 0 rfl rfl ?_
  refine kj_get F dX1_before_1 in_X1_before_X1 _ hh rfl 0 (by decide) (by decide +kernel) rfl rfl ?_
  refine kj_get F dX1_before_4 in_X1_before_X0 _ hb rfl 0 (by decide) (by decide +kernel) rfl rfl ?_
  refine kj_aload_n F dX1_before_7 1 rfl rfl ?_
  refine kj_get F dX1_before_8 in_X1_before_X1 _ hh' rfl 0 (by decide) (by decide +kernel) rfl rfl ?_
  refine kj_get F dX1_before_11 in_X1_before_X0 _ hb' rfl 0 (by decide) (by decide +kernel) rfl rfl ?_
  refine kj_icmp_eq F dX1_before_14 (tgt := 40) (by decide) h (fun hc h => ?_) (fun hc h => ?_)
  · refine kj_aload_n F dX1_before_40 0 rfl rfl ?_
    refine kj_get F dX1_before_41 in_X1_before_X1 _ hh rfl 0 (by decide) (by decide +kernel) rfl rfl ?_
    refine kj_get F dX1_before_44 in_X1_before_X0 _ hb rfl 1 (by decide) (by decide +kernel) rfl rfl ?_
    refine kj_aload_n F dX1_before_47 1 rfl rfl ?_
    refine kj_get F dX1_before_48 in_X1_before_X1 _ hh' rfl 0 (by decide) (by decide +kernel) rfl rfl ?_
    refine kj_get F dX1_before_51 in_X1_before_X0 _ hb' rfl 1 (by decide) (by decide +kernel) rfl rfl ?_
    refine kj_icmp_eq F dX1_before_54 (tgt := 80) (by decide) h (fun hc h => ?_) (fun hc h => ?_)
    · refine kj_aload_n F dX1_before_80 0 rfl rfl ?_
      refine kj_get F dX1_before_81 in_X1_before_X1 _ hh rfl 0 (by decide) (by decide +kernel) rfl rfl ?_
      refine kj_get F dX1_before_84 in_X1_before_X0 _ hb rfl 2 (by decide) (by decide +kernel) rfl rfl ?_
      refine kj_aload_n F dX1_before_87 1 rfl rfl ?_
      refine kj_get F dX1_before_88 in_X1_before_X1 _ hh' rfl 0 (by decide) (by decide +kernel) rfl rfl ?_
      refine kj_get F dX1_before_91 in_X1_before_X0 _ hb' rfl 2 (by decide) (by decide +kernel) rfl rfl ?_
      refine kj_icmp_eq F dX1_before_94 (tgt := 120) (by decide) h (fun hc h => ?_) (fun hc h => ?_)
      · refine kj_aload_n F dX1_before_120 0 rfl rfl ?_
        refine kj_get F dX1_before_121 in_X1_before_X1 _ hh rfl 1 (by decide) (by decide +kernel) rfl rfl ?_
        refine kj_aload_n F dX1_before_124 1 rfl rfl ?_
        refine kj_get F dX1_before_125 in_X1_before_X1 _ hh' rfl 1 (by decide) (by decide +kernel) rfl rfl ?_
        refine kj_lcmp F dX1_before_128 ?_
        refine kj_if_ge F dX1_before_129 (tgt := 136) (by decide) h (fun hc h => ?_) (fun hc h => ?_)
        · refine kj_iconst F dX1_before_136 (v := 0) (by decide) ?_
          exact kj_zret F dX1_before_137 (by decide) (kj_pr h)
        · refine kj_iconst F dX1_before_132 (v := 1) (by decide) ?_
          refine kj_goto F dX1_before_133 (tgt := 137) (by decide) ?_
          exact kj_zret F dX1_before_137 (by decide) (kj_pr h)
      · refine kj_aload_n F dX1_before_97 0 rfl rfl ?_
        refine kj_get F dX1_before_98 in_X1_before_X1 _ hh rfl 0 (by decide) (by decide +kernel) rfl rfl ?_
        refine kj_get F dX1_before_101 in_X1_before_X0 _ hb rfl 2 (by decide) (by decide +kernel) rfl rfl ?_
        refine kj_aload_n F dX1_before_104 1 rfl rfl ?_
        refine kj_get F dX1_before_105 in_X1_before_X1 _ hh' rfl 0 (by decide) (by decide +kernel) rfl rfl ?_
        refine kj_get F dX1_before_108 in_X1_before_X0 _ hb' rfl 2 (by decide) (by decide +kernel) rfl rfl ?_
        refine kj_icmp_ge F dX1_before_111 (tgt := 118) (by decide) h (fun hc h => ?_) (fun hc h => ?_)
        · refine kj_iconst F dX1_before_118 (v := 0) (by decide) ?_
          exact kj_zret F dX1_before_119 (by decide) (kj_pr h)
        · refine kj_iconst F dX1_before_114 (v := 1) (by decide) ?_
          refine kj_goto F dX1_before_115 (tgt := 119) (by decide) ?_
          exact kj_zret F dX1_before_119 (by decide) (kj_pr h)
    · refine kj_aload_n F dX1_before_57 0 rfl rfl ?_
      refine kj_get F dX1_before_58 in_X1_before_X1 _ hh rfl 0 (by decide) (by decide +kernel) rfl rfl ?_
      refine kj_get F dX1_before_61 in_X1_before_X0 _ hb rfl 1 (by decide) (by decide +kernel) rfl rfl ?_
      refine kj_aload_n F dX1_before_64 1 rfl rfl ?_
      refine kj_get F dX1_before_65 in_X1_before_X1 _ hh' rfl 0 (by decide) (by decide +kernel) rfl rfl ?_
      refine kj_get F dX1_before_68 in_X1_before_X0 _ hb' rfl 1 (by decide) (by decide +kernel) rfl rfl ?_
      refine kj_icmp_ge F dX1_before_71 (tgt := 78) (by decide) h (fun hc h => ?_) (fun hc h => ?_)
      · refine kj_iconst F dX1_before_78 (v := 0) (by decide) ?_
        exact kj_zret F dX1_before_79 (by decide) (kj_pr h)
      · refine kj_iconst F dX1_before_74 (v := 1) (by decide) ?_
        refine kj_goto F dX1_before_75 (tgt := 79) (by decide) ?_
        exact kj_zret F dX1_before_79 (by decide) (kj_pr h)
  · refine kj_aload_n F dX1_before_17 0 rfl rfl ?_
    refine kj_get F dX1_before_18 in_X1_before_X1 _ hh rfl 0 (by decide) (by decide +kernel) rfl rfl ?_
    refine kj_get F dX1_before_21 in_X1_before_X0 _ hb rfl 0 (by decide) (by decide +kernel) rfl rfl ?_
    refine kj_aload_n F dX1_before_24 1 rfl rfl ?_
    refine kj_get F dX1_before_25 in_X1_before_X1 _ hh' rfl 0 (by decide) (by decide +kernel) rfl rfl ?_
    refine kj_get F dX1_before_28 in_X1_before_X0 _ hb' rfl 0 (by decide) (by decide +kernel) rfl rfl ?_
    refine kj_icmp_ge F dX1_before_31 (tgt := 38) (by decide) h (fun hc h => ?_) (fun hc h => ?_)
    · refine kj_iconst F dX1_before_38 (v := 0) (by decide) ?_
      exact kj_zret F dX1_before_39 (by decide) (kj_pr h)
    · refine kj_iconst F dX1_before_34 (v := 1) (by decide) ?_
      refine kj_goto F dX1_before_35 (tgt := 39) (by decide) ?_
      exact kj_zret F dX1_before_39 (by decide) (kj_pr h)
theorem ch_before {l : Launch} {D : va_G} {tys : List (ClassId × FieldType)} {S : Type} {w : S → va_W} {z : S} {ba bb bc : Int32} {hc : Int64} {b0 b1 q0 q1 : Nat} (hh : (w z)[q0]? = some (b0, .inr (1, [.ref b1, .long hc]))) (hb : (w z)[q1]? = some (b1, .inr (0, [.int ba, .int bb, .int bc]))) {ba' bb' bc' : Int32} {hc' : Int64} {b0' b1' q0' q1' : Nat} (hh' : (w z)[q0']? = some (b0', .inr (1, [.ref b1', .long hc']))) (hb' : (w z)[q1']? = some (b1', .inr (0, [.int ba', .int bb', .int bc']))) {o : Int32} (h : fh_before ba bb bc hc ba' bb' bc' hc' = some o) : kj_Mi l yX1_before wsX1_before rm_X1_before D tys w z [.ref b0, .ref b0'] (o, z) :=
  fun sz => kj_start (by decide) rfl (Nat.le_of_ble_eq_true rfl) rfl fun p e s m args below meth c hsz F => jh_before F hh hb hh' hb' h
/-! X2_member -/
abbrev rm_X2_member : Room := { frames := 0, cells := 0, slots := 0, locals := 0 }
theorem in_X2_member_X2 : ∀ w ∈ u_ws RX2 TX2 2, w ∈ wsX2_member := by decide +kernel
def fk_member_22 (P : va_W) (t0 : (Option Nat)) (z : kx_S) : Option (Option Nat × kx_S) :=
  some (t0, z)
def fk_member_21 (P : va_W) (z : kx_S) : Option (Option Nat × kx_S) :=
  fk_member_22 P none z
def fk_member (P : va_W) (x1 : Int32) (z : kx_S) : Option (Option Nat × kx_S) :=
  if x1 < 0 then
  fk_member_21 P z
  else
  if (z.1 9) ≤ x1 then
  fk_member_21 P z
  else
  (kx_rr z 4 x1).bind fun v1 =>
  fk_member_22 P v1 z
set_option maxRecDepth 20000 in
theorem jk_member_22 {p : Program} {l : Launch} {e : Env} {s : State} {m : MethodId} {args : Array Value} {below : List Frame} {meth : Method} {c : Code} {A : Nat → Prop} {D : va_G} {cA : Nat → ClassId} {h0 : Nat} {q : Nat → Nat} {P : va_W} (F : kj_Fx p s m args meth c cX2_member 2 wsX2_member RX2 (some (.object "CornerHeaps$Heap")) D (kx_T cA) A) {t0 : (Option Nat)} {z : kx_S} {o : (Option Nat × kx_S)} (h : fk_member_22 P t0 z = some o) : kj_J p l e rm_X2_member s m args below meth c 0 0 (MQ below (kj_Qq D (kx_T cA) A (kx_W cA h0 q P) o) args s 0 0 A) 2 D A ((kx_W cA h0 q P) z) 22 [] [va_rf t0] := by
  unfold fk_member_22 at h
  exact kj_aret (v := t0) F dX2_member_22 h
set_option maxRecDepth 20000 in
theorem jk_member_21 {p : Program} {l : Launch} {e : Env} {s : State} {m : MethodId} {args : Array Value} {below : List Frame} {meth : Method} {c : Code} {A : Nat → Prop} {D : va_G} {cA : Nat → ClassId} {h0 : Nat} {q : Nat → Nat} {P : va_W} (F : kj_Fx p s m args meth c cX2_member 2 wsX2_member RX2 (some (.object "CornerHeaps$Heap")) D (kx_T cA) A) {z : kx_S} {o : (Option Nat × kx_S)} (h : fk_member_21 P z = some o) : kj_J p l e rm_X2_member s m args below meth c 0 0 (MQ below (kj_Qq D (kx_T cA) A (kx_W cA h0 q P) o) args s 0 0 A) 2 D A ((kx_W cA h0 q P) z) 21 [] [] := by
  unfold fk_member_21 at h
  refine kj_null F dX2_member_21 ?_
  exact jk_member_22 F h
set_option maxRecDepth 20000 in
theorem jk_member {p : Program} {l : Launch} {e : Env} {s : State} {m : MethodId} {args : Array Value} {below : List Frame} {meth : Method} {c : Code} {A : Nat → Prop} {D : va_G} {cA : Nat → ClassId} {h0 : Nat} {q : Nat → Nat} {P : va_W} (F : kj_Fx p s m args meth c cX2_member 2 wsX2_member RX2 (some (.object "CornerHeaps$Heap")) D (kx_T cA) A) {x1 : Int32} {z : kx_S} {o : (Option Nat × kx_S)} (h : fk_member P x1 z = some o) : kj_J p l e rm_X2_member s m args below meth c 0 0 (MQ below (kj_Qq D (kx_T cA) A (kx_W cA h0 q P) o) args s 0 0 A) 2 D A ((kx_W cA h0 q P) z) 0 [(0, .ref (q 2)), (1, .int x1)] [] := by
  unfold fk_member at h
  refine kj_iload_n F dX2_member_0 1 rfl rfl ?_
  refine kj_if_lt F dX2_member_1 (tgt := 21) (by decide) h (fun hc h => ?_) (fun hc h => ?_)
  · refine kj_J.sub [] rfl ?_
    exact jk_member_21 F h
  · refine kj_iload_n F dX2_member_4 1 rfl rfl ?_
    refine kj_aload_n F dX2_member_5 0 rfl rfl ?_
    refine kj_get F dX2_member_6 in_X2_member_X2 3 rfl rfl 1 (by decide) (by decide +kernel) rfl rfl ?_
    refine kj_icmp_ge F dX2_member_9 (tgt := 21) (by decide) h (fun hc h => ?_) (fun hc h => ?_)
    · refine kj_J.sub [] rfl ?_
      exact jk_member_21 F h
    · refine kj_aload_n F dX2_member_12 0 rfl rfl ?_
      refine kj_get F dX2_member_13 in_X2_member_X2 3 rfl rfl 0 (by decide) (by decide +kernel) rfl rfl ?_
      refine kj_iload_n F dX2_member_16 1 rfl rfl ?_
      refine kx_raldM F dX2_member_17 h (fun v1 h => ?_)
      refine kj_goto F dX2_member_18 (tgt := 22) (by decide) ?_
      refine kj_J.sub [] rfl ?_
      exact jk_member_22 F h
theorem ck_member {l : Launch} {D : va_G} {cA : Nat → ClassId} {h0 : Nat} {q : Nat → Nat} {P : va_W} {x1 : Int32} {z : kx_S} {o : (Option Nat × kx_S)} (h : fk_member P x1 z = some o) : kj_Mq l yX2_member wsX2_member rm_X2_member D (kx_T cA) (kx_W cA h0 q P) z [.ref (q 2), .int x1] o :=
  fun sz => kj_start (by decide) rfl (Nat.le_of_ble_eq_true rfl) rfl fun p e s m args below meth c hsz F => jk_member F h
/-! X2_insert -/
abbrev rm_X2_insert : Room := { frames := 2, cells := 0, slots := 0, locals := 42 }
theorem in_X2_insert_X2 : ∀ w ∈ u_ws RX2 TX2 2, w ∈ wsX2_insert := by decide +kernel
def fk_insert_2 (P : va_W) (x1 : Nat) (x2 : Int32) (z : kx_S) : Option ((Nat × Int32 × kx_S) ⊕ (Nat × Int32 × kx_S)) :=
  if (z.1 9) ≤ x2 then
  some (.inr (x1, x2, z))
  else
  (kx_rr z 4 x2).bind fun v1 =>
  (v1).bind fun a2 =>
  (kx_hp P a2).bind fun u4 =>
  (kx_bx P u4.1).bind fun u7 =>
  (kx_hp P x1).bind fun u10 =>
  (kx_bx P u10.1).bind fun u13 =>
  (fh_before u7.1 u7.2.1 u7.2.2 u4.2 u13.1 u13.2.1 u13.2.2 u10.2).bind fun o16 =>
  if o16 = 0 then
  some (.inr (x1, x2, z))
  else
  some (.inl (x1, (x2 + 1), z))
def lk_insert_2 (P : va_W) (n : Nat) (x1 : Nat) (x2 : Int32) (z : kx_S) : Option (Nat × Int32 × kx_S) :=
  kj_it (fun (s : (Nat × Int32 × kx_S)) => fk_insert_2 P (s.1) (s.2.1) (s.2.2)) n (x1, x2, z)
def fk_insert_65 (P : va_W) (x1 : Nat) (x2 : Int32) (x3 : Int32) (z : kx_S) : Option ((Nat × Int32 × Int32 × kx_S) ⊕ (Nat × Int32 × kx_S)) :=
  if x3 ≤ x2 then
  some (.inr (x1, x2, z))
  else
  (kx_rr z 4 (x3 - (1 : Int32))).bind fun v1 =>
  (kx_wh P z 4 x3 v1).bind fun z2 =>
  some (.inl (x1, x2, (x3 + (-1)), z2))
def lk_insert_65 (P : va_W) (n : Nat) (x1 : Nat) (x2 : Int32) (x3 : Int32) (z : kx_S) : Option (Nat × Int32 × kx_S) :=
  kj_it (fun (s : (Nat × Int32 × Int32 × kx_S)) => fk_insert_65 P (s.1) (s.2.1) (s.2.2.1) (s.2.2.2)) n (x1, x2, x3, z)
def fk_insert_60 (P : va_W) (x1 : Nat) (x2 : Int32) (z : kx_S) : Option kx_S :=
  (lk_insert_65 P 5000 x1 x2 (z.1 9) z).bind fun r1 =>
  (kx_wh P (r1.2.2) 4 (r1.2.1) (some (r1.1))).bind fun z2 =>
  (kx_pI z2 9 ((z2.1 9) + (1 : Int32))).bind fun z3 =>
  some z3
def fk_insert_29 (P : va_W) (x1 : Nat) (x2 : Int32) (z : kx_S) : Option kx_S :=
  if (12 : Int32) ≤ (z.1 9) then
  some z
  else
  if (z.1 9) ≤ x2 then
  fk_insert_60 P x1 x2 z
  else
  (kx_rr z 4 x2).bind fun v1 =>
  (v1).bind fun a2 =>
  (kx_hp P a2).bind fun u4 =>
  (kx_bx P u4.1).bind fun u7 =>
  (kx_hp P x1).bind fun u10 =>
  (kx_bx P u10.1).bind fun u13 =>
  (fh_equalTo u7.1 u7.2.1 u7.2.2 u4.2 u13.1 u13.2.1 u13.2.2 u10.2).bind fun o16 =>
  if o16 = 0 then
  fk_insert_60 P x1 x2 z
  else
  some z
def fk_insert (P : va_W) (x1 : Nat) (z : kx_S) : Option kx_S :=
  (lk_insert_2 P 5000 x1 (0 : Int32) z).bind fun r1 =>
  fk_insert_29 P (r1.1) (r1.2.1) (r1.2.2)
set_option maxRecDepth 20000 in
theorem jk_insert_2 {p : Program} {l : Launch} {e : Env} {s : State} {m : MethodId} {args : Array Value} {below : List Frame} {meth : Method} {c : Code} {A : Nat → Prop} {D : va_G} {cA : Nat → ClassId} {h0 : Nat} {q : Nat → Nat} {P : va_W} {Q : State → Prop} (F : kj_Fx p s m args meth c cX2_insert 4 wsX2_insert RX2 none D (kx_T cA) A) {x1 : Nat} {x2 : Int32} {z : kx_S} {o : ((Nat × Int32 × kx_S) ⊕ (Nat × Int32 × kx_S))} (h : fk_insert_2 P x1 x2 z = some o) (kb : ∀ (a0' : Nat) (a1' : Int32) (a2' : kx_S), o = .inl (a0', a1', a2') → kj_J p l e rm_X2_insert s m args below meth c 0 0 Q 4 D A ((kx_W cA h0 q P) a2') 2 [(0, .ref (q 2)), (1, .ref a0'), (2, .int a1')] []) (ke0 : ∀ (a0' : Nat) (a1' : Int32) (a2' : kx_S), o = .inr (a0', a1', a2') → kj_J p l e rm_X2_insert s m args below meth c 0 0 Q 4 D A ((kx_W cA h0 q P) a2') 29 [(0, .ref (q 2)), (1, .ref a0'), (2, .int a1')] []) : kj_J p l e rm_X2_insert s m args below meth c 0 0 Q 4 D A ((kx_W cA h0 q P) z) 2 [(0, .ref (q 2)), (1, .ref x1), (2, .int x2)] [] := by
  unfold fk_insert_2 at h
  refine kj_iload_n F dX2_insert_2 2 rfl rfl ?_
  refine kj_aload_n F dX2_insert_3 0 rfl rfl ?_
  refine kj_get F dX2_insert_4 in_X2_insert_X2 3 rfl rfl 1 (by decide) (by decide +kernel) rfl rfl ?_
  refine kj_icmp_ge F dX2_insert_7 (tgt := 29) (by decide) h (fun hc h => ?_) (fun hc h => ?_)
  · exact ke0 x1 x2 z (Option.some.inj h).symm
  · refine kj_aload_n F dX2_insert_10 0 rfl rfl ?_
    refine kj_get F dX2_insert_11 in_X2_insert_X2 3 rfl rfl 0 (by decide) (by decide +kernel) rfl rfl ?_
    refine kj_iload_n F dX2_insert_14 2 rfl rfl ?_
    refine kx_raldM F dX2_insert_15 h (fun v1 h => ?_)
    refine kj_aload_n F dX2_insert_16 1 rfl rfl ?_
    refine kj_bn h (fun a2 e3 h => ?_)
    refine kj_steq (st' := [.ref x1, .ref a2]) (by rw [e3]; rfl) ?_
    refine kj_bn h (fun u4 hu5 h => ?_)
    obtain ⟨iu6, hu5⟩ := kx_hp_at hu5
    refine kj_bn h (fun u7 hu8 h => ?_)
    obtain ⟨iu9, hu8⟩ := kx_bx_at hu8
    refine kj_bn h (fun u10 hu11 h => ?_)
    obtain ⟨iu12, hu11⟩ := kx_hp_at hu11
    refine kj_bn h (fun u13 hu14 h => ?_)
    obtain ⟨iu15, hu14⟩ := kx_bx_at hu14
    refine kj_cVip (As := [.ref x1]) (rest := []) F dX2_insert_17 h (fun o h1 => ch_before (w := (kx_W cA h0 q P)) (kx_pool hu5) (kx_pool hu8) (kx_pool hu11) (kx_pool hu14) h1) (cwV 1 F.2.2.2.2.1 gX2_insert_X1_before rfl rfl rfl (by decide +kernel) ⟨Nat.le_of_ble_eq_true rfl, Nat.le_of_ble_eq_true rfl⟩) _ (kx_pool hu5) rfl rfl rfl rfl (Nat.le_of_ble_eq_true rfl) ⟨Nat.zero_le _, Nat.zero_le _⟩ (fun o16 h => ?_)
    refine kj_if_eq F dX2_insert_20 (tgt := 29) (by decide) h (fun hc h => ?_) (fun hc h => ?_)
    · exact ke0 x1 x2 z (Option.some.inj h).symm
    · refine kj_iinc F dX2_insert_23 2 rfl (v := 1) (by decide) (by decide) (lv' := [(2, .int (x2 + 1)), (0, .ref (q 2)), (1, .ref x1)]) rfl ?_
      refine kj_goto F dX2_insert_26 (tgt := 2) (by decide) ?_
      refine kj_J.sub [1, 2, 0] rfl ?_
      exact kb x1 (x2 + 1) z (Option.some.inj h).symm
theorem jlk_insert_2 {p : Program} {l : Launch} {e : Env} {s : State} {m : MethodId} {args : Array Value} {below : List Frame} {meth : Method} {c : Code} {A : Nat → Prop} {D : va_G} {cA : Nat → ClassId} {h0 : Nat} {q : Nat → Nat} {P : va_W} {Q : State → Prop} (F : kj_Fx p s m args meth c cX2_insert 4 wsX2_insert RX2 none D (kx_T cA) A) {n : Nat} {x1 : Nat} {x2 : Int32} {z : kx_S} {r : (Nat × Int32 × kx_S)} (h : lk_insert_2 P n x1 x2 z = some r) (ke : kj_J p l e rm_X2_insert s m args below meth c 0 0 Q 4 D A ((kx_W cA h0 q P) (r.2.2)) 29 [(0, .ref (q 2)), (1, .ref (r.1)), (2, .int (r.2.1))] []) : kj_J p l e rm_X2_insert s m args below meth c 0 0 Q 4 D A ((kx_W cA h0 q P) z) 2 [(0, .ref (q 2)), (1, .ref x1), (2, .int x2)] [] :=
  kj_it_J (Wh := fun (u : (Nat × Int32 × kx_S)) => kj_J p l e rm_X2_insert s m args below meth c 0 0 Q 4 D A ((kx_W cA h0 q P) (u.2.2)) 2 [(0, .ref (q 2)), (1, .ref (u.1)), (2, .int (u.2.1))] []) (We := fun r => kj_J p l e rm_X2_insert s m args below meth c 0 0 Q 4 D A ((kx_W cA h0 q P) (r.2.2)) 29 [(0, .ref (q 2)), (1, .ref (r.1)), (2, .int (r.2.1))] []) (fun u o h kb ke => jk_insert_2 F h (fun a0' a1' a2' e => kb (a0', a1', a2') e) (fun a0' a1' a2' e => ke (a0', a1', a2') e)) n (x1, x2, z) r h ke
set_option maxRecDepth 20000 in
theorem jk_insert_65 {p : Program} {l : Launch} {e : Env} {s : State} {m : MethodId} {args : Array Value} {below : List Frame} {meth : Method} {c : Code} {A : Nat → Prop} {D : va_G} {cA : Nat → ClassId} {h0 : Nat} {q : Nat → Nat} {P : va_W} {Q : State → Prop} (F : kj_Fx p s m args meth c cX2_insert 4 wsX2_insert RX2 none D (kx_T cA) A) {x1 : Nat} {x2 : Int32} {x3 : Int32} {z : kx_S} {o : ((Nat × Int32 × Int32 × kx_S) ⊕ (Nat × Int32 × kx_S))} (h : fk_insert_65 P x1 x2 x3 z = some o) (kb : ∀ (a0' : Nat) (a1' : Int32) (a2' : Int32) (a3' : kx_S), o = .inl (a0', a1', a2', a3') → kj_J p l e rm_X2_insert s m args below meth c 0 0 Q 4 D A ((kx_W cA h0 q P) a3') 65 [(0, .ref (q 2)), (1, .ref a0'), (2, .int a1'), (3, .int a2')] []) (ke0 : ∀ (a0' : Nat) (a1' : Int32) (a2' : kx_S), o = .inr (a0', a1', a2') → kj_J p l e rm_X2_insert s m args below meth c 0 0 Q 4 D A ((kx_W cA h0 q P) a2') 90 [(0, .ref (q 2)), (1, .ref a0'), (2, .int a1')] []) : kj_J p l e rm_X2_insert s m args below meth c 0 0 Q 4 D A ((kx_W cA h0 q P) z) 65 [(0, .ref (q 2)), (1, .ref x1), (2, .int x2), (3, .int x3)] [] := by
  unfold fk_insert_65 at h
  refine kj_iload_n F dX2_insert_65 3 rfl rfl ?_
  refine kj_iload_n F dX2_insert_66 2 rfl rfl ?_
  refine kj_icmp_le F dX2_insert_67 (tgt := 90) (by decide) h (fun hc h => ?_) (fun hc h => ?_)
  · refine kj_J.sub [0, 1, 2] rfl ?_
    exact ke0 x1 x2 z (Option.some.inj h).symm
  · refine kj_aload_n F dX2_insert_70 0 rfl rfl ?_
    refine kj_get F dX2_insert_71 in_X2_insert_X2 3 rfl rfl 0 (by decide) (by decide +kernel) rfl rfl ?_
    refine kj_iload_n F dX2_insert_74 3 rfl rfl ?_
    refine kj_aload_n F dX2_insert_75 0 rfl rfl ?_
    refine kj_get F dX2_insert_76 in_X2_insert_X2 3 rfl rfl 0 (by decide) (by decide +kernel) rfl rfl ?_
    refine kj_iload_n F dX2_insert_79 3 rfl rfl ?_
    refine kj_iconst F dX2_insert_80 (v := 1) (by decide) ?_
    refine kj_isub F dX2_insert_81 ?_
    refine kx_raldM F dX2_insert_82 h (fun v1 h => ?_)
    refine kx_rastM (v := v1) F dX2_insert_83 h (fun z2 h => ?_)
    refine kj_iinc F dX2_insert_84 3 rfl (v := (-1)) (by decide) (by decide) (lv' := [(3, .int (x3 + (-1))), (0, .ref (q 2)), (1, .ref x1), (2, .int x2)]) rfl ?_
    refine kj_goto F dX2_insert_87 (tgt := 65) (by decide) ?_
    refine kj_J.sub [1, 2, 3, 0] rfl ?_
    exact kb x1 x2 (x3 + (-1)) z2 (Option.some.inj h).symm
theorem jlk_insert_65 {p : Program} {l : Launch} {e : Env} {s : State} {m : MethodId} {args : Array Value} {below : List Frame} {meth : Method} {c : Code} {A : Nat → Prop} {D : va_G} {cA : Nat → ClassId} {h0 : Nat} {q : Nat → Nat} {P : va_W} {Q : State → Prop} (F : kj_Fx p s m args meth c cX2_insert 4 wsX2_insert RX2 none D (kx_T cA) A) {n : Nat} {x1 : Nat} {x2 : Int32} {x3 : Int32} {z : kx_S} {r : (Nat × Int32 × kx_S)} (h : lk_insert_65 P n x1 x2 x3 z = some r) (ke : kj_J p l e rm_X2_insert s m args below meth c 0 0 Q 4 D A ((kx_W cA h0 q P) (r.2.2)) 90 [(0, .ref (q 2)), (1, .ref (r.1)), (2, .int (r.2.1))] []) : kj_J p l e rm_X2_insert s m args below meth c 0 0 Q 4 D A ((kx_W cA h0 q P) z) 65 [(0, .ref (q 2)), (1, .ref x1), (2, .int x2), (3, .int x3)] [] :=
  kj_it_J (Wh := fun (u : (Nat × Int32 × Int32 × kx_S)) => kj_J p l e rm_X2_insert s m args below meth c 0 0 Q 4 D A ((kx_W cA h0 q P) (u.2.2.2)) 65 [(0, .ref (q 2)), (1, .ref (u.1)), (2, .int (u.2.1)), (3, .int (u.2.2.1))] []) (We := fun r => kj_J p l e rm_X2_insert s m args below meth c 0 0 Q 4 D A ((kx_W cA h0 q P) (r.2.2)) 90 [(0, .ref (q 2)), (1, .ref (r.1)), (2, .int (r.2.1))] []) (fun u o h kb ke => jk_insert_65 F h (fun a0' a1' a2' a3' e => kb (a0', a1', a2', a3') e) (fun a0' a1' a2' e => ke (a0', a1', a2') e)) n (x1, x2, x3, z) r h ke
set_option maxRecDepth 20000 in
theorem jk_insert_60 {p : Program} {l : Launch} {e : Env} {s : State} {m : MethodId} {args : Array Value} {below : List Frame} {meth : Method} {c : Code} {A : Nat → Prop} {D : va_G} {cA : Nat → ClassId} {h0 : Nat} {q : Nat → Nat} {P : va_W} (F : kj_Fx p s m args meth c cX2_insert 4 wsX2_insert RX2 none D (kx_T cA) A) {x1 : Nat} {x2 : Int32} {z : kx_S} {o : kx_S} (h : fk_insert_60 P x1 x2 z = some o) : kj_J p l e rm_X2_insert s m args below meth c 0 0 (MQ below (kj_Qv D (kx_T cA) A (kx_W cA h0 q P) o) args s 0 0 A) 4 D A ((kx_W cA h0 q P) z) 60 [(0, .ref (q 2)), (1, .ref x1), (2, .int x2)] [] := by
  unfold fk_insert_60 at h
  refine kj_aload_n F dX2_insert_60 0 rfl rfl ?_
  refine kj_get F dX2_insert_61 in_X2_insert_X2 3 rfl rfl 1 (by decide) (by decide +kernel) rfl rfl ?_
  refine kj_istore_n F dX2_insert_64 (lv' := [(3, .int (z.1 9)), (0, .ref (q 2)), (1, .ref x1), (2, .int x2)]) rfl (by decide) rfl ?_
  refine kj_J.sub [1, 2, 3, 0] rfl ?_
  refine kj_bn h (fun r1 h1 h => ?_)
  refine jlk_insert_65 F h1 ?_
  refine kj_aload_n F dX2_insert_90 0 rfl rfl ?_
  refine kj_get F dX2_insert_91 in_X2_insert_X2 3 rfl rfl 0 (by decide) (by decide +kernel) rfl rfl ?_
  refine kj_iload_n F dX2_insert_94 2 rfl rfl ?_
  refine kj_aload_n F dX2_insert_95 1 rfl rfl ?_
  refine kx_rastM (v := (some (r1.1))) F dX2_insert_96 h (fun z2 h => ?_)
  refine kj_aload_n F dX2_insert_97 0 rfl rfl ?_
  refine kj_dup F dX2_insert_98 rfl ?_
  refine kj_get F dX2_insert_99 in_X2_insert_X2 3 rfl rfl 1 (by decide) (by decide +kernel) rfl rfl ?_
  refine kj_iconst F dX2_insert_102 (v := 1) (by decide) ?_
  refine kj_iadd F dX2_insert_103 ?_
  refine kx_pt F dX2_insert_104 in_X2_insert_X2 tyX2 tyX2_ok nmX2 3 rfl rfl 1 9 (by decide) (by decide +kernel) rfl rfl (by decide +kernel) (Nat.le_of_ble_eq_true rfl) (kx_put9 cA h0 q P _ _) h (fun z3 h => ?_)
  exact kj_vret F dX2_insert_107 h
set_option maxRecDepth 20000 in
theorem jk_insert_29 {p : Program} {l : Launch} {e : Env} {s : State} {m : MethodId} {args : Array Value} {below : List Frame} {meth : Method} {c : Code} {A : Nat → Prop} {D : va_G} {cA : Nat → ClassId} {h0 : Nat} {q : Nat → Nat} {P : va_W} (F : kj_Fx p s m args meth c cX2_insert 4 wsX2_insert RX2 none D (kx_T cA) A) {x1 : Nat} {x2 : Int32} {z : kx_S} {o : kx_S} (h : fk_insert_29 P x1 x2 z = some o) : kj_J p l e rm_X2_insert s m args below meth c 0 0 (MQ below (kj_Qv D (kx_T cA) A (kx_W cA h0 q P) o) args s 0 0 A) 4 D A ((kx_W cA h0 q P) z) 29 [(0, .ref (q 2)), (1, .ref x1), (2, .int x2)] [] := by
  unfold fk_insert_29 at h
  refine kj_aload_n F dX2_insert_29 0 rfl rfl ?_
  refine kj_get F dX2_insert_30 in_X2_insert_X2 3 rfl rfl 1 (by decide) (by decide +kernel) rfl rfl ?_
  refine kj_bipush F dX2_insert_33 (v := 12) (by decide) ?_
  refine kj_icmp_ge F dX2_insert_35 (tgt := 59) (by decide) h (fun hc h => ?_) (fun hc h => ?_)
  · exact kj_vret F dX2_insert_59 h
  · refine kj_iload_n F dX2_insert_38 2 rfl rfl ?_
    refine kj_aload_n F dX2_insert_39 0 rfl rfl ?_
    refine kj_get F dX2_insert_40 in_X2_insert_X2 3 rfl rfl 1 (by decide) (by decide +kernel) rfl rfl ?_
    refine kj_icmp_ge F dX2_insert_43 (tgt := 60) (by decide) h (fun hc h => ?_) (fun hc h => ?_)
    · exact jk_insert_60 F h
    · refine kj_aload_n F dX2_insert_46 0 rfl rfl ?_
      refine kj_get F dX2_insert_47 in_X2_insert_X2 3 rfl rfl 0 (by decide) (by decide +kernel) rfl rfl ?_
      refine kj_iload_n F dX2_insert_50 2 rfl rfl ?_
      refine kx_raldM F dX2_insert_51 h (fun v1 h => ?_)
      refine kj_aload_n F dX2_insert_52 1 rfl rfl ?_
      refine kj_bn h (fun a2 e3 h => ?_)
      refine kj_steq (st' := [.ref x1, .ref a2]) (by rw [e3]; rfl) ?_
      refine kj_bn h (fun u4 hu5 h => ?_)
      obtain ⟨iu6, hu5⟩ := kx_hp_at hu5
      refine kj_bn h (fun u7 hu8 h => ?_)
      obtain ⟨iu9, hu8⟩ := kx_bx_at hu8
      refine kj_bn h (fun u10 hu11 h => ?_)
      obtain ⟨iu12, hu11⟩ := kx_hp_at hu11
      refine kj_bn h (fun u13 hu14 h => ?_)
      obtain ⟨iu15, hu14⟩ := kx_bx_at hu14
      refine kj_cVip (As := [.ref x1]) (rest := []) F dX2_insert_53 h (fun o h1 => ch_equalTo (w := (kx_W cA h0 q P)) (kx_pool hu5) (kx_pool hu8) (kx_pool hu11) (kx_pool hu14) h1) (cwV 1 F.2.2.2.2.1 gX2_insert_X1_equalTo rfl rfl rfl (by decide +kernel) ⟨Nat.le_of_ble_eq_true rfl, Nat.le_of_ble_eq_true rfl⟩) _ (kx_pool hu5) rfl rfl rfl rfl (Nat.le_of_ble_eq_true rfl) ⟨Nat.zero_le _, Nat.zero_le _⟩ (fun o16 h => ?_)
      refine kj_if_eq F dX2_insert_56 (tgt := 60) (by decide) h (fun hc h => ?_) (fun hc h => ?_)
      · exact jk_insert_60 F h
      · exact kj_vret F dX2_insert_59 h
set_option maxRecDepth 20000 in
theorem jk_insert {p : Program} {l : Launch} {e : Env} {s : State} {m : MethodId} {args : Array Value} {below : List Frame} {meth : Method} {c : Code} {A : Nat → Prop} {D : va_G} {cA : Nat → ClassId} {h0 : Nat} {q : Nat → Nat} {P : va_W} (F : kj_Fx p s m args meth c cX2_insert 4 wsX2_insert RX2 none D (kx_T cA) A) {x1 : Nat} {z : kx_S} {o : kx_S} (h : fk_insert P x1 z = some o) : kj_J p l e rm_X2_insert s m args below meth c 0 0 (MQ below (kj_Qv D (kx_T cA) A (kx_W cA h0 q P) o) args s 0 0 A) 4 D A ((kx_W cA h0 q P) z) 0 [(0, .ref (q 2)), (1, .ref x1)] [] := by
  unfold fk_insert at h
  refine kj_iconst F dX2_insert_0 (v := 0) (by decide) ?_
  refine kj_istore_n F dX2_insert_1 (lv' := [(2, .int (0 : Int32)), (0, .ref (q 2)), (1, .ref x1)]) rfl (by decide) rfl ?_
  refine kj_J.sub [1, 2, 0] rfl ?_
  refine kj_bn h (fun r1 h1 h => ?_)
  refine jlk_insert_2 F h1 ?_
  exact jk_insert_29 F h
theorem ck_insert {l : Launch} {D : va_G} {cA : Nat → ClassId} {h0 : Nat} {q : Nat → Nat} {P : va_W} {x1 : Nat} {z : kx_S} {o : kx_S} (h : fk_insert P x1 z = some o) : kj_Mv l yX2_insert wsX2_insert rm_X2_insert D (kx_T cA) (kx_W cA h0 q P) z [.ref (q 2), .ref x1] o :=
  fun sz => kj_start (by decide) rfl (Nat.le_of_ble_eq_true rfl) rfl fun p e s m args below meth c hsz F => jk_insert F h
/-! X7_copyPlaces -/
abbrev rm_X7_copyPlaces : Room := { frames := 0, cells := 0, slots := 0, locals := 0 }
def fc_copyPlaces_3 (P : va_W) (k0 : Nat) (k2 : Nat) (x1 : Int32) (x3 : Int32) (x4 : Int32) (z : kx_S) : Option ((Int32 × Int32 × Int32 × kx_S) ⊕ kx_S) :=
  if (4 : Int32) ≤ x4 then
  some (.inr z)
  else
  (kx_rr z k0 (x1 + x4)).bind fun v1 =>
  (kx_wh P z k2 (x3 + x4) v1).bind fun z2 =>
  some (.inl (x1, x3, (x4 + 1), z2))
def lc_copyPlaces_3 (P : va_W) (k0 : Nat) (k2 : Nat) (n : Nat) (x1 : Int32) (x3 : Int32) (x4 : Int32) (z : kx_S) : Option kx_S :=
  kj_it (fun (s : (Int32 × Int32 × Int32 × kx_S)) => fc_copyPlaces_3 P k0 k2 (s.1) (s.2.1) (s.2.2.1) (s.2.2.2)) n (x1, x3, x4, z)
def fc_copyPlaces (P : va_W) (k0 : Nat) (k2 : Nat) (x1 : Int32) (x3 : Int32) (z : kx_S) : Option kx_S :=
  (lc_copyPlaces_3 P k0 k2 5000 x1 x3 (0 : Int32) z).bind fun r1 =>
  some (r1)
set_option maxRecDepth 20000 in
theorem jc_copyPlaces_3 {p : Program} {l : Launch} {e : Env} {s : State} {m : MethodId} {args : Array Value} {below : List Frame} {meth : Method} {c : Code} {A : Nat → Prop} {D : va_G} {cA : Nat → ClassId} {h0 : Nat} {q : Nat → Nat} {P : va_W} {Q : State → Prop} (F : kj_Fx p s m args meth c cX7_copyPlaces 5 wsX7_copyPlaces RX7 none D (kx_T cA) A) {k0 : Nat} (hk0 : k0 < 3) {k2 : Nat} (hk2 : k2 < 3) {x1 : Int32} {x3 : Int32} {x4 : Int32} {z : kx_S} {o : ((Int32 × Int32 × Int32 × kx_S) ⊕ kx_S)} (h : fc_copyPlaces_3 P k0 k2 x1 x3 x4 z = some o) (kb : ∀ (a0' : Int32) (a1' : Int32) (a2' : Int32) (a3' : kx_S), o = .inl (a0', a1', a2', a3') → kj_J p l e rm_X7_copyPlaces s m args below meth c 0 0 Q 5 D A ((kx_W cA h0 q P) a3') 3 [(0, .ref (q (k0 + 11))), (1, .int a0'), (2, .ref (q (k2 + 11))), (3, .int a1'), (4, .int a2')] []) (ke0 : ∀ (a0' : kx_S), o = .inr a0' → kj_J p l e rm_X7_copyPlaces s m args below meth c 0 0 Q 5 D A ((kx_W cA h0 q P) a0') 27 [] []) : kj_J p l e rm_X7_copyPlaces s m args below meth c 0 0 Q 5 D A ((kx_W cA h0 q P) z) 3 [(0, .ref (q (k0 + 11))), (1, .int x1), (2, .ref (q (k2 + 11))), (3, .int x3), (4, .int x4)] [] := by
  unfold fc_copyPlaces_3 at h
  refine kj_iload F dX7_copyPlaces_3 4 rfl ?_
  refine kj_iconst F dX7_copyPlaces_5 (v := 4) (by decide) ?_
  refine kj_icmp_ge F dX7_copyPlaces_6 (tgt := 27) (by decide) h (fun hc h => ?_) (fun hc h => ?_)
  · refine kj_J.sub [] rfl ?_
    exact ke0 z (Option.some.inj h).symm
  · refine kj_aload_n F dX7_copyPlaces_9 2 rfl rfl ?_
    refine kj_iload_n F dX7_copyPlaces_10 3 rfl rfl ?_
    refine kj_iload F dX7_copyPlaces_11 4 rfl ?_
    refine kj_iadd F dX7_copyPlaces_13 ?_
    refine kj_aload_n F dX7_copyPlaces_14 0 rfl rfl ?_
    refine kj_iload_n F dX7_copyPlaces_15 1 rfl rfl ?_
    refine kj_iload F dX7_copyPlaces_16 4 rfl ?_
    refine kj_iadd F dX7_copyPlaces_18 ?_
    refine kx_rald F dX7_copyPlaces_19 k0 hk0 h (fun v1 h => ?_)
    refine kx_rast (v := v1) F dX7_copyPlaces_20 k2 hk2 h (fun z2 h => ?_)
    refine kj_iinc F dX7_copyPlaces_21 4 rfl (v := 1) (by decide) (by decide) (lv' := [(4, .int (x4 + 1)), (0, .ref (q (k0 + 11))), (1, .int x1), (2, .ref (q (k2 + 11))), (3, .int x3)]) rfl ?_
    refine kj_goto F dX7_copyPlaces_24 (tgt := 3) (by decide) ?_
    refine kj_J.sub [1, 2, 3, 4, 0] rfl ?_
    exact kb x1 x3 (x4 + 1) z2 (Option.some.inj h).symm
theorem jlc_copyPlaces_3 {p : Program} {l : Launch} {e : Env} {s : State} {m : MethodId} {args : Array Value} {below : List Frame} {meth : Method} {c : Code} {A : Nat → Prop} {D : va_G} {cA : Nat → ClassId} {h0 : Nat} {q : Nat → Nat} {P : va_W} {Q : State → Prop} (F : kj_Fx p s m args meth c cX7_copyPlaces 5 wsX7_copyPlaces RX7 none D (kx_T cA) A) {k0 : Nat} (hk0 : k0 < 3) {k2 : Nat} (hk2 : k2 < 3) {n : Nat} {x1 : Int32} {x3 : Int32} {x4 : Int32} {z : kx_S} {r : kx_S} (h : lc_copyPlaces_3 P k0 k2 n x1 x3 x4 z = some r) (ke : kj_J p l e rm_X7_copyPlaces s m args below meth c 0 0 Q 5 D A ((kx_W cA h0 q P) (r)) 27 [] []) : kj_J p l e rm_X7_copyPlaces s m args below meth c 0 0 Q 5 D A ((kx_W cA h0 q P) z) 3 [(0, .ref (q (k0 + 11))), (1, .int x1), (2, .ref (q (k2 + 11))), (3, .int x3), (4, .int x4)] [] :=
  kj_it_J (Wh := fun (u : (Int32 × Int32 × Int32 × kx_S)) => kj_J p l e rm_X7_copyPlaces s m args below meth c 0 0 Q 5 D A ((kx_W cA h0 q P) (u.2.2.2)) 3 [(0, .ref (q (k0 + 11))), (1, .int (u.1)), (2, .ref (q (k2 + 11))), (3, .int (u.2.1)), (4, .int (u.2.2.1))] []) (We := fun r => kj_J p l e rm_X7_copyPlaces s m args below meth c 0 0 Q 5 D A ((kx_W cA h0 q P) (r)) 27 [] []) (fun u o h kb ke => jc_copyPlaces_3 F hk0 hk2 h (fun a0' a1' a2' a3' e => kb (a0', a1', a2', a3') e) (fun a0' e => ke a0' e)) n (x1, x3, x4, z) r h ke
set_option maxRecDepth 20000 in
theorem jc_copyPlaces {p : Program} {l : Launch} {e : Env} {s : State} {m : MethodId} {args : Array Value} {below : List Frame} {meth : Method} {c : Code} {A : Nat → Prop} {D : va_G} {cA : Nat → ClassId} {h0 : Nat} {q : Nat → Nat} {P : va_W} (F : kj_Fx p s m args meth c cX7_copyPlaces 5 wsX7_copyPlaces RX7 none D (kx_T cA) A) {k0 : Nat} (hk0 : k0 < 3) {k2 : Nat} (hk2 : k2 < 3) {x1 : Int32} {x3 : Int32} {z : kx_S} {o : kx_S} (h : fc_copyPlaces P k0 k2 x1 x3 z = some o) : kj_J p l e rm_X7_copyPlaces s m args below meth c 0 0 (MQ below (kj_Qv D (kx_T cA) A (kx_W cA h0 q P) o) args s 0 0 A) 5 D A ((kx_W cA h0 q P) z) 0 [(0, .ref (q (k0 + 11))), (1, .int x1), (2, .ref (q (k2 + 11))), (3, .int x3)] [] := by
  unfold fc_copyPlaces at h
  refine kj_iconst F dX7_copyPlaces_0 (v := 0) (by decide) ?_
  refine kj_istore F dX7_copyPlaces_1 (lv' := [(4, .int (0 : Int32)), (0, .ref (q (k0 + 11))), (1, .int x1), (2, .ref (q (k2 + 11))), (3, .int x3)]) (by decide) rfl ?_
  refine kj_J.sub [1, 2, 3, 4, 0] rfl ?_
  refine kj_bn h (fun r1 h1 h => ?_)
  refine jlc_copyPlaces_3 F hk0 hk2 h1 ?_
  exact kj_vret F dX7_copyPlaces_27 h
theorem cc_copyPlaces {l : Launch} {D : va_G} {cA : Nat → ClassId} {h0 : Nat} {q : Nat → Nat} {P : va_W} {k0 : Nat} (hk0 : k0 < 3) {k2 : Nat} (hk2 : k2 < 3) {x1 : Int32} {x3 : Int32} {z : kx_S} {o : kx_S} (h : fc_copyPlaces P k0 k2 x1 x3 z = some o) : kj_Mv l yX7_copyPlaces wsX7_copyPlaces rm_X7_copyPlaces D (kx_T cA) (kx_W cA h0 q P) z [.ref (q (k0 + 11)), .int x1, .ref (q (k2 + 11)), .int x3] o :=
  fun sz => kj_start (by decide) rfl (Nat.le_of_ble_eq_true rfl) rfl fun p e s m args below meth c hsz F => jc_copyPlaces F hk0 hk2 h
/-! X7_heapAt -/
abbrev rm_X7_heapAt : Room := { frames := 1, cells := 0, slots := 0, locals := 20 }
theorem in_X7_heapAt_X7 : ∀ w ∈ u_ws RX7 TX7 10, w ∈ wsX7_heapAt := by decide +kernel
def fc_heapAt_17 (P : va_W) (t0 : (Option Nat)) (z : kx_S) : Option (Option Nat × kx_S) :=
  some (t0, z)
def fc_heapAt (P : va_W) (x1 : Int32) (z : kx_S) : Option (Option Nat × kx_S) :=
  (fc_isPlace x1).bind fun o1 =>
  if o1 = 0 then
  fc_heapAt_17 P none z
  else
  (kx_rr z 0 x1).bind fun v2 =>
  fc_heapAt_17 P v2 z
set_option maxRecDepth 20000 in
theorem jc_heapAt_17 {p : Program} {l : Launch} {e : Env} {s : State} {m : MethodId} {args : Array Value} {below : List Frame} {meth : Method} {c : Code} {A : Nat → Prop} {D : va_G} {cA : Nat → ClassId} {h0 : Nat} {q : Nat → Nat} {P : va_W} (F : kj_Fx p s m args meth c cX7_heapAt 2 wsX7_heapAt RX7 (some (.object "CornerHeaps$Heap")) D (kx_T cA) A) {t0 : (Option Nat)} {z : kx_S} {o : (Option Nat × kx_S)} (h : fc_heapAt_17 P t0 z = some o) : kj_J p l e rm_X7_heapAt s m args below meth c 0 0 (MQ below (kj_Qq D (kx_T cA) A (kx_W cA h0 q P) o) args s 0 0 A) 2 D A ((kx_W cA h0 q P) z) 17 [] [va_rf t0] := by
  unfold fc_heapAt_17 at h
  exact kj_aret (v := t0) F dX7_heapAt_17 h
set_option maxRecDepth 20000 in
theorem jc_heapAt {p : Program} {l : Launch} {e : Env} {s : State} {m : MethodId} {args : Array Value} {below : List Frame} {meth : Method} {c : Code} {A : Nat → Prop} {D : va_G} {cA : Nat → ClassId} {h0 : Nat} {q : Nat → Nat} {P : va_W} (F : kj_Fx p s m args meth c cX7_heapAt 2 wsX7_heapAt RX7 (some (.object "CornerHeaps$Heap")) D (kx_T cA) A) {x1 : Int32} {z : kx_S} {o : (Option Nat × kx_S)} (h : fc_heapAt P x1 z = some o) : kj_J p l e rm_X7_heapAt s m args below meth c 0 0 (MQ below (kj_Qq D (kx_T cA) A (kx_W cA h0 q P) o) args s 0 0 A) 2 D A ((kx_W cA h0 q P) z) 0 [(0, .ref h0), (1, .int x1)] [] := by
  unfold fc_heapAt at h
  refine kj_iload_n F dX7_heapAt_0 1 rfl rfl ?_
  refine kj_cSip (As := [.int x1]) (rest := []) F dX7_heapAt_1 h (fun o h1 => cc_isPlace (w := (kx_W cA h0 q P)) h1) (va_cwS 1 F.2.2.2.2.1 gX7_heapAt_X7_isPlace rfl rfl rfl (by decide +kernel) ⟨Nat.le_of_ble_eq_true rfl, Nat.le_of_ble_eq_true rfl⟩) rfl rfl (Nat.le_of_ble_eq_true rfl) ⟨Nat.zero_le _, Nat.zero_le _⟩ (fun o1 h => ?_)
  refine kj_if_eq F dX7_heapAt_4 (tgt := 16) (by decide) h (fun hc h => ?_) (fun hc h => ?_)
  · refine kj_null F dX7_heapAt_16 ?_
    refine kj_J.sub [] rfl ?_
    exact jc_heapAt_17 F h
  · refine kj_aload_n F dX7_heapAt_7 0 rfl rfl ?_
    refine kj_get F dX7_heapAt_8 in_X7_heapAt_X7 0 rfl rfl 1 (by decide) (by decide +kernel) rfl rfl ?_
    refine kj_iload_n F dX7_heapAt_11 1 rfl rfl ?_
    refine kx_rald F dX7_heapAt_12 0 (by decide) h (fun v2 h => ?_)
    refine kj_goto F dX7_heapAt_13 (tgt := 17) (by decide) ?_
    refine kj_J.sub [] rfl ?_
    exact jc_heapAt_17 F h
theorem cc_heapAt {l : Launch} {D : va_G} {cA : Nat → ClassId} {h0 : Nat} {q : Nat → Nat} {P : va_W} {x1 : Int32} {z : kx_S} {o : (Option Nat × kx_S)} (h : fc_heapAt P x1 z = some o) : kj_Mq l yX7_heapAt wsX7_heapAt rm_X7_heapAt D (kx_T cA) (kx_W cA h0 q P) z [.ref h0, .int x1] o :=
  fun sz => kj_start (by decide) rfl (Nat.le_of_ble_eq_true rfl) rfl fun p e s m args below meth c hsz F => jc_heapAt F h
/-! X7_heapsOnPlaces -/
abbrev rm_X7_heapsOnPlaces : Room := { frames := 0, cells := 0, slots := 0, locals := 0 }
theorem in_X7_heapsOnPlaces_X7 : ∀ w ∈ u_ws RX7 TX7 10, w ∈ wsX7_heapsOnPlaces := by decide +kernel
def fc_heapsOnPlaces_21 (P : va_W) (x1 : Int32) (x2 : Int32) (z : kx_S) : Option ((Int32 × Int32 × kx_S) ⊕ (Int32 × kx_S)) :=
  some (.inl (x1, (x2 + 1), z))
def fc_heapsOnPlaces_4 (P : va_W) (x1 : Int32) (x2 : Int32) (z : kx_S) : Option ((Int32 × Int32 × kx_S) ⊕ (Int32 × kx_S)) :=
  if (4 : Int32) ≤ x2 then
  some (.inr (x1, z))
  else
  (kx_rr z 0 x2).bind fun v1 =>
  kx_on v1 (fc_heapsOnPlaces_21 P x1 x2 z) (fun a2 => fc_heapsOnPlaces_21 P (x1 + 1) x2 z)
def lc_heapsOnPlaces_4 (P : va_W) (n : Nat) (x1 : Int32) (x2 : Int32) (z : kx_S) : Option (Int32 × kx_S) :=
  kj_it (fun (s : (Int32 × Int32 × kx_S)) => fc_heapsOnPlaces_4 P (s.1) (s.2.1) (s.2.2)) n (x1, x2, z)
def fc_heapsOnPlaces (P : va_W) (z : kx_S) : Option (Int32 × kx_S) :=
  (lc_heapsOnPlaces_4 P 5000 (0 : Int32) (0 : Int32) z).bind fun r1 =>
  some ((r1.1), (r1.2))
set_option maxRecDepth 20000 in
theorem jc_heapsOnPlaces_21 {p : Program} {l : Launch} {e : Env} {s : State} {m : MethodId} {args : Array Value} {below : List Frame} {meth : Method} {c : Code} {A : Nat → Prop} {D : va_G} {cA : Nat → ClassId} {h0 : Nat} {q : Nat → Nat} {P : va_W} {Q : State → Prop} (F : kj_Fx p s m args meth c cX7_heapsOnPlaces 3 wsX7_heapsOnPlaces RX7 (some .int) D (kx_T cA) A) {x1 : Int32} {x2 : Int32} {z : kx_S} {o : ((Int32 × Int32 × kx_S) ⊕ (Int32 × kx_S))} (h : fc_heapsOnPlaces_21 P x1 x2 z = some o) (kb : ∀ (a0' : Int32) (a1' : Int32) (a2' : kx_S), o = .inl (a0', a1', a2') → kj_J p l e rm_X7_heapsOnPlaces s m args below meth c 0 0 Q 3 D A ((kx_W cA h0 q P) a2') 4 [(0, .ref h0), (1, .int a0'), (2, .int a1')] []) (ke0 : ∀ (a0' : Int32) (a1' : kx_S), o = .inr (a0', a1') → kj_J p l e rm_X7_heapsOnPlaces s m args below meth c 0 0 Q 3 D A ((kx_W cA h0 q P) a1') 27 [(1, .int a0')] []) : kj_J p l e rm_X7_heapsOnPlaces s m args below meth c 0 0 Q 3 D A ((kx_W cA h0 q P) z) 21 [(0, .ref h0), (1, .int x1), (2, .int x2)] [] := by
  unfold fc_heapsOnPlaces_21 at h
  refine kj_iinc F dX7_heapsOnPlaces_21 2 rfl (v := 1) (by decide) (by decide) (lv' := [(2, .int (x2 + 1)), (0, .ref h0), (1, .int x1)]) rfl ?_
  refine kj_goto F dX7_heapsOnPlaces_24 (tgt := 4) (by decide) ?_
  refine kj_J.sub [1, 2, 0] rfl ?_
  exact kb x1 (x2 + 1) z (Option.some.inj h).symm
set_option maxRecDepth 20000 in
theorem jc_heapsOnPlaces_4 {p : Program} {l : Launch} {e : Env} {s : State} {m : MethodId} {args : Array Value} {below : List Frame} {meth : Method} {c : Code} {A : Nat → Prop} {D : va_G} {cA : Nat → ClassId} {h0 : Nat} {q : Nat → Nat} {P : va_W} {Q : State → Prop} (F : kj_Fx p s m args meth c cX7_heapsOnPlaces 3 wsX7_heapsOnPlaces RX7 (some .int) D (kx_T cA) A) {x1 : Int32} {x2 : Int32} {z : kx_S} {o : ((Int32 × Int32 × kx_S) ⊕ (Int32 × kx_S))} (h : fc_heapsOnPlaces_4 P x1 x2 z = some o) (kb : ∀ (a0' : Int32) (a1' : Int32) (a2' : kx_S), o = .inl (a0', a1', a2') → kj_J p l e rm_X7_heapsOnPlaces s m args below meth c 0 0 Q 3 D A ((kx_W cA h0 q P) a2') 4 [(0, .ref h0), (1, .int a0'), (2, .int a1')] []) (ke0 : ∀ (a0' : Int32) (a1' : kx_S), o = .inr (a0', a1') → kj_J p l e rm_X7_heapsOnPlaces s m args below meth c 0 0 Q 3 D A ((kx_W cA h0 q P) a1') 27 [(1, .int a0')] []) : kj_J p l e rm_X7_heapsOnPlaces s m args below meth c 0 0 Q 3 D A ((kx_W cA h0 q P) z) 4 [(0, .ref h0), (1, .int x1), (2, .int x2)] [] := by
  unfold fc_heapsOnPlaces_4 at h
  refine kj_iload_n F dX7_heapsOnPlaces_4 2 rfl rfl ?_
  refine kj_iconst F dX7_heapsOnPlaces_5 (v := 4) (by decide) ?_
  refine kj_icmp_ge F dX7_heapsOnPlaces_6 (tgt := 27) (by decide) h (fun hc h => ?_) (fun hc h => ?_)
  · refine kj_J.sub [1] rfl ?_
    exact ke0 x1 z (Option.some.inj h).symm
  · refine kj_aload_n F dX7_heapsOnPlaces_9 0 rfl rfl ?_
    refine kj_get F dX7_heapsOnPlaces_10 in_X7_heapsOnPlaces_X7 0 rfl rfl 1 (by decide) (by decide +kernel) rfl rfl ?_
    refine kj_iload_n F dX7_heapsOnPlaces_13 2 rfl rfl ?_
    refine kx_rald F dX7_heapsOnPlaces_14 0 (by decide) h (fun v1 h => ?_)
    refine kx_ifnull F dX7_heapsOnPlaces_15 (tgt := 21) (by decide) h (fun e3 h => ?_) (fun a2 e3 h => ?_)
    · exact jc_heapsOnPlaces_21 F h kb ke0
    · refine kj_iinc F dX7_heapsOnPlaces_18 1 rfl (v := 1) (by decide) (by decide) (lv' := [(1, .int (x1 + 1)), (0, .ref h0), (2, .int x2)]) rfl ?_
      refine kj_J.sub [1, 0, 2] rfl ?_
      exact jc_heapsOnPlaces_21 F h kb ke0
theorem jlc_heapsOnPlaces_4 {p : Program} {l : Launch} {e : Env} {s : State} {m : MethodId} {args : Array Value} {below : List Frame} {meth : Method} {c : Code} {A : Nat → Prop} {D : va_G} {cA : Nat → ClassId} {h0 : Nat} {q : Nat → Nat} {P : va_W} {Q : State → Prop} (F : kj_Fx p s m args meth c cX7_heapsOnPlaces 3 wsX7_heapsOnPlaces RX7 (some .int) D (kx_T cA) A) {n : Nat} {x1 : Int32} {x2 : Int32} {z : kx_S} {r : (Int32 × kx_S)} (h : lc_heapsOnPlaces_4 P n x1 x2 z = some r) (ke : kj_J p l e rm_X7_heapsOnPlaces s m args below meth c 0 0 Q 3 D A ((kx_W cA h0 q P) (r.2)) 27 [(1, .int (r.1))] []) : kj_J p l e rm_X7_heapsOnPlaces s m args below meth c 0 0 Q 3 D A ((kx_W cA h0 q P) z) 4 [(0, .ref h0), (1, .int x1), (2, .int x2)] [] :=
  kj_it_J (Wh := fun (u : (Int32 × Int32 × kx_S)) => kj_J p l e rm_X7_heapsOnPlaces s m args below meth c 0 0 Q 3 D A ((kx_W cA h0 q P) (u.2.2)) 4 [(0, .ref h0), (1, .int (u.1)), (2, .int (u.2.1))] []) (We := fun r => kj_J p l e rm_X7_heapsOnPlaces s m args below meth c 0 0 Q 3 D A ((kx_W cA h0 q P) (r.2)) 27 [(1, .int (r.1))] []) (fun u o h kb ke => jc_heapsOnPlaces_4 F h (fun a0' a1' a2' e => kb (a0', a1', a2') e) (fun a0' a1' e => ke (a0', a1') e)) n (x1, x2, z) r h ke
set_option maxRecDepth 20000 in
theorem jc_heapsOnPlaces {p : Program} {l : Launch} {e : Env} {s : State} {m : MethodId} {args : Array Value} {below : List Frame} {meth : Method} {c : Code} {A : Nat → Prop} {D : va_G} {cA : Nat → ClassId} {h0 : Nat} {q : Nat → Nat} {P : va_W} (F : kj_Fx p s m args meth c cX7_heapsOnPlaces 3 wsX7_heapsOnPlaces RX7 (some .int) D (kx_T cA) A) {z : kx_S} {o : (Int32 × kx_S)} (h : fc_heapsOnPlaces P z = some o) : kj_J p l e rm_X7_heapsOnPlaces s m args below meth c 0 0 (MQ below (kj_Qi D (kx_T cA) A (kx_W cA h0 q P) o) args s 0 0 A) 3 D A ((kx_W cA h0 q P) z) 0 [(0, .ref h0)] [] := by
  unfold fc_heapsOnPlaces at h
  refine kj_iconst F dX7_heapsOnPlaces_0 (v := 0) (by decide) ?_
  refine kj_istore_n F dX7_heapsOnPlaces_1 (lv' := [(1, .int (0 : Int32)), (0, .ref h0)]) rfl (by decide) rfl ?_
  refine kj_iconst F dX7_heapsOnPlaces_2 (v := 0) (by decide) ?_
  refine kj_istore_n F dX7_heapsOnPlaces_3 (lv' := [(2, .int (0 : Int32)), (1, .int (0 : Int32)), (0, .ref h0)]) rfl (by decide) rfl ?_
  refine kj_J.sub [2, 1, 0] rfl ?_
  refine kj_bn h (fun r1 h1 h => ?_)
  refine jlc_heapsOnPlaces_4 F h1 ?_
  refine kj_iload_n F dX7_heapsOnPlaces_27 0 rfl rfl ?_
  exact kj_iret F dX7_heapsOnPlaces_28 h
theorem cc_heapsOnPlaces {l : Launch} {D : va_G} {cA : Nat → ClassId} {h0 : Nat} {q : Nat → Nat} {P : va_W} {z : kx_S} {o : (Int32 × kx_S)} (h : fc_heapsOnPlaces P z = some o) : kj_Mi l yX7_heapsOnPlaces wsX7_heapsOnPlaces rm_X7_heapsOnPlaces D (kx_T cA) (kx_W cA h0 q P) z [.ref h0] o :=
  fun sz => kj_start (by decide) rfl (Nat.le_of_ble_eq_true rfl) rfl fun p e s m args below meth c hsz F => jc_heapsOnPlaces F h
/-! X7_volumeOnPlaces -/
abbrev rm_X7_volumeOnPlaces : Room := { frames := 2, cells := 0, slots := 0, locals := 43 }
theorem in_X7_volumeOnPlaces_X7 : ∀ w ∈ u_ws RX7 TX7 10, w ∈ wsX7_volumeOnPlaces := by decide +kernel
def fc_volumeOnPlaces_27 (P : va_W) (x1 : Int32) (x2 : Int32) (z : kx_S) : Option ((Int32 × Int32 × kx_S) ⊕ (Int32 × kx_S)) :=
  some (.inl (x1, (x2 + 1), z))
def fc_volumeOnPlaces_4 (P : va_W) (x1 : Int32) (x2 : Int32) (z : kx_S) : Option ((Int32 × Int32 × kx_S) ⊕ (Int32 × kx_S)) :=
  if (4 : Int32) ≤ x2 then
  some (.inr (x1, z))
  else
  (kx_rr z 0 x2).bind fun v1 =>
  kx_on v1 (fc_volumeOnPlaces_27 P x1 x2 z) (fun a2 => (kx_hp P a2).bind fun u4 =>
  (fh_volume u4.2).bind fun o7 =>
  fc_volumeOnPlaces_27 P (x1 + o7) x2 z)
def lc_volumeOnPlaces_4 (P : va_W) (n : Nat) (x1 : Int32) (x2 : Int32) (z : kx_S) : Option (Int32 × kx_S) :=
  kj_it (fun (s : (Int32 × Int32 × kx_S)) => fc_volumeOnPlaces_4 P (s.1) (s.2.1) (s.2.2)) n (x1, x2, z)
def fc_volumeOnPlaces (P : va_W) (z : kx_S) : Option (Int32 × kx_S) :=
  (lc_volumeOnPlaces_4 P 5000 (0 : Int32) (0 : Int32) z).bind fun r1 =>
  some ((r1.1), (r1.2))
set_option maxRecDepth 20000 in
theorem jc_volumeOnPlaces_27 {p : Program} {l : Launch} {e : Env} {s : State} {m : MethodId} {args : Array Value} {below : List Frame} {meth : Method} {c : Code} {A : Nat → Prop} {D : va_G} {cA : Nat → ClassId} {h0 : Nat} {q : Nat → Nat} {P : va_W} {Q : State → Prop} (F : kj_Fx p s m args meth c cX7_volumeOnPlaces 4 wsX7_volumeOnPlaces RX7 (some .int) D (kx_T cA) A) {x1 : Int32} {x2 : Int32} {z : kx_S} {o : ((Int32 × Int32 × kx_S) ⊕ (Int32 × kx_S))} (h : fc_volumeOnPlaces_27 P x1 x2 z = some o) (kb : ∀ (a0' : Int32) (a1' : Int32) (a2' : kx_S), o = .inl (a0', a1', a2') → kj_J p l e rm_X7_volumeOnPlaces s m args below meth c 0 0 Q 4 D A ((kx_W cA h0 q P) a2') 4 [(0, .ref h0), (1, .int a0'), (2, .int a1')] []) (ke0 : ∀ (a0' : Int32) (a1' : kx_S), o = .inr (a0', a1') → kj_J p l e rm_X7_volumeOnPlaces s m args below meth c 0 0 Q 4 D A ((kx_W cA h0 q P) a1') 33 [(1, .int a0')] []) : kj_J p l e rm_X7_volumeOnPlaces s m args below meth c 0 0 Q 4 D A ((kx_W cA h0 q P) z) 27 [(0, .ref h0), (1, .int x1), (2, .int x2)] [] := by
  unfold fc_volumeOnPlaces_27 at h
  refine kj_iinc F dX7_volumeOnPlaces_27 2 rfl (v := 1) (by decide) (by decide) (lv' := [(2, .int (x2 + 1)), (0, .ref h0), (1, .int x1)]) rfl ?_
  refine kj_goto F dX7_volumeOnPlaces_30 (tgt := 4) (by decide) ?_
  refine kj_J.sub [1, 2, 0] rfl ?_
  exact kb x1 (x2 + 1) z (Option.some.inj h).symm
set_option maxRecDepth 20000 in
theorem jc_volumeOnPlaces_4 {p : Program} {l : Launch} {e : Env} {s : State} {m : MethodId} {args : Array Value} {below : List Frame} {meth : Method} {c : Code} {A : Nat → Prop} {D : va_G} {cA : Nat → ClassId} {h0 : Nat} {q : Nat → Nat} {P : va_W} {Q : State → Prop} (F : kj_Fx p s m args meth c cX7_volumeOnPlaces 4 wsX7_volumeOnPlaces RX7 (some .int) D (kx_T cA) A) {x1 : Int32} {x2 : Int32} {z : kx_S} {o : ((Int32 × Int32 × kx_S) ⊕ (Int32 × kx_S))} (h : fc_volumeOnPlaces_4 P x1 x2 z = some o) (kb : ∀ (a0' : Int32) (a1' : Int32) (a2' : kx_S), o = .inl (a0', a1', a2') → kj_J p l e rm_X7_volumeOnPlaces s m args below meth c 0 0 Q 4 D A ((kx_W cA h0 q P) a2') 4 [(0, .ref h0), (1, .int a0'), (2, .int a1')] []) (ke0 : ∀ (a0' : Int32) (a1' : kx_S), o = .inr (a0', a1') → kj_J p l e rm_X7_volumeOnPlaces s m args below meth c 0 0 Q 4 D A ((kx_W cA h0 q P) a1') 33 [(1, .int a0')] []) : kj_J p l e rm_X7_volumeOnPlaces s m args below meth c 0 0 Q 4 D A ((kx_W cA h0 q P) z) 4 [(0, .ref h0), (1, .int x1), (2, .int x2)] [] := by
  unfold fc_volumeOnPlaces_4 at h
  refine kj_iload_n F dX7_volumeOnPlaces_4 2 rfl rfl ?_
  refine kj_iconst F dX7_volumeOnPlaces_5 (v := 4) (by decide) ?_
  refine kj_icmp_ge F dX7_volumeOnPlaces_6 (tgt := 33) (by decide) h (fun hc h => ?_) (fun hc h => ?_)
  · refine kj_J.sub [1] rfl ?_
    exact ke0 x1 z (Option.some.inj h).symm
  · refine kj_aload_n F dX7_volumeOnPlaces_9 0 rfl rfl ?_
    refine kj_get F dX7_volumeOnPlaces_10 in_X7_volumeOnPlaces_X7 0 rfl rfl 1 (by decide) (by decide +kernel) rfl rfl ?_
    refine kj_iload_n F dX7_volumeOnPlaces_13 2 rfl rfl ?_
    refine kx_rald F dX7_volumeOnPlaces_14 0 (by decide) h (fun v1 h => ?_)
    refine kj_astoreq_n F dX7_volumeOnPlaces_15 (lv' := [(3, va_rf v1), (0, .ref h0), (1, .int x1), (2, .int x2)]) rfl (by decide) rfl ?_
    refine kj_aloadq_n F dX7_volumeOnPlaces_16 0 rfl rfl ?_
    refine kx_ifnull F dX7_volumeOnPlaces_17 (tgt := 27) (by decide) h (fun e3 h => ?_) (fun a2 e3 h => ?_)
    · refine kj_J.sub [1, 2, 3] rfl ?_
      exact jc_volumeOnPlaces_27 F h kb ke0
    · refine kj_iload_n F dX7_volumeOnPlaces_20 2 rfl rfl ?_
      refine kj_aloadq_n F dX7_volumeOnPlaces_21 0 rfl rfl ?_
      refine kj_deref e3 ?_
      refine kj_bn h (fun u4 hu5 h => ?_)
      obtain ⟨iu6, hu5⟩ := kx_hp_at hu5
      refine kj_cVip (As := []) (rest := [.int x1]) F dX7_volumeOnPlaces_22 h (fun o h1 => ch_volume (w := (kx_W cA h0 q P)) (kx_pool hu5) h1) (cwV 0 F.2.2.2.2.1 gX7_volumeOnPlaces_X1_volume rfl rfl rfl (by decide +kernel) ⟨Nat.le_of_ble_eq_true rfl, Nat.le_of_ble_eq_true rfl⟩) _ (kx_pool hu5) rfl rfl rfl rfl (Nat.le_of_ble_eq_true rfl) ⟨Nat.zero_le _, Nat.zero_le _⟩ (fun o7 h => ?_)
      refine kj_iadd F dX7_volumeOnPlaces_25 ?_
      refine kj_istore_n F dX7_volumeOnPlaces_26 (lv' := [(1, .int (x1 + o7)), (3, va_rf v1), (0, .ref h0), (2, .int x2)]) rfl (by decide) rfl ?_
      refine kj_J.sub [2, 0, 3] rfl ?_
      exact jc_volumeOnPlaces_27 F h kb ke0
theorem jlc_volumeOnPlaces_4 {p : Program} {l : Launch} {e : Env} {s : State} {m : MethodId} {args : Array Value} {below : List Frame} {meth : Method} {c : Code} {A : Nat → Prop} {D : va_G} {cA : Nat → ClassId} {h0 : Nat} {q : Nat → Nat} {P : va_W} {Q : State → Prop} (F : kj_Fx p s m args meth c cX7_volumeOnPlaces 4 wsX7_volumeOnPlaces RX7 (some .int) D (kx_T cA) A) {n : Nat} {x1 : Int32} {x2 : Int32} {z : kx_S} {r : (Int32 × kx_S)} (h : lc_volumeOnPlaces_4 P n x1 x2 z = some r) (ke : kj_J p l e rm_X7_volumeOnPlaces s m args below meth c 0 0 Q 4 D A ((kx_W cA h0 q P) (r.2)) 33 [(1, .int (r.1))] []) : kj_J p l e rm_X7_volumeOnPlaces s m args below meth c 0 0 Q 4 D A ((kx_W cA h0 q P) z) 4 [(0, .ref h0), (1, .int x1), (2, .int x2)] [] :=
  kj_it_J (Wh := fun (u : (Int32 × Int32 × kx_S)) => kj_J p l e rm_X7_volumeOnPlaces s m args below meth c 0 0 Q 4 D A ((kx_W cA h0 q P) (u.2.2)) 4 [(0, .ref h0), (1, .int (u.1)), (2, .int (u.2.1))] []) (We := fun r => kj_J p l e rm_X7_volumeOnPlaces s m args below meth c 0 0 Q 4 D A ((kx_W cA h0 q P) (r.2)) 33 [(1, .int (r.1))] []) (fun u o h kb ke => jc_volumeOnPlaces_4 F h (fun a0' a1' a2' e => kb (a0', a1', a2') e) (fun a0' a1' e => ke (a0', a1') e)) n (x1, x2, z) r h ke
set_option maxRecDepth 20000 in
theorem jc_volumeOnPlaces {p : Program} {l : Launch} {e : Env} {s : State} {m : MethodId} {args : Array Value} {below : List Frame} {meth : Method} {c : Code} {A : Nat → Prop} {D : va_G} {cA : Nat → ClassId} {h0 : Nat} {q : Nat → Nat} {P : va_W} (F : kj_Fx p s m args meth c cX7_volumeOnPlaces 4 wsX7_volumeOnPlaces RX7 (some .int) D (kx_T cA) A) {z : kx_S} {o : (Int32 × kx_S)} (h : fc_volumeOnPlaces P z = some o) : kj_J p l e rm_X7_volumeOnPlaces s m args below meth c 0 0 (MQ below (kj_Qi D (kx_T cA) A (kx_W cA h0 q P) o) args s 0 0 A) 4 D A ((kx_W cA h0 q P) z) 0 [(0, .ref h0)] [] := by
  unfold fc_volumeOnPlaces at h
  refine kj_iconst F dX7_volumeOnPlaces_0 (v := 0) (by decide) ?_
  refine kj_istore_n F dX7_volumeOnPlaces_1 (lv' := [(1, .int (0 : Int32)), (0, .ref h0)]) rfl (by decide) rfl ?_
  refine kj_iconst F dX7_volumeOnPlaces_2 (v := 0) (by decide) ?_
  refine kj_istore_n F dX7_volumeOnPlaces_3 (lv' := [(2, .int (0 : Int32)), (1, .int (0 : Int32)), (0, .ref h0)]) rfl (by decide) rfl ?_
  refine kj_J.sub [2, 1, 0] rfl ?_
  refine kj_bn h (fun r1 h1 h => ?_)
  refine jlc_volumeOnPlaces_4 F h1 ?_
  refine kj_iload_n F dX7_volumeOnPlaces_33 0 rfl rfl ?_
  exact kj_iret F dX7_volumeOnPlaces_34 h
theorem cc_volumeOnPlaces {l : Launch} {D : va_G} {cA : Nat → ClassId} {h0 : Nat} {q : Nat → Nat} {P : va_W} {z : kx_S} {o : (Int32 × kx_S)} (h : fc_volumeOnPlaces P z = some o) : kj_Mi l yX7_volumeOnPlaces wsX7_volumeOnPlaces rm_X7_volumeOnPlaces D (kx_T cA) (kx_W cA h0 q P) z [.ref h0] o :=
  fun sz => kj_start (by decide) rfl (Nat.le_of_ble_eq_true rfl) rfl fun p e s m args below meth c hsz F => jc_volumeOnPlaces F h
/-! X7_height -/
abbrev rm_X7_height : Room := { frames := 2, cells := 0, slots := 0, locals := 41 }
theorem in_X7_height_X1 : ∀ w ∈ u_ws RX1 TX1 2, w ∈ wsX7_height := by decide +kernel
def fc_height (P : va_W) (x1 : Int32) (x2 : Int32) (x3 : Int32) (z : kx_S) : Option (Int32 × kx_S) :=
  (fc_heapAt P x1 z).bind fun o1 =>
  kx_on (o1.1) (some (((-1000001) : Int32), (o1.2))) (fun a2 => (kx_hp P a2).bind fun v4 =>
  (kx_bx P (v4.1)).bind fun u5 =>
  (fx_hasCell u5.1 u5.2.1 u5.2.2 x2 x3).bind fun o8 =>
  if o8 = 0 then
  some (((-1000001) : Int32), (o1.2))
  else
  (kx_hp P a2).bind fun v9 =>
  (kx_hp P a2).bind fun v10 =>
  (kx_bx P (v9.1)).bind fun u11 =>
  (fx_level u11.1 u11.2.1 u11.2.2 (v10.2) x2 x3).bind fun o14 =>
  some (o14, (o1.2)))
set_option maxRecDepth 20000 in
theorem jc_height {p : Program} {l : Launch} {e : Env} {s : State} {m : MethodId} {args : Array Value} {below : List Frame} {meth : Method} {c : Code} {A : Nat → Prop} {D : va_G} {cA : Nat → ClassId} {h0 : Nat} {q : Nat → Nat} {P : va_W} (F : kj_Fx p s m args meth c cX7_height 5 wsX7_height RX7 (some .int) D (kx_T cA) A) {x1 : Int32} {x2 : Int32} {x3 : Int32} {z : kx_S} {o : (Int32 × kx_S)} (h : fc_height P x1 x2 x3 z = some o) : kj_J p l e rm_X7_height s m args below meth c 0 0 (MQ below (kj_Qi D (kx_T cA) A (kx_W cA h0 q P) o) args s 0 0 A) 5 D A ((kx_W cA h0 q P) z) 0 [(0, .ref h0), (1, .int x1), (2, .int x2), (3, .int x3)] [] := by
  unfold fc_height at h
  refine kj_aload_n F dX7_height_0 0 rfl rfl ?_
  refine kj_iload_n F dX7_height_1 1 rfl rfl ?_
  refine kj_cVq (As := [.int x1]) (rest := []) F dX7_height_2 h (fun o h1 => cc_heapAt h1) (cwV 1 F.2.2.2.2.1 gX7_height_X7_heapAt rfl rfl rfl (by decide +kernel) ⟨Nat.le_of_ble_eq_true rfl, Nat.le_of_ble_eq_true rfl⟩) 0 rfl rfl rfl rfl rfl (Nat.le_of_ble_eq_true rfl) ⟨Nat.zero_le _, Nat.zero_le _⟩ (fun o1 h => ?_)
  refine kj_astoreq F dX7_height_5 (lv' := [(4, va_rf (o1.1)), (0, .ref h0), (1, .int x1), (2, .int x2), (3, .int x3)]) (by decide) rfl ?_
  refine kj_aloadq F dX7_height_7 0 rfl ?_
  refine kx_ifnull F dX7_height_9 (tgt := 25) (by decide) h (fun e3 h => ?_) (fun a2 e3 h => ?_)
  · refine kj_ldc F dX7_height_25 (v := (-1000001)) (by decide +kernel) ?_
    exact kj_iret F dX7_height_27 h
  · refine kj_aloadq F dX7_height_12 0 rfl ?_
    refine kj_deref e3 ?_
    refine kx_gbox F dX7_height_14 in_X7_height_X1 (by decide +kernel) h (fun v4 h => ?_)
    refine kj_iload_n F dX7_height_17 3 rfl rfl ?_
    refine kj_iload_n F dX7_height_18 4 rfl rfl ?_
    refine kj_bn h (fun u5 hu6 h => ?_)
    obtain ⟨iu7, hu6⟩ := kx_bx_at hu6
    refine kj_cVip (As := [.int x2, .int x3]) (rest := []) F dX7_height_19 h (fun o h1 => cx_hasCell (w := (kx_W cA h0 q P)) (kx_pool hu6) h1) (cwV 2 F.2.2.2.2.1 gX7_height_X0_hasCell rfl rfl rfl (by decide +kernel) ⟨Nat.le_of_ble_eq_true rfl, Nat.le_of_ble_eq_true rfl⟩) _ (kx_pool hu6) rfl rfl rfl rfl (Nat.le_of_ble_eq_true rfl) ⟨Nat.zero_le _, Nat.zero_le _⟩ (fun o8 h => ?_)
    refine kj_if_ne F dX7_height_22 (tgt := 28) (by decide) h (fun hc h => ?_) (fun hc h => ?_)
    · refine kj_ldc F dX7_height_25 (v := (-1000001)) (by decide +kernel) ?_
      exact kj_iret F dX7_height_27 h
    · refine kj_aloadq F dX7_height_28 0 rfl ?_
      refine kj_deref e3 ?_
      refine kx_gbox F dX7_height_30 in_X7_height_X1 (by decide +kernel) h (fun v9 h => ?_)
      refine kj_aloadq F dX7_height_33 0 rfl ?_
      refine kj_deref e3 ?_
      refine kx_gcubes F dX7_height_35 in_X7_height_X1 (by decide +kernel) h (fun v10 h => ?_)
      refine kj_iload_n F dX7_height_38 3 rfl rfl ?_
      refine kj_iload_n F dX7_height_39 4 rfl rfl ?_
      refine kj_bn h (fun u11 hu12 h => ?_)
      obtain ⟨iu13, hu12⟩ := kx_bx_at hu12
      refine kj_cVip (As := [.long (v10.2), .int x2, .int x3]) (rest := []) F dX7_height_40 h (fun o h1 => cx_level (w := (kx_W cA h0 q P)) (kx_pool hu12) h1) (cwV 3 F.2.2.2.2.1 gX7_height_X0_level rfl rfl rfl (by decide +kernel) ⟨Nat.le_of_ble_eq_true rfl, Nat.le_of_ble_eq_true rfl⟩) _ (kx_pool hu12) rfl rfl rfl rfl (Nat.le_of_ble_eq_true rfl) ⟨Nat.zero_le _, Nat.zero_le _⟩ (fun o14 h => ?_)
      exact kj_iret F dX7_height_43 h
theorem cc_height {l : Launch} {D : va_G} {cA : Nat → ClassId} {h0 : Nat} {q : Nat → Nat} {P : va_W} {x1 : Int32} {x2 : Int32} {x3 : Int32} {z : kx_S} {o : (Int32 × kx_S)} (h : fc_height P x1 x2 x3 z = some o) : kj_Mi l yX7_height wsX7_height rm_X7_height D (kx_T cA) (kx_W cA h0 q P) z [.ref h0, .int x1, .int x2, .int x3] o :=
  fun sz => kj_start (by decide) rfl (Nat.le_of_ble_eq_true rfl) rfl fun p e s m args below meth c hsz F => jc_height F h
/-! X7_path -/
abbrev rm_X7_path : Room := { frames := 3, cells := 0, slots := 0, locals := 76 }
theorem in_X7_path_X0 : ∀ w ∈ u_ws RX0 TX0 3, w ∈ wsX7_path := by decide +kernel
theorem in_X7_path_X1 : ∀ w ∈ u_ws RX1 TX1 2, w ∈ wsX7_path := by decide +kernel
def fc_path (P : va_W) (x1 : Int32) (x2 : Int32) (x3 : Int32) (z : kx_S) : Option (Int32 × kx_S) :=
  (fc_heapAt P x1 z).bind fun o1 =>
  kx_on (o1.1) (some (((-1000001) : Int32), (o1.2))) (fun a2 => if x2 < 0 then
  some (((-1000001) : Int32), (o1.2))
  else
  (kx_hp P a2).bind fun v4 =>
  (kx_bx P (v4.1)).bind fun v5 =>
  if (v5.1) ≤ x2 then
  some (((-1000001) : Int32), (o1.2))
  else
  if 0 ≤ x3 then
  (kx_hp P a2).bind fun v6 =>
  (kx_hp P a2).bind fun v7 =>
  (kx_bx P (v6.1)).bind fun u8 =>
  (fx_letter u8.1 u8.2.1 u8.2.2 (v7.2) x2 x3).bind fun o11 =>
  some (o11, (o1.2))
  else
  some (((-1000001) : Int32), (o1.2)))
set_option maxRecDepth 20000 in
theorem jc_path {p : Program} {l : Launch} {e : Env} {s : State} {m : MethodId} {args : Array Value} {below : List Frame} {meth : Method} {c : Code} {A : Nat → Prop} {D : va_G} {cA : Nat → ClassId} {h0 : Nat} {q : Nat → Nat} {P : va_W} (F : kj_Fx p s m args meth c cX7_path 5 wsX7_path RX7 (some .int) D (kx_T cA) A) {x1 : Int32} {x2 : Int32} {x3 : Int32} {z : kx_S} {o : (Int32 × kx_S)} (h : fc_path P x1 x2 x3 z = some o) : kj_J p l e rm_X7_path s m args below meth c 0 0 (MQ below (kj_Qi D (kx_T cA) A (kx_W cA h0 q P) o) args s 0 0 A) 5 D A ((kx_W cA h0 q P) z) 0 [(0, .ref h0), (1, .int x1), (2, .int x2), (3, .int x3)] [] := by
  unfold fc_path at h
  refine kj_aload_n F dX7_path_0 0 rfl rfl ?_
  refine kj_iload_n F dX7_path_1 1 rfl rfl ?_
  refine kj_cVq (As := [.int x1]) (rest := []) F dX7_path_2 h (fun o h1 => cc_heapAt h1) (cwV 1 F.2.2.2.2.1 gX7_path_X7_heapAt rfl rfl rfl (by decide +kernel) ⟨Nat.le_of_ble_eq_true rfl, Nat.le_of_ble_eq_true rfl⟩) 0 rfl rfl rfl rfl rfl (Nat.le_of_ble_eq_true rfl) ⟨Nat.zero_le _, Nat.zero_le _⟩ (fun o1 h => ?_)
  refine kj_astoreq F dX7_path_5 (lv' := [(4, va_rf (o1.1)), (0, .ref h0), (1, .int x1), (2, .int x2), (3, .int x3)]) (by decide) rfl ?_
  refine kj_aloadq F dX7_path_7 0 rfl ?_
  refine kx_ifnull F dX7_path_9 (tgt := 32) (by decide) h (fun e3 h => ?_) (fun a2 e3 h => ?_)
  · refine kj_ldc F dX7_path_32 (v := (-1000001)) (by decide +kernel) ?_
    exact kj_iret F dX7_path_34 h
  · refine kj_iload_n F dX7_path_12 3 rfl rfl ?_
    refine kj_if_lt F dX7_path_13 (tgt := 32) (by decide) h (fun hc h => ?_) (fun hc h => ?_)
    · refine kj_ldc F dX7_path_32 (v := (-1000001)) (by decide +kernel) ?_
      exact kj_iret F dX7_path_34 h
    · refine kj_iload_n F dX7_path_16 3 rfl rfl ?_
      refine kj_aloadq F dX7_path_17 0 rfl ?_
      refine kj_deref e3 ?_
      refine kx_gbox F dX7_path_19 in_X7_path_X1 (by decide +kernel) h (fun v4 h => ?_)
      refine kx_gba F dX7_path_22 in_X7_path_X0 (by decide +kernel) h (fun v5 h => ?_)
      refine kj_icmp_ge F dX7_path_25 (tgt := 32) (by decide) h (fun hc h => ?_) (fun hc h => ?_)
      · refine kj_ldc F dX7_path_32 (v := (-1000001)) (by decide +kernel) ?_
        exact kj_iret F dX7_path_34 h
      · refine kj_iload_n F dX7_path_28 4 rfl rfl ?_
        refine kj_if_ge F dX7_path_29 (tgt := 35) (by decide) h (fun hc h => ?_) (fun hc h => ?_)
        · refine kj_aloadq F dX7_path_35 0 rfl ?_
          refine kj_deref e3 ?_
          refine kx_gbox F dX7_path_37 in_X7_path_X1 (by decide +kernel) h (fun v6 h => ?_)
          refine kj_aloadq F dX7_path_40 0 rfl ?_
          refine kj_deref e3 ?_
          refine kx_gcubes F dX7_path_42 in_X7_path_X1 (by decide +kernel) h (fun v7 h => ?_)
          refine kj_iload_n F dX7_path_45 3 rfl rfl ?_
          refine kj_iload_n F dX7_path_46 4 rfl rfl ?_
          refine kj_bn h (fun u8 hu9 h => ?_)
          obtain ⟨iu10, hu9⟩ := kx_bx_at hu9
          refine kj_cVip (As := [.long (v7.2), .int x2, .int x3]) (rest := []) F dX7_path_47 h (fun o h1 => cx_letter (w := (kx_W cA h0 q P)) (kx_pool hu9) h1) (cwV 3 F.2.2.2.2.1 gX7_path_X0_letter rfl rfl rfl (by decide +kernel) ⟨Nat.le_of_ble_eq_true rfl, Nat.le_of_ble_eq_true rfl⟩) _ (kx_pool hu9) rfl rfl rfl rfl (Nat.le_of_ble_eq_true rfl) ⟨Nat.zero_le _, Nat.zero_le _⟩ (fun o11 h => ?_)
          exact kj_iret F dX7_path_50 h
        · refine kj_ldc F dX7_path_32 (v := (-1000001)) (by decide +kernel) ?_
          exact kj_iret F dX7_path_34 h
theorem cc_path {l : Launch} {D : va_G} {cA : Nat → ClassId} {h0 : Nat} {q : Nat → Nat} {P : va_W} {x1 : Int32} {x2 : Int32} {x3 : Int32} {z : kx_S} {o : (Int32 × kx_S)} (h : fc_path P x1 x2 x3 z = some o) : kj_Mi l yX7_path wsX7_path rm_X7_path D (kx_T cA) (kx_W cA h0 q P) z [.ref h0, .int x1, .int x2, .int x3] o :=
  fun sz => kj_start (by decide) rfl (Nat.le_of_ble_eq_true rfl) rfl fun p e s m args below meth c hsz F => jc_path F h
/-! X7_slice -/
abbrev rm_X7_slice : Room := { frames := 2, cells := 0, slots := 0, locals := 41 }
theorem in_X7_slice_X0 : ∀ w ∈ u_ws RX0 TX0 3, w ∈ wsX7_slice := by decide +kernel
theorem in_X7_slice_X1 : ∀ w ∈ u_ws RX1 TX1 2, w ∈ wsX7_slice := by decide +kernel
def fc_slice (P : va_W) (x1 : Int32) (x2 : Int32) (x3 : Int32) (z : kx_S) : Option (Int32 × kx_S) :=
  (fc_heapAt P x1 z).bind fun o1 =>
  kx_on (o1.1) (some (((-1000001) : Int32), (o1.2))) (fun a2 => (kx_hp P a2).bind fun v4 =>
  (kx_bx P (v4.1)).bind fun v5 =>
  if x2 < ((1 : Int32) - (v5.1)) then
  some (((-1000001) : Int32), (o1.2))
  else
  (kx_hp P a2).bind fun v6 =>
  (kx_bx P (v6.1)).bind fun v7 =>
  if ((v7.2.1) - (1 : Int32)) < x2 then
  some (((-1000001) : Int32), (o1.2))
  else
  if 0 ≤ x3 then
  if x3 < (4 : Int32) then
  (kx_hp P a2).bind fun v8 =>
  (kx_bx P (v8.1)).bind fun u9 =>
  (fx_hasCell u9.1 u9.2.1 u9.2.2 ((if (0 : Int32) < (-x2) then (-x2) else (0 : Int32)) + x3) (((if (0 : Int32) < (-x2) then (-x2) else (0 : Int32)) + x3) + x2)).bind fun o12 =>
  if o12 = 0 then
  some (((-1000000) : Int32), (o1.2))
  else
  (kx_hp P a2).bind fun v13 =>
  (kx_hp P a2).bind fun v14 =>
  (kx_bx P (v13.1)).bind fun u15 =>
  (fx_level u15.1 u15.2.1 u15.2.2 (v14.2) ((if (0 : Int32) < (-x2) then (-x2) else (0 : Int32)) + x3) (((if (0 : Int32) < (-x2) then (-x2) else (0 : Int32)) + x3) + x2)).bind fun o18 =>
  some (o18, (o1.2))
  else
  some (((-1000000) : Int32), (o1.2))
  else
  some (((-1000001) : Int32), (o1.2)))
set_option maxRecDepth 20000 in
theorem jc_slice {p : Program} {l : Launch} {e : Env} {s : State} {m : MethodId} {args : Array Value} {below : List Frame} {meth : Method} {c : Code} {A : Nat → Prop} {D : va_G} {cA : Nat → ClassId} {h0 : Nat} {q : Nat → Nat} {P : va_W} (F : kj_Fx p s m args meth c cX7_slice 6 wsX7_slice RX7 (some .int) D (kx_T cA) A) {x1 : Int32} {x2 : Int32} {x3 : Int32} {z : kx_S} {o : (Int32 × kx_S)} (h : fc_slice P x1 x2 x3 z = some o) : kj_J p l e rm_X7_slice s m args below meth c 0 0 (MQ below (kj_Qi D (kx_T cA) A (kx_W cA h0 q P) o) args s 0 0 A) 6 D A ((kx_W cA h0 q P) z) 0 [(0, .ref h0), (1, .int x1), (2, .int x2), (3, .int x3)] [] := by
  unfold fc_slice at h
  refine kj_aload_n F dX7_slice_0 0 rfl rfl ?_
  refine kj_iload_n F dX7_slice_1 1 rfl rfl ?_
  refine kj_cVq (As := [.int x1]) (rest := []) F dX7_slice_2 h (fun o h1 => cc_heapAt h1) (cwV 1 F.2.2.2.2.1 gX7_slice_X7_heapAt rfl rfl rfl (by decide +kernel) ⟨Nat.le_of_ble_eq_true rfl, Nat.le_of_ble_eq_true rfl⟩) 0 rfl rfl rfl rfl rfl (Nat.le_of_ble_eq_true rfl) ⟨Nat.zero_le _, Nat.zero_le _⟩ (fun o1 h => ?_)
  refine kj_astoreq F dX7_slice_5 (lv' := [(4, va_rf (o1.1)), (0, .ref h0), (1, .int x1), (2, .int x2), (3, .int x3)]) (by decide) rfl ?_
  refine kj_aloadq F dX7_slice_7 0 rfl ?_
  refine kx_ifnull F dX7_slice_9 (tgt := 44) (by decide) h (fun e3 h => ?_) (fun a2 e3 h => ?_)
  · refine kj_ldc F dX7_slice_44 (v := (-1000001)) (by decide +kernel) ?_
    exact kj_iret F dX7_slice_46 h
  · refine kj_iload_n F dX7_slice_12 3 rfl rfl ?_
    refine kj_iconst F dX7_slice_13 (v := 1) (by decide) ?_
    refine kj_aloadq F dX7_slice_14 0 rfl ?_
    refine kj_deref e3 ?_
    refine kx_gbox F dX7_slice_16 in_X7_slice_X1 (by decide +kernel) h (fun v4 h => ?_)
    refine kx_gba F dX7_slice_19 in_X7_slice_X0 (by decide +kernel) h (fun v5 h => ?_)
    refine kj_isub F dX7_slice_22 ?_
    refine kj_icmp_lt F dX7_slice_23 (tgt := 44) (by decide) h (fun hc h => ?_) (fun hc h => ?_)
    · refine kj_ldc F dX7_slice_44 (v := (-1000001)) (by decide +kernel) ?_
      exact kj_iret F dX7_slice_46 h
    · refine kj_iload_n F dX7_slice_26 3 rfl rfl ?_
      refine kj_aloadq F dX7_slice_27 0 rfl ?_
      refine kj_deref e3 ?_
      refine kx_gbox F dX7_slice_29 in_X7_slice_X1 (by decide +kernel) h (fun v6 h => ?_)
      refine kx_gbb F dX7_slice_32 in_X7_slice_X0 (by decide +kernel) h (fun v7 h => ?_)
      refine kj_iconst F dX7_slice_35 (v := 1) (by decide) ?_
      refine kj_isub F dX7_slice_36 ?_
      refine kj_icmp_gt F dX7_slice_37 (tgt := 44) (by decide) h (fun hc h => ?_) (fun hc h => ?_)
      · refine kj_ldc F dX7_slice_44 (v := (-1000001)) (by decide +kernel) ?_
        exact kj_iret F dX7_slice_46 h
      · refine kj_iload_n F dX7_slice_40 4 rfl rfl ?_
        refine kj_if_ge F dX7_slice_41 (tgt := 47) (by decide) h (fun hc h => ?_) (fun hc h => ?_)
        · refine kj_iload_n F dX7_slice_47 4 rfl rfl ?_
          refine kj_iconst F dX7_slice_48 (v := 4) (by decide) ?_
          refine kj_icmp_lt F dX7_slice_49 (tgt := 55) (by decide) h (fun hc h => ?_) (fun hc h => ?_)
          · refine kj_iconst F dX7_slice_55 (v := 0) (by decide) ?_
            refine kj_iload_n F dX7_slice_56 3 rfl rfl ?_
            refine kj_ineg F dX7_slice_57 ?_
            refine kj_mmax F dX7_slice_58 (by decide +kernel) (by decide +kernel) (by decide +kernel) (by decide +kernel) (Nat.le_of_ble_eq_true rfl) (Nat.le_of_ble_eq_true rfl) ⟨Nat.zero_le _, Nat.zero_le _⟩ ?_
            refine kj_iload_n F dX7_slice_61 4 rfl rfl ?_
            refine kj_iadd F dX7_slice_62 ?_
            refine kj_istore F dX7_slice_63 (lv' := [(5, .int ((if (0 : Int32) < (-x2) then (-x2) else (0 : Int32)) + x3)), (4, va_rf (o1.1)), (0, .ref h0), (1, .int x1), (2, .int x2), (3, .int x3)]) (by decide) (by simp [kj_cat]) ?_
            refine kj_aloadq F dX7_slice_65 1 rfl ?_
            refine kj_deref e3 ?_
            refine kx_gbox F dX7_slice_67 in_X7_slice_X1 (by decide +kernel) h (fun v8 h => ?_)
            refine kj_iload F dX7_slice_70 0 rfl ?_
            refine kj_iload F dX7_slice_72 0 rfl ?_
            refine kj_iload_n F dX7_slice_74 4 rfl rfl ?_
            refine kj_iadd F dX7_slice_75 ?_
            refine kj_bn h (fun u9 hu10 h => ?_)
            obtain ⟨iu11, hu10⟩ := kx_bx_at hu10
            refine kj_cVip (As := [.int ((if (0 : Int32) < (-x2) then (-x2) else (0 : Int32)) + x3), .int (((if (0 : Int32) < (-x2) then (-x2) else (0 : Int32)) + x3) + x2)]) (rest := []) F dX7_slice_76 h (fun o h1 => cx_hasCell (w := (kx_W cA h0 q P)) (kx_pool hu10) h1) (cwV 2 F.2.2.2.2.1 gX7_slice_X0_hasCell rfl rfl rfl (by decide +kernel) ⟨Nat.le_of_ble_eq_true rfl, Nat.le_of_ble_eq_true rfl⟩) _ (kx_pool hu10) rfl rfl rfl rfl (Nat.le_of_ble_eq_true rfl) ⟨Nat.zero_le _, Nat.zero_le _⟩ (fun o12 h => ?_)
            refine kj_if_eq F dX7_slice_79 (tgt := 104) (by decide) h (fun hc h => ?_) (fun hc h => ?_)
            · refine kj_ldc F dX7_slice_104 (v := (-1000000)) (by decide +kernel) ?_
              exact kj_iret F dX7_slice_106 h
            · refine kj_aloadq F dX7_slice_82 1 rfl ?_
              refine kj_deref e3 ?_
              refine kx_gbox F dX7_slice_84 in_X7_slice_X1 (by decide +kernel) h (fun v13 h => ?_)
              refine kj_aloadq F dX7_slice_87 1 rfl ?_
              refine kj_deref e3 ?_
              refine kx_gcubes F dX7_slice_89 in_X7_slice_X1 (by decide +kernel) h (fun v14 h => ?_)
              refine kj_iload F dX7_slice_92 0 rfl ?_
              refine kj_iload F dX7_slice_94 0 rfl ?_
              refine kj_iload_n F dX7_slice_96 4 rfl rfl ?_
              refine kj_iadd F dX7_slice_97 ?_
              refine kj_bn h (fun u15 hu16 h => ?_)
              obtain ⟨iu17, hu16⟩ := kx_bx_at hu16
              refine kj_cVip (As := [.long (v14.2), .int ((if (0 : Int32) < (-x2) then (-x2) else (0 : Int32)) + x3), .int (((if (0 : Int32) < (-x2) then (-x2) else (0 : Int32)) + x3) + x2)]) (rest := []) F dX7_slice_98 h (fun o h1 => cx_level (w := (kx_W cA h0 q P)) (kx_pool hu16) h1) (cwV 3 F.2.2.2.2.1 gX7_slice_X0_level rfl rfl rfl (by decide +kernel) ⟨Nat.le_of_ble_eq_true rfl, Nat.le_of_ble_eq_true rfl⟩) _ (kx_pool hu16) rfl rfl rfl rfl (Nat.le_of_ble_eq_true rfl) ⟨Nat.zero_le _, Nat.zero_le _⟩ (fun o18 h => ?_)
              refine kj_goto F dX7_slice_101 (tgt := 106) (by decide) ?_
              exact kj_iret F dX7_slice_106 h
          · refine kj_ldc F dX7_slice_52 (v := (-1000000)) (by decide +kernel) ?_
            exact kj_iret F dX7_slice_54 h
        · refine kj_ldc F dX7_slice_44 (v := (-1000001)) (by decide +kernel) ?_
          exact kj_iret F dX7_slice_46 h
theorem cc_slice {l : Launch} {D : va_G} {cA : Nat → ClassId} {h0 : Nat} {q : Nat → Nat} {P : va_W} {x1 : Int32} {x2 : Int32} {x3 : Int32} {z : kx_S} {o : (Int32 × kx_S)} (h : fc_slice P x1 x2 x3 z = some o) : kj_Mi l yX7_slice wsX7_slice rm_X7_slice D (kx_T cA) (kx_W cA h0 q P) z [.ref h0, .int x1, .int x2, .int x3] o :=
  fun sz => kj_start (by decide) rfl (Nat.le_of_ble_eq_true rfl) rfl fun p e s m args below meth c hsz F => jc_slice F h
/-! X7_face -/
abbrev rm_X7_face : Room := { frames := 2, cells := 0, slots := 0, locals := 53 }
theorem in_X7_face_X1 : ∀ w ∈ u_ws RX1 TX1 2, w ∈ wsX7_face := by decide +kernel
def fc_face (P : va_W) (x1 : Int32) (x2 : Int32) (x3 : Int32) (z : kx_S) : Option (Int32 × kx_S) :=
  (fc_heapAt P x1 z).bind fun o1 =>
  kx_on (o1.1) (some (((-1000001) : Int32), (o1.2))) (fun a2 => (kx_hp P a2).bind fun v4 =>
  (kx_hp P a2).bind fun v5 =>
  (kx_bx P (v4.1)).bind fun u6 =>
  (fx_faceAt u6.1 u6.2.1 u6.2.2 (v5.2) x2 x3).bind fun o9 =>
  some (o9, (o1.2)))
set_option maxRecDepth 20000 in
theorem jc_face {p : Program} {l : Launch} {e : Env} {s : State} {m : MethodId} {args : Array Value} {below : List Frame} {meth : Method} {c : Code} {A : Nat → Prop} {D : va_G} {cA : Nat → ClassId} {h0 : Nat} {q : Nat → Nat} {P : va_W} (F : kj_Fx p s m args meth c cX7_face 5 wsX7_face RX7 (some .int) D (kx_T cA) A) {x1 : Int32} {x2 : Int32} {x3 : Int32} {z : kx_S} {o : (Int32 × kx_S)} (h : fc_face P x1 x2 x3 z = some o) : kj_J p l e rm_X7_face s m args below meth c 0 0 (MQ below (kj_Qi D (kx_T cA) A (kx_W cA h0 q P) o) args s 0 0 A) 5 D A ((kx_W cA h0 q P) z) 0 [(0, .ref h0), (1, .int x1), (2, .int x2), (3, .int x3)] [] := by
  unfold fc_face at h
  refine kj_aload_n F dX7_face_0 0 rfl rfl ?_
  refine kj_iload_n F dX7_face_1 1 rfl rfl ?_
  refine kj_cVq (As := [.int x1]) (rest := []) F dX7_face_2 h (fun o h1 => cc_heapAt h1) (cwV 1 F.2.2.2.2.1 gX7_face_X7_heapAt rfl rfl rfl (by decide +kernel) ⟨Nat.le_of_ble_eq_true rfl, Nat.le_of_ble_eq_true rfl⟩) 0 rfl rfl rfl rfl rfl (Nat.le_of_ble_eq_true rfl) ⟨Nat.zero_le _, Nat.zero_le _⟩ (fun o1 h => ?_)
  refine kj_astoreq F dX7_face_5 (lv' := [(4, va_rf (o1.1)), (0, .ref h0), (1, .int x1), (2, .int x2), (3, .int x3)]) (by decide) rfl ?_
  refine kj_aloadq F dX7_face_7 0 rfl ?_
  refine kx_ifnonnull F dX7_face_9 (tgt := 17) (by decide) h (fun e3 h => ?_) (fun a2 e3 h => ?_)
  · refine kj_ldc F dX7_face_12 (v := (-1000001)) (by decide +kernel) ?_
    refine kj_goto F dX7_face_14 (tgt := 32) (by decide) ?_
    exact kj_iret F dX7_face_32 h
  · refine kj_aloadq F dX7_face_17 0 rfl ?_
    refine kj_deref e3 ?_
    refine kx_gbox F dX7_face_19 in_X7_face_X1 (by decide +kernel) h (fun v4 h => ?_)
    refine kj_aloadq F dX7_face_22 0 rfl ?_
    refine kj_deref e3 ?_
    refine kx_gcubes F dX7_face_24 in_X7_face_X1 (by decide +kernel) h (fun v5 h => ?_)
    refine kj_iload_n F dX7_face_27 3 rfl rfl ?_
    refine kj_iload_n F dX7_face_28 4 rfl rfl ?_
    refine kj_bn h (fun u6 hu7 h => ?_)
    obtain ⟨iu8, hu7⟩ := kx_bx_at hu7
    refine kj_cVip (As := [.long (v5.2), .int x2, .int x3]) (rest := []) F dX7_face_29 h (fun o h1 => cx_faceAt (w := (kx_W cA h0 q P)) (kx_pool hu7) h1) (cwV 3 F.2.2.2.2.1 gX7_face_X0_faceAt rfl rfl rfl (by decide +kernel) ⟨Nat.le_of_ble_eq_true rfl, Nat.le_of_ble_eq_true rfl⟩) _ (kx_pool hu7) rfl rfl rfl rfl (Nat.le_of_ble_eq_true rfl) ⟨Nat.zero_le _, Nat.zero_le _⟩ (fun o9 h => ?_)
    exact kj_iret F dX7_face_32 h
theorem cc_face {l : Launch} {D : va_G} {cA : Nat → ClassId} {h0 : Nat} {q : Nat → Nat} {P : va_W} {x1 : Int32} {x2 : Int32} {x3 : Int32} {z : kx_S} {o : (Int32 × kx_S)} (h : fc_face P x1 x2 x3 z = some o) : kj_Mi l yX7_face wsX7_face rm_X7_face D (kx_T cA) (kx_W cA h0 q P) z [.ref h0, .int x1, .int x2, .int x3] o :=
  fun sz => kj_start (by decide) rfl (Nat.le_of_ble_eq_true rfl) rfl fun p e s m args below meth c hsz F => jc_face F h
/-! X7_image -/
abbrev rm_X7_image : Room := { frames := 1, cells := 0, slots := 0, locals := 24 }
theorem in_X7_image_X7 : ∀ w ∈ u_ws RX7 TX7 10, w ∈ wsX7_image := by decide +kernel
def fc_image (P : va_W) (x1 : Int32) (z : kx_S) : Option (Int32 × kx_S) :=
  if x1 < 0 then
  some (((-1000001) : Int32), z)
  else
  if x1 < (2 : Int32) then
  (fc_copyPlaces P 0 2 (0 : Int32) (x1 * (4 : Int32)) z).bind fun o1 =>
  (kx_wz o1 4 x1 (1 : Int32)).bind fun z2 =>
  (fc_heapsOnPlaces P z2).bind fun o3 =>
  some ((o3.1), (o3.2))
  else
  some (((-1000001) : Int32), z)
set_option maxRecDepth 20000 in
theorem jc_image {p : Program} {l : Launch} {e : Env} {s : State} {m : MethodId} {args : Array Value} {below : List Frame} {meth : Method} {c : Code} {A : Nat → Prop} {D : va_G} {cA : Nat → ClassId} {h0 : Nat} {q : Nat → Nat} {P : va_W} (F : kj_Fx p s m args meth c cX7_image 2 wsX7_image RX7 (some .int) D (kx_T cA) A) {x1 : Int32} {z : kx_S} {o : (Int32 × kx_S)} (h : fc_image P x1 z = some o) : kj_J p l e rm_X7_image s m args below meth c 0 0 (MQ below (kj_Qi D (kx_T cA) A (kx_W cA h0 q P) o) args s 0 0 A) 2 D A ((kx_W cA h0 q P) z) 0 [(0, .ref h0), (1, .int x1)] [] := by
  unfold fc_image at h
  refine kj_iload_n F dX7_image_0 1 rfl rfl ?_
  refine kj_if_lt F dX7_image_1 (tgt := 9) (by decide) h (fun hc h => ?_) (fun hc h => ?_)
  · refine kj_ldc F dX7_image_9 (v := (-1000001)) (by decide +kernel) ?_
    exact kj_iret F dX7_image_11 h
  · refine kj_iload_n F dX7_image_4 1 rfl rfl ?_
    refine kj_iconst F dX7_image_5 (v := 2) (by decide) ?_
    refine kj_icmp_lt F dX7_image_6 (tgt := 12) (by decide) h (fun hc h => ?_) (fun hc h => ?_)
    · refine kj_aload_n F dX7_image_12 0 rfl rfl ?_
      refine kj_get F dX7_image_13 in_X7_image_X7 0 rfl rfl 1 (by decide) (by decide +kernel) rfl rfl ?_
      refine kj_iconst F dX7_image_16 (v := 0) (by decide) ?_
      refine kj_aload_n F dX7_image_17 0 rfl rfl ?_
      refine kj_get F dX7_image_18 in_X7_image_X7 0 rfl rfl 3 (by decide) (by decide +kernel) rfl rfl ?_
      refine kj_iload_n F dX7_image_21 1 rfl rfl ?_
      refine kj_iconst F dX7_image_22 (v := 4) (by decide) ?_
      refine kj_imul F dX7_image_23 ?_
      refine kj_cSv (As := [.ref (q (0 + 11)), .int (0 : Int32), .ref (q (2 + 11)), .int (x1 * (4 : Int32))]) (rest := []) F dX7_image_24 h (fun o h1 => cc_copyPlaces (by decide) (by decide) h1) (va_cwS 4 F.2.2.2.2.1 gX7_image_X7_copyPlaces rfl rfl rfl (by decide +kernel) ⟨Nat.le_of_ble_eq_true rfl, Nat.le_of_ble_eq_true rfl⟩) rfl rfl (Nat.le_of_ble_eq_true rfl) ⟨Nat.zero_le _, Nat.zero_le _⟩ (fun o1 h => ?_)
      refine kj_aload_n F dX7_image_27 0 rfl rfl ?_
      refine kj_get F dX7_image_28 in_X7_image_X7 0 rfl rfl 4 (by decide) (by decide +kernel) rfl rfl ?_
      refine kj_iload_n F dX7_image_31 1 rfl rfl ?_
      refine kj_iconst F dX7_image_32 (v := 1) (by decide) ?_
      refine kx_zast F dX7_image_33 h (fun z2 h => ?_)
      refine kj_aload_n F dX7_image_34 0 rfl rfl ?_
      refine kj_cVi (As := []) (rest := []) F dX7_image_35 h (fun o h1 => cc_heapsOnPlaces h1) (cwV 0 F.2.2.2.2.1 gX7_image_X7_heapsOnPlaces rfl rfl rfl (by decide +kernel) ⟨Nat.le_of_ble_eq_true rfl, Nat.le_of_ble_eq_true rfl⟩) 0 rfl rfl rfl rfl rfl (Nat.le_of_ble_eq_true rfl) ⟨Nat.zero_le _, Nat.zero_le _⟩ (fun o3 h => ?_)
      exact kj_iret F dX7_image_38 h
    · refine kj_ldc F dX7_image_9 (v := (-1000001)) (by decide +kernel) ?_
      exact kj_iret F dX7_image_11 h
theorem cc_image {l : Launch} {D : va_G} {cA : Nat → ClassId} {h0 : Nat} {q : Nat → Nat} {P : va_W} {x1 : Int32} {z : kx_S} {o : (Int32 × kx_S)} (h : fc_image P x1 z = some o) : kj_Mi l yX7_image wsX7_image rm_X7_image D (kx_T cA) (kx_W cA h0 q P) z [.ref h0, .int x1] o :=
  fun sz => kj_start (by decide) rfl (Nat.le_of_ble_eq_true rfl) rfl fun p e s m args below meth c hsz F => jc_image F h
/-! X7_restore -/
abbrev rm_X7_restore : Room := { frames := 1, cells := 0, slots := 0, locals := 24 }
theorem in_X7_restore_X3 : ∀ w ∈ u_ws RX3 TX3 3, w ∈ wsX7_restore := by decide +kernel
theorem in_X7_restore_X7 : ∀ w ∈ u_ws RX7 TX7 10, w ∈ wsX7_restore := by decide +kernel
def fc_restore (P : va_W) (x1 : Int32) (z : kx_S) : Option (Int32 × kx_S) :=
  if x1 < 0 then
  some (((-1000001) : Int32), z)
  else
  if x1 < (2 : Int32) then
  (kx_rd z 4 x1).bind fun v1 =>
  if v1 = 0 then
  some (((-1000002) : Int32), z)
  else
  (fc_copyPlaces P 2 0 (x1 * (4 : Int32)) (0 : Int32) z).bind fun o2 =>
  (kx_pI o2 8 (0 : Int32)).bind fun z3 =>
  (fc_heapsOnPlaces P z3).bind fun o4 =>
  some ((o4.1), (o4.2))
  else
  some (((-1000001) : Int32), z)
set_option maxRecDepth 20000 in
theorem jc_restore {p : Program} {l : Launch} {e : Env} {s : State} {m : MethodId} {args : Array Value} {below : List Frame} {meth : Method} {c : Code} {A : Nat → Prop} {D : va_G} {cA : Nat → ClassId} {h0 : Nat} {q : Nat → Nat} {P : va_W} (F : kj_Fx p s m args meth c cX7_restore 2 wsX7_restore RX7 (some .int) D (kx_T cA) A) {x1 : Int32} {z : kx_S} {o : (Int32 × kx_S)} (h : fc_restore P x1 z = some o) : kj_J p l e rm_X7_restore s m args below meth c 0 0 (MQ below (kj_Qi D (kx_T cA) A (kx_W cA h0 q P) o) args s 0 0 A) 2 D A ((kx_W cA h0 q P) z) 0 [(0, .ref h0), (1, .int x1)] [] := by
  unfold fc_restore at h
  refine kj_iload_n F dX7_restore_0 1 rfl rfl ?_
  refine kj_if_lt F dX7_restore_1 (tgt := 9) (by decide) h (fun hc h => ?_) (fun hc h => ?_)
  · refine kj_ldc F dX7_restore_9 (v := (-1000001)) (by decide +kernel) ?_
    exact kj_iret F dX7_restore_11 h
  · refine kj_iload_n F dX7_restore_4 1 rfl rfl ?_
    refine kj_iconst F dX7_restore_5 (v := 2) (by decide) ?_
    refine kj_icmp_lt F dX7_restore_6 (tgt := 12) (by decide) h (fun hc h => ?_) (fun hc h => ?_)
    · refine kj_aload_n F dX7_restore_12 0 rfl rfl ?_
      refine kj_get F dX7_restore_13 in_X7_restore_X7 0 rfl rfl 4 (by decide) (by decide +kernel) rfl rfl ?_
      refine kj_iload_n F dX7_restore_16 1 rfl rfl ?_
      refine kx_zald F dX7_restore_17 h (fun v1 h => ?_)
      refine kj_if_ne F dX7_restore_18 (tgt := 24) (by decide) h (fun hc h => ?_) (fun hc h => ?_)
      · refine kj_ldc F dX7_restore_21 (v := (-1000002)) (by decide +kernel) ?_
        exact kj_iret F dX7_restore_23 h
      · refine kj_aload_n F dX7_restore_24 0 rfl rfl ?_
        refine kj_get F dX7_restore_25 in_X7_restore_X7 0 rfl rfl 3 (by decide) (by decide +kernel) rfl rfl ?_
        refine kj_iload_n F dX7_restore_28 1 rfl rfl ?_
        refine kj_iconst F dX7_restore_29 (v := 4) (by decide) ?_
        refine kj_imul F dX7_restore_30 ?_
        refine kj_aload_n F dX7_restore_31 0 rfl rfl ?_
        refine kj_get F dX7_restore_32 in_X7_restore_X7 0 rfl rfl 1 (by decide) (by decide +kernel) rfl rfl ?_
        refine kj_iconst F dX7_restore_35 (v := 0) (by decide) ?_
        refine kj_cSv (As := [.ref (q (2 + 11)), .int (x1 * (4 : Int32)), .ref (q (0 + 11)), .int (0 : Int32)]) (rest := []) F dX7_restore_36 h (fun o h1 => cc_copyPlaces (by decide) (by decide) h1) (va_cwS 4 F.2.2.2.2.1 gX7_restore_X7_copyPlaces rfl rfl rfl (by decide +kernel) ⟨Nat.le_of_ble_eq_true rfl, Nat.le_of_ble_eq_true rfl⟩) rfl rfl (Nat.le_of_ble_eq_true rfl) ⟨Nat.zero_le _, Nat.zero_le _⟩ (fun o2 h => ?_)
        refine kj_aload_n F dX7_restore_39 0 rfl rfl ?_
        refine kj_get F dX7_restore_40 in_X7_restore_X7 0 rfl rfl 2 (by decide) (by decide +kernel) rfl rfl ?_
        refine kj_iconst F dX7_restore_43 (v := 0) (by decide) ?_
        refine kx_pt F dX7_restore_44 in_X7_restore_X3 tyX3 tyX3_ok nmX3 2 rfl rfl 2 8 (by decide) (by decide +kernel) rfl rfl (by decide +kernel) (Nat.le_of_ble_eq_true rfl) (kx_put8 cA h0 q P _ _) h (fun z3 h => ?_)
        refine kj_aload_n F dX7_restore_47 0 rfl rfl ?_
        refine kj_cVi (As := []) (rest := []) F dX7_restore_48 h (fun o h1 => cc_heapsOnPlaces h1) (cwV 0 F.2.2.2.2.1 gX7_restore_X7_heapsOnPlaces rfl rfl rfl (by decide +kernel) ⟨Nat.le_of_ble_eq_true rfl, Nat.le_of_ble_eq_true rfl⟩) 0 rfl rfl rfl rfl rfl (Nat.le_of_ble_eq_true rfl) ⟨Nat.zero_le _, Nat.zero_le _⟩ (fun o4 h => ?_)
        exact kj_iret F dX7_restore_51 h
    · refine kj_ldc F dX7_restore_9 (v := (-1000001)) (by decide +kernel) ?_
      exact kj_iret F dX7_restore_11 h
theorem cc_restore {l : Launch} {D : va_G} {cA : Nat → ClassId} {h0 : Nat} {q : Nat → Nat} {P : va_W} {x1 : Int32} {z : kx_S} {o : (Int32 × kx_S)} (h : fc_restore P x1 z = some o) : kj_Mi l yX7_restore wsX7_restore rm_X7_restore D (kx_T cA) (kx_W cA h0 q P) z [.ref h0, .int x1] o :=
  fun sz => kj_start (by decide) rfl (Nat.le_of_ble_eq_true rfl) rfl fun p e s m args below meth c hsz F => jc_restore F h
/-! X7_count -/
abbrev rm_X7_count : Room := { frames := 3, cells := 0, slots := 0, locals := 66 }
theorem in_X7_count_X3 : ∀ w ∈ u_ws RX3 TX3 3, w ∈ wsX7_count := by decide +kernel
theorem in_X7_count_X6 : ∀ w ∈ u_ws RX6 TX6 8, w ∈ wsX7_count := by decide +kernel
theorem in_X7_count_X7 : ∀ w ∈ u_ws RX7 TX7 10, w ∈ wsX7_count := by decide +kernel
def fc_count (P : va_W) (x1 : Int32) (z : kx_S) : Option (Int32 × kx_S) :=
  if x1 = 0 then
  (fc_heapsOnPlaces P z).bind fun o1 =>
  some ((o1.1), (o1.2))
  else
  if x1 = 1 then
  (fc_volumeOnPlaces P z).bind fun o2 =>
  some ((o2.1), (o2.2))
  else
  if x1 = 2 then
  some ((z.1 8), z)
  else
  if x1 = 3 then
  some ((z.1 4), z)
  else
  some (((-1000001) : Int32), z)
set_option maxRecDepth 20000 in
theorem jc_count {p : Program} {l : Launch} {e : Env} {s : State} {m : MethodId} {args : Array Value} {below : List Frame} {meth : Method} {c : Code} {A : Nat → Prop} {D : va_G} {cA : Nat → ClassId} {h0 : Nat} {q : Nat → Nat} {P : va_W} (F : kj_Fx p s m args meth c cX7_count 2 wsX7_count RX7 (some .int) D (kx_T cA) A) {x1 : Int32} {z : kx_S} {o : (Int32 × kx_S)} (h : fc_count P x1 z = some o) : kj_J p l e rm_X7_count s m args below meth c 0 0 (MQ below (kj_Qi D (kx_T cA) A (kx_W cA h0 q P) o) args s 0 0 A) 2 D A ((kx_W cA h0 q P) z) 0 [(0, .ref h0), (1, .int x1)] [] := by
  unfold fc_count at h
  refine kj_iload_n F dX7_count_0 1 rfl rfl ?_
  refine kj_if h (fun hc h => ?_) (fun hn1_0 h => ?_)
  · refine kj_tableIn F dX7_count_1 (off := 31) (tgt := 32) (by rw [hc]; decide) (by rw [hc]; decide) (by rw [hc]; rfl) (by decide) ?_
    refine kj_aload_n F dX7_count_32 0 rfl rfl ?_
    refine kj_cVi (As := []) (rest := []) F dX7_count_33 h (fun o h1 => cc_heapsOnPlaces h1) (cwV 0 F.2.2.2.2.1 gX7_count_X7_heapsOnPlaces rfl rfl rfl (by decide +kernel) ⟨Nat.le_of_ble_eq_true rfl, Nat.le_of_ble_eq_true rfl⟩) 0 rfl rfl rfl rfl rfl (Nat.le_of_ble_eq_true rfl) ⟨Nat.zero_le _, Nat.zero_le _⟩ (fun o1 h => ?_)
    exact kj_iret F dX7_count_36 h
  refine kj_if h (fun hc h => ?_) (fun hn1_1 h => ?_)
  · refine kj_tableIn F dX7_count_1 (off := 36) (tgt := 37) (by rw [hc]; decide) (by rw [hc]; decide) (by rw [hc]; rfl) (by decide) ?_
    refine kj_aload_n F dX7_count_37 0 rfl rfl ?_
    refine kj_cVi (As := []) (rest := []) F dX7_count_38 h (fun o h1 => cc_volumeOnPlaces h1) (cwV 0 F.2.2.2.2.1 gX7_count_X7_volumeOnPlaces rfl rfl rfl (by decide +kernel) ⟨Nat.le_of_ble_eq_true rfl, Nat.le_of_ble_eq_true rfl⟩) 0 rfl rfl rfl rfl rfl (Nat.le_of_ble_eq_true rfl) ⟨Nat.zero_le _, Nat.zero_le _⟩ (fun o2 h => ?_)
    exact kj_iret F dX7_count_41 h
  refine kj_if h (fun hc h => ?_) (fun hn1_2 h => ?_)
  · refine kj_tableIn F dX7_count_1 (off := 41) (tgt := 42) (by rw [hc]; decide) (by rw [hc]; decide) (by rw [hc]; rfl) (by decide) ?_
    refine kj_aload_n F dX7_count_42 0 rfl rfl ?_
    refine kj_get F dX7_count_43 in_X7_count_X7 0 rfl rfl 2 (by decide) (by decide +kernel) rfl rfl ?_
    refine kj_get F dX7_count_46 in_X7_count_X3 2 rfl rfl 2 (by decide) (by decide +kernel) rfl rfl ?_
    exact kj_iret F dX7_count_49 h
  refine kj_if h (fun hc h => ?_) (fun hn1_3 h => ?_)
  · refine kj_tableIn F dX7_count_1 (off := 49) (tgt := 50) (by rw [hc]; decide) (by rw [hc]; decide) (by rw [hc]; rfl) (by decide) ?_
    refine kj_aload_n F dX7_count_50 0 rfl rfl ?_
    refine kj_get F dX7_count_51 in_X7_count_X7 0 rfl rfl 0 (by decide) (by decide +kernel) rfl rfl ?_
    refine kj_get F dX7_count_54 in_X7_count_X6 1 rfl rfl 5 (by decide) (by decide +kernel) rfl rfl ?_
    exact kj_iret F dX7_count_57 h
  refine kj_tableOut F dX7_count_1 (tgt := 58) (by have e0 : Int32.toInt x1 ≠ 0 := fun q => hn1_0 (Int32.toInt_inj.mp (q.trans (by decide))); have e1 : Int32.toInt x1 ≠ 1 := fun q => hn1_1 (Int32.toInt_inj.mp (q.trans (by decide))); have e2 : Int32.toInt x1 ≠ 2 := fun q => hn1_2 (Int32.toInt_inj.mp (q.trans (by decide))); have e3 : Int32.toInt x1 ≠ 3 := fun q => hn1_3 (Int32.toInt_inj.mp (q.trans (by decide))); omega) (by decide) ?_
  refine kj_ldc F dX7_count_58 (v := (-1000001)) (by decide +kernel) ?_
  exact kj_iret F dX7_count_60 h
theorem cc_count {l : Launch} {D : va_G} {cA : Nat → ClassId} {h0 : Nat} {q : Nat → Nat} {P : va_W} {x1 : Int32} {z : kx_S} {o : (Int32 × kx_S)} (h : fc_count P x1 z = some o) : kj_Mi l yX7_count wsX7_count rm_X7_count D (kx_T cA) (kx_W cA h0 q P) z [.ref h0, .int x1] o :=
  fun sz => kj_start (by decide) rfl (Nat.le_of_ble_eq_true rfl) rfl fun p e s m args below meth c hsz F => jc_count F h
/-! X7_heapsOfVolume -/
abbrev rm_X7_heapsOfVolume : Room := { frames := 1, cells := 0, slots := 0, locals := 24 }
theorem in_X7_heapsOfVolume_X0 : ∀ w ∈ u_ws RX0 TX0 3, w ∈ wsX7_heapsOfVolume := by decide +kernel
theorem in_X7_heapsOfVolume_X7 : ∀ w ∈ u_ws RX7 TX7 10, w ∈ wsX7_heapsOfVolume := by decide +kernel
def fc_heapsOfVolume_63 (P : va_W) (ba1 bb1 bc1 : Int32) (x3 : Int32) (x4 : Int32) (x5 : Int32) (x6 : Int32) (x7 : Int32) (z : kx_S) : Option ((Int32 × Int32 × Int32 × Int32 × Int32 × kx_S) ⊕ (Int32 × Int32 × Int32 × kx_S)) :=
  if x7 < x6 then
  some (.inr (x3, x4, x5, z))
  else
  (kx_rl z 1 x7).bind fun v1 =>
  (kx_rl z 1 (x7 - x6)).bind fun v2 =>
  (kx_wl z 1 x7 (v1 - v2)).bind fun z3 =>
  some (.inl (x3, x4, x5, x6, (x7 + (-1)), z3))
def lc_heapsOfVolume_63 (P : va_W) (ba1 bb1 bc1 : Int32) (n : Nat) (x3 : Int32) (x4 : Int32) (x5 : Int32) (x6 : Int32) (x7 : Int32) (z : kx_S) : Option (Int32 × Int32 × Int32 × kx_S) :=
  kj_it (fun (s : (Int32 × Int32 × Int32 × Int32 × Int32 × kx_S)) => fc_heapsOfVolume_63 P ba1 bb1 bc1 (s.1) (s.2.1) (s.2.2.1) (s.2.2.2.1) (s.2.2.2.2.1) (s.2.2.2.2.2)) n (x3, x4, x5, x6, x7, z)
def fc_heapsOfVolume_109 (P : va_W) (ba1 bb1 bc1 : Int32) (x3 : Int32) (x4 : Int32) (x5 : Int32) (x7 : Int32) (x8 : Int32) (z : kx_S) : Option ((Int32 × Int32 × Int32 × Int32 × Int32 × kx_S) ⊕ (Int32 × Int32 × Int32 × kx_S)) :=
  if x3 < x8 then
  some (.inr (x3, x4, x5, z))
  else
  (kx_rl z 1 x8).bind fun v1 =>
  (kx_rl z 1 (x8 - x7)).bind fun v2 =>
  (kx_wl z 1 x8 (v1 + v2)).bind fun z3 =>
  some (.inl (x3, x4, x5, x7, (x8 + 1), z3))
def lc_heapsOfVolume_109 (P : va_W) (ba1 bb1 bc1 : Int32) (n : Nat) (x3 : Int32) (x4 : Int32) (x5 : Int32) (x7 : Int32) (x8 : Int32) (z : kx_S) : Option (Int32 × Int32 × Int32 × kx_S) :=
  kj_it (fun (s : (Int32 × Int32 × Int32 × Int32 × Int32 × kx_S)) => fc_heapsOfVolume_109 P ba1 bb1 bc1 (s.1) (s.2.1) (s.2.2.1) (s.2.2.2.1) (s.2.2.2.2.1) (s.2.2.2.2.2)) n (x3, x4, x5, x7, x8, z)
def fc_heapsOfVolume_37 (P : va_W) (ba1 bb1 bc1 : Int32) (x3 : Int32) (x4 : Int32) (x5 : Int32) (z : kx_S) : Option ((Int32 × Int32 × Int32 × kx_S) ⊕ (Int32 × Int32 × kx_S)) :=
  if bb1 < x5 then
  some (.inr (x3, x4, z))
  else
  (lc_heapsOfVolume_63 P ba1 bb1 bc1 5000 x3 x4 x5 (((x4 + x5) + bc1) - (1 : Int32)) x3 z).bind fun r1 =>
  (lc_heapsOfVolume_109 P ba1 bb1 bc1 5000 (r1.1) (r1.2.1) (r1.2.2.1) (((r1.2.1) + (r1.2.2.1)) - (1 : Int32)) (((r1.2.1) + (r1.2.2.1)) - (1 : Int32)) (r1.2.2.2)).bind fun r2 =>
  some (.inl ((r2.1), (r2.2.1), ((r2.2.2.1) + 1), (r2.2.2.2)))
def lc_heapsOfVolume_37 (P : va_W) (ba1 bb1 bc1 : Int32) (n : Nat) (x3 : Int32) (x4 : Int32) (x5 : Int32) (z : kx_S) : Option (Int32 × Int32 × kx_S) :=
  kj_it (fun (s : (Int32 × Int32 × Int32 × kx_S)) => fc_heapsOfVolume_37 P ba1 bb1 bc1 (s.1) (s.2.1) (s.2.2.1) (s.2.2.2)) n (x3, x4, x5, z)
def fc_heapsOfVolume_25 (P : va_W) (ba1 bb1 bc1 : Int32) (x3 : Int32) (x4 : Int32) (z : kx_S) : Option ((Int32 × Int32 × kx_S) ⊕ (Int32 × kx_S)) :=
  if ba1 < x4 then
  some (.inr (x3, z))
  else
  (lc_heapsOfVolume_37 P ba1 bb1 bc1 5000 x3 x4 (1 : Int32) z).bind fun r1 =>
  some (.inl ((r1.1), ((r1.2.1) + 1), (r1.2.2)))
def lc_heapsOfVolume_25 (P : va_W) (ba1 bb1 bc1 : Int32) (n : Nat) (x3 : Int32) (x4 : Int32) (z : kx_S) : Option (Int32 × kx_S) :=
  kj_it (fun (s : (Int32 × Int32 × kx_S)) => fc_heapsOfVolume_25 P ba1 bb1 bc1 (s.1) (s.2.1) (s.2.2)) n (x3, x4, z)
def fc_heapsOfVolume (P : va_W) (ba1 bb1 bc1 : Int32) (x2 : Int32) (z : kx_S) : Option (Int32 × kx_S) :=
  (fj_fill_d0a16 49 (0 : Int64) (z.2.2.1 1)).bind fun o1 =>
  (kx_wl (z.1, z.2.1, va_up z.2.2.1 1 o1, z.2.2.2) 1 (0 : Int32) (1 : Int64)).bind fun z2 =>
  (lc_heapsOfVolume_25 P ba1 bb1 bc1 5000 (if (48 : Int32) < x2 then (48 : Int32) else x2) (1 : Int32) z2).bind fun r3 =>
  (kx_rl (r3.2) 1 (r3.1)).bind fun v4 =>
  some ((v4).toInt32, (r3.2))
set_option maxRecDepth 20000 in
theorem jc_heapsOfVolume_63 {p : Program} {l : Launch} {e : Env} {s : State} {m : MethodId} {args : Array Value} {below : List Frame} {meth : Method} {c : Code} {A : Nat → Prop} {D : va_G} {cA : Nat → ClassId} {h0 : Nat} {q : Nat → Nat} {P : va_W} {Q : State → Prop} (F : kj_Fx p s m args meth c cX7_heapsOfVolume 9 wsX7_heapsOfVolume RX7 (some .int) D (kx_T cA) A) {ba1 bb1 bc1 : Int32} {b1 i1 : Nat} (hB1 : P[i1]? = some (b1, .inr (0, [.int ba1, .int bb1, .int bc1]))) {x3 : Int32} {x4 : Int32} {x5 : Int32} {x6 : Int32} {x7 : Int32} {z : kx_S} {o : ((Int32 × Int32 × Int32 × Int32 × Int32 × kx_S) ⊕ (Int32 × Int32 × Int32 × kx_S))} (h : fc_heapsOfVolume_63 P ba1 bb1 bc1 x3 x4 x5 x6 x7 z = some o) (kb : ∀ (a0' : Int32) (a1' : Int32) (a2' : Int32) (a3' : Int32) (a4' : Int32) (a5' : kx_S), o = .inl (a0', a1', a2', a3', a4', a5') → kj_J p l e rm_X7_heapsOfVolume s m args below meth c 0 0 Q 9 D A ((kx_W cA h0 q P) a5') 63 [(0, .ref h0), (1, .ref b1), (3, .int a0'), (4, .int a1'), (5, .int a2'), (6, .int a3'), (7, .int a4')] []) (ke0 : ∀ (a0' : Int32) (a1' : Int32) (a2' : Int32) (a3' : kx_S), o = .inr (a0', a1', a2', a3') → kj_J p l e rm_X7_heapsOfVolume s m args below meth c 0 0 Q 9 D A ((kx_W cA h0 q P) a3') 96 [(0, .ref h0), (1, .ref b1), (3, .int a0'), (4, .int a1'), (5, .int a2')] []) : kj_J p l e rm_X7_heapsOfVolume s m args below meth c 0 0 Q 9 D A ((kx_W cA h0 q P) z) 63 [(0, .ref h0), (1, .ref b1), (3, .int x3), (4, .int x4), (5, .int x5), (6, .int x6), (7, .int x7)] [] := by
  unfold fc_heapsOfVolume_63 at h
  refine kj_iload F dX7_heapsOfVolume_63 6 rfl ?_
  refine kj_iload F dX7_heapsOfVolume_65 5 rfl ?_
  refine kj_icmp_lt F dX7_heapsOfVolume_67 (tgt := 96) (by decide) h (fun hc h => ?_) (fun hc h => ?_)
  · refine kj_J.sub [0, 1, 2, 3, 4] rfl ?_
    exact ke0 x3 x4 x5 z (Option.some.inj h).symm
  · refine kj_aload_n F dX7_heapsOfVolume_70 0 rfl rfl ?_
    refine kj_get F dX7_heapsOfVolume_71 in_X7_heapsOfVolume_X7 0 rfl rfl 8 (by decide) (by decide +kernel) rfl rfl ?_
    refine kj_iload F dX7_heapsOfVolume_74 6 rfl ?_
    refine kj_dup2_11 F dX7_heapsOfVolume_76 rfl rfl ?_
    refine kx_lald F dX7_heapsOfVolume_77 1 (by decide) h (fun v1 h => ?_)
    refine kj_aload_n F dX7_heapsOfVolume_78 0 rfl rfl ?_
    refine kj_get F dX7_heapsOfVolume_79 in_X7_heapsOfVolume_X7 0 rfl rfl 8 (by decide) (by decide +kernel) rfl rfl ?_
    refine kj_iload F dX7_heapsOfVolume_82 6 rfl ?_
    refine kj_iload F dX7_heapsOfVolume_84 5 rfl ?_
    refine kj_isub F dX7_heapsOfVolume_86 ?_
    refine kx_lald F dX7_heapsOfVolume_87 1 (by decide) h (fun v2 h => ?_)
    refine kj_lsub F dX7_heapsOfVolume_88 ?_
    refine kx_last F dX7_heapsOfVolume_89 1 (by decide) h (fun z3 h => ?_)
    refine kj_iinc F dX7_heapsOfVolume_90 6 rfl (v := (-1)) (by decide) (by decide) (lv' := [(7, .int (x7 + (-1))), (0, .ref h0), (1, .ref b1), (3, .int x3), (4, .int x4), (5, .int x5), (6, .int x6)]) rfl ?_
    refine kj_goto F dX7_heapsOfVolume_93 (tgt := 63) (by decide) ?_
    refine kj_J.sub [1, 2, 3, 4, 5, 6, 0] rfl ?_
    exact kb x3 x4 x5 x6 (x7 + (-1)) z3 (Option.some.inj h).symm
theorem jlc_heapsOfVolume_63 {p : Program} {l : Launch} {e : Env} {s : State} {m : MethodId} {args : Array Value} {below : List Frame} {meth : Method} {c : Code} {A : Nat → Prop} {D : va_G} {cA : Nat → ClassId} {h0 : Nat} {q : Nat → Nat} {P : va_W} {Q : State → Prop} (F : kj_Fx p s m args meth c cX7_heapsOfVolume 9 wsX7_heapsOfVolume RX7 (some .int) D (kx_T cA) A) {ba1 bb1 bc1 : Int32} {b1 i1 : Nat} (hB1 : P[i1]? = some (b1, .inr (0, [.int ba1, .int bb1, .int bc1]))) {n : Nat} {x3 : Int32} {x4 : Int32} {x5 : Int32} {x6 : Int32} {x7 : Int32} {z : kx_S} {r : (Int32 × Int32 × Int32 × kx_S)} (h : lc_heapsOfVolume_63 P ba1 bb1 bc1 n x3 x4 x5 x6 x7 z = some r) (ke : kj_J p l e rm_X7_heapsOfVolume s m args below meth c 0 0 Q 9 D A ((kx_W cA h0 q P) (r.2.2.2)) 96 [(0, .ref h0), (1, .ref b1), (3, .int (r.1)), (4, .int (r.2.1)), (5, .int (r.2.2.1))] []) : kj_J p l e rm_X7_heapsOfVolume s m args below meth c 0 0 Q 9 D A ((kx_W cA h0 q P) z) 63 [(0, .ref h0), (1, .ref b1), (3, .int x3), (4, .int x4), (5, .int x5), (6, .int x6), (7, .int x7)] [] :=
  kj_it_J (Wh := fun (u : (Int32 × Int32 × Int32 × Int32 × Int32 × kx_S)) => kj_J p l e rm_X7_heapsOfVolume s m args below meth c 0 0 Q 9 D A ((kx_W cA h0 q P) (u.2.2.2.2.2)) 63 [(0, .ref h0), (1, .ref b1), (3, .int (u.1)), (4, .int (u.2.1)), (5, .int (u.2.2.1)), (6, .int (u.2.2.2.1)), (7, .int (u.2.2.2.2.1))] []) (We := fun r => kj_J p l e rm_X7_heapsOfVolume s m args below meth c 0 0 Q 9 D A ((kx_W cA h0 q P) (r.2.2.2)) 96 [(0, .ref h0), (1, .ref b1), (3, .int (r.1)), (4, .int (r.2.1)), (5, .int (r.2.2.1))] []) (fun u o h kb ke => jc_heapsOfVolume_63 F hB1 h (fun a0' a1' a2' a3' a4' a5' e => kb (a0', a1', a2', a3', a4', a5') e) (fun a0' a1' a2' a3' e => ke (a0', a1', a2', a3') e)) n (x3, x4, x5, x6, x7, z) r h ke
set_option maxRecDepth 20000 in
theorem jc_heapsOfVolume_109 {p : Program} {l : Launch} {e : Env} {s : State} {m : MethodId} {args : Array Value} {below : List Frame} {meth : Method} {c : Code} {A : Nat → Prop} {D : va_G} {cA : Nat → ClassId} {h0 : Nat} {q : Nat → Nat} {P : va_W} {Q : State → Prop} (F : kj_Fx p s m args meth c cX7_heapsOfVolume 9 wsX7_heapsOfVolume RX7 (some .int) D (kx_T cA) A) {ba1 bb1 bc1 : Int32} {b1 i1 : Nat} (hB1 : P[i1]? = some (b1, .inr (0, [.int ba1, .int bb1, .int bc1]))) {x3 : Int32} {x4 : Int32} {x5 : Int32} {x7 : Int32} {x8 : Int32} {z : kx_S} {o : ((Int32 × Int32 × Int32 × Int32 × Int32 × kx_S) ⊕ (Int32 × Int32 × Int32 × kx_S))} (h : fc_heapsOfVolume_109 P ba1 bb1 bc1 x3 x4 x5 x7 x8 z = some o) (kb : ∀ (a0' : Int32) (a1' : Int32) (a2' : Int32) (a3' : Int32) (a4' : Int32) (a5' : kx_S), o = .inl (a0', a1', a2', a3', a4', a5') → kj_J p l e rm_X7_heapsOfVolume s m args below meth c 0 0 Q 9 D A ((kx_W cA h0 q P) a5') 109 [(0, .ref h0), (1, .ref b1), (3, .int a0'), (4, .int a1'), (5, .int a2'), (7, .int a3'), (8, .int a4')] []) (ke0 : ∀ (a0' : Int32) (a1' : Int32) (a2' : Int32) (a3' : kx_S), o = .inr (a0', a1', a2', a3') → kj_J p l e rm_X7_heapsOfVolume s m args below meth c 0 0 Q 9 D A ((kx_W cA h0 q P) a3') 141 [(0, .ref h0), (1, .ref b1), (3, .int a0'), (4, .int a1'), (5, .int a2')] []) : kj_J p l e rm_X7_heapsOfVolume s m args below meth c 0 0 Q 9 D A ((kx_W cA h0 q P) z) 109 [(0, .ref h0), (1, .ref b1), (3, .int x3), (4, .int x4), (5, .int x5), (7, .int x7), (8, .int x8)] [] := by
  unfold fc_heapsOfVolume_109 at h
  refine kj_iload F dX7_heapsOfVolume_109 6 rfl ?_
  refine kj_iload_n F dX7_heapsOfVolume_111 2 rfl rfl ?_
  refine kj_icmp_gt F dX7_heapsOfVolume_112 (tgt := 141) (by decide) h (fun hc h => ?_) (fun hc h => ?_)
  · refine kj_J.sub [0, 1, 2, 3, 4] rfl ?_
    exact ke0 x3 x4 x5 z (Option.some.inj h).symm
  · refine kj_aload_n F dX7_heapsOfVolume_115 0 rfl rfl ?_
    refine kj_get F dX7_heapsOfVolume_116 in_X7_heapsOfVolume_X7 0 rfl rfl 8 (by decide) (by decide +kernel) rfl rfl ?_
    refine kj_iload F dX7_heapsOfVolume_119 6 rfl ?_
    refine kj_dup2_11 F dX7_heapsOfVolume_121 rfl rfl ?_
    refine kx_lald F dX7_heapsOfVolume_122 1 (by decide) h (fun v1 h => ?_)
    refine kj_aload_n F dX7_heapsOfVolume_123 0 rfl rfl ?_
    refine kj_get F dX7_heapsOfVolume_124 in_X7_heapsOfVolume_X7 0 rfl rfl 8 (by decide) (by decide +kernel) rfl rfl ?_
    refine kj_iload F dX7_heapsOfVolume_127 6 rfl ?_
    refine kj_iload F dX7_heapsOfVolume_129 5 rfl ?_
    refine kj_isub F dX7_heapsOfVolume_131 ?_
    refine kx_lald F dX7_heapsOfVolume_132 1 (by decide) h (fun v2 h => ?_)
    refine kj_ladd F dX7_heapsOfVolume_133 ?_
    refine kx_last F dX7_heapsOfVolume_134 1 (by decide) h (fun z3 h => ?_)
    refine kj_iinc F dX7_heapsOfVolume_135 6 rfl (v := 1) (by decide) (by decide) (lv' := [(8, .int (x8 + 1)), (0, .ref h0), (1, .ref b1), (3, .int x3), (4, .int x4), (5, .int x5), (7, .int x7)]) rfl ?_
    refine kj_goto F dX7_heapsOfVolume_138 (tgt := 109) (by decide) ?_
    refine kj_J.sub [1, 2, 3, 4, 5, 6, 0] rfl ?_
    exact kb x3 x4 x5 x7 (x8 + 1) z3 (Option.some.inj h).symm
theorem jlc_heapsOfVolume_109 {p : Program} {l : Launch} {e : Env} {s : State} {m : MethodId} {args : Array Value} {below : List Frame} {meth : Method} {c : Code} {A : Nat → Prop} {D : va_G} {cA : Nat → ClassId} {h0 : Nat} {q : Nat → Nat} {P : va_W} {Q : State → Prop} (F : kj_Fx p s m args meth c cX7_heapsOfVolume 9 wsX7_heapsOfVolume RX7 (some .int) D (kx_T cA) A) {ba1 bb1 bc1 : Int32} {b1 i1 : Nat} (hB1 : P[i1]? = some (b1, .inr (0, [.int ba1, .int bb1, .int bc1]))) {n : Nat} {x3 : Int32} {x4 : Int32} {x5 : Int32} {x7 : Int32} {x8 : Int32} {z : kx_S} {r : (Int32 × Int32 × Int32 × kx_S)} (h : lc_heapsOfVolume_109 P ba1 bb1 bc1 n x3 x4 x5 x7 x8 z = some r) (ke : kj_J p l e rm_X7_heapsOfVolume s m args below meth c 0 0 Q 9 D A ((kx_W cA h0 q P) (r.2.2.2)) 141 [(0, .ref h0), (1, .ref b1), (3, .int (r.1)), (4, .int (r.2.1)), (5, .int (r.2.2.1))] []) : kj_J p l e rm_X7_heapsOfVolume s m args below meth c 0 0 Q 9 D A ((kx_W cA h0 q P) z) 109 [(0, .ref h0), (1, .ref b1), (3, .int x3), (4, .int x4), (5, .int x5), (7, .int x7), (8, .int x8)] [] :=
  kj_it_J (Wh := fun (u : (Int32 × Int32 × Int32 × Int32 × Int32 × kx_S)) => kj_J p l e rm_X7_heapsOfVolume s m args below meth c 0 0 Q 9 D A ((kx_W cA h0 q P) (u.2.2.2.2.2)) 109 [(0, .ref h0), (1, .ref b1), (3, .int (u.1)), (4, .int (u.2.1)), (5, .int (u.2.2.1)), (7, .int (u.2.2.2.1)), (8, .int (u.2.2.2.2.1))] []) (We := fun r => kj_J p l e rm_X7_heapsOfVolume s m args below meth c 0 0 Q 9 D A ((kx_W cA h0 q P) (r.2.2.2)) 141 [(0, .ref h0), (1, .ref b1), (3, .int (r.1)), (4, .int (r.2.1)), (5, .int (r.2.2.1))] []) (fun u o h kb ke => jc_heapsOfVolume_109 F hB1 h (fun a0' a1' a2' a3' a4' a5' e => kb (a0', a1', a2', a3', a4', a5') e) (fun a0' a1' a2' a3' e => ke (a0', a1', a2', a3') e)) n (x3, x4, x5, x7, x8, z) r h ke
set_option maxRecDepth 20000 in
theorem jc_heapsOfVolume_37 {p : Program} {l : Launch} {e : Env} {s : State} {m : MethodId} {args : Array Value} {below : List Frame} {meth : Method} {c : Code} {A : Nat → Prop} {D : va_G} {cA : Nat → ClassId} {h0 : Nat} {q : Nat → Nat} {P : va_W} {Q : State → Prop} (F : kj_Fx p s m args meth c cX7_heapsOfVolume 9 wsX7_heapsOfVolume RX7 (some .int) D (kx_T cA) A) {ba1 bb1 bc1 : Int32} {b1 i1 : Nat} (hB1 : P[i1]? = some (b1, .inr (0, [.int ba1, .int bb1, .int bc1]))) {x3 : Int32} {x4 : Int32} {x5 : Int32} {z : kx_S} {o : ((Int32 × Int32 × Int32 × kx_S) ⊕ (Int32 × Int32 × kx_S))} (h : fc_heapsOfVolume_37 P ba1 bb1 bc1 x3 x4 x5 z = some o) (kb : ∀ (a0' : Int32) (a1' : Int32) (a2' : Int32) (a3' : kx_S), o = .inl (a0', a1', a2', a3') → kj_J p l e rm_X7_heapsOfVolume s m args below meth c 0 0 Q 9 D A ((kx_W cA h0 q P) a3') 37 [(0, .ref h0), (1, .ref b1), (3, .int a0'), (4, .int a1'), (5, .int a2')] []) (ke0 : ∀ (a0' : Int32) (a1' : Int32) (a2' : kx_S), o = .inr (a0', a1', a2') → kj_J p l e rm_X7_heapsOfVolume s m args below meth c 0 0 Q 9 D A ((kx_W cA h0 q P) a2') 147 [(0, .ref h0), (1, .ref b1), (3, .int a0'), (4, .int a1')] []) : kj_J p l e rm_X7_heapsOfVolume s m args below meth c 0 0 Q 9 D A ((kx_W cA h0 q P) z) 37 [(0, .ref h0), (1, .ref b1), (3, .int x3), (4, .int x4), (5, .int x5)] [] := by
  unfold fc_heapsOfVolume_37 at h
  refine kj_iload F dX7_heapsOfVolume_37 4 rfl ?_
  refine kj_aload_n F dX7_heapsOfVolume_39 1 rfl rfl ?_
  refine kj_get F dX7_heapsOfVolume_40 in_X7_heapsOfVolume_X0 _ (kx_pool hB1) rfl 1 (by decide) (by decide +kernel) rfl rfl ?_
  refine kj_icmp_gt F dX7_heapsOfVolume_43 (tgt := 147) (by decide) h (fun hc h => ?_) (fun hc h => ?_)
  · refine kj_J.sub [0, 1, 2, 3] rfl ?_
    exact ke0 x3 x4 z (Option.some.inj h).symm
  · refine kj_iload F dX7_heapsOfVolume_46 3 rfl ?_
    refine kj_iload F dX7_heapsOfVolume_48 4 rfl ?_
    refine kj_iadd F dX7_heapsOfVolume_50 ?_
    refine kj_aload_n F dX7_heapsOfVolume_51 1 rfl rfl ?_
    refine kj_get F dX7_heapsOfVolume_52 in_X7_heapsOfVolume_X0 _ (kx_pool hB1) rfl 2 (by decide) (by decide +kernel) rfl rfl ?_
    refine kj_iadd F dX7_heapsOfVolume_55 ?_
    refine kj_iconst F dX7_heapsOfVolume_56 (v := 1) (by decide) ?_
    refine kj_isub F dX7_heapsOfVolume_57 ?_
    refine kj_istore F dX7_heapsOfVolume_58 (lv' := [(6, .int (((x4 + x5) + bc1) - (1 : Int32))), (0, .ref h0), (1, .ref b1), (3, .int x3), (4, .int x4), (5, .int x5)]) (by decide) rfl ?_
    refine kj_iload_n F dX7_heapsOfVolume_60 3 rfl rfl ?_
    refine kj_istore F dX7_heapsOfVolume_61 (lv' := [(7, .int x3), (6, .int (((x4 + x5) + bc1) - (1 : Int32))), (0, .ref h0), (1, .ref b1), (3, .int x3), (4, .int x4), (5, .int x5)]) (by decide) rfl ?_
    refine kj_J.sub [2, 3, 4, 5, 6, 1, 0] rfl ?_
    refine kj_bn h (fun r1 h1 h => ?_)
    refine jlc_heapsOfVolume_63 F hB1 h1 ?_
    refine kj_iload F dX7_heapsOfVolume_96 3 rfl ?_
    refine kj_iload F dX7_heapsOfVolume_98 4 rfl ?_
    refine kj_iadd F dX7_heapsOfVolume_100 ?_
    refine kj_iconst F dX7_heapsOfVolume_101 (v := 1) (by decide) ?_
    refine kj_isub F dX7_heapsOfVolume_102 ?_
    refine kj_istore F dX7_heapsOfVolume_103 (lv' := [(7, .int (((r1.2.1) + (r1.2.2.1)) - (1 : Int32))), (0, .ref h0), (1, .ref b1), (3, .int (r1.1)), (4, .int (r1.2.1)), (5, .int (r1.2.2.1))]) (by decide) rfl ?_
    refine kj_iload F dX7_heapsOfVolume_105 0 rfl ?_
    refine kj_istore F dX7_heapsOfVolume_107 (lv' := [(8, .int (((r1.2.1) + (r1.2.2.1)) - (1 : Int32))), (7, .int (((r1.2.1) + (r1.2.2.1)) - (1 : Int32))), (0, .ref h0), (1, .ref b1), (3, .int (r1.1)), (4, .int (r1.2.1)), (5, .int (r1.2.2.1))]) (by decide) rfl ?_
    refine kj_J.sub [2, 3, 4, 5, 6, 1, 0] rfl ?_
    refine kj_bn h (fun r2 h1 h => ?_)
    refine jlc_heapsOfVolume_109 F hB1 h1 ?_
    refine kj_iinc F dX7_heapsOfVolume_141 4 rfl (v := 1) (by decide) (by decide) (lv' := [(5, .int ((r2.2.2.1) + 1)), (0, .ref h0), (1, .ref b1), (3, .int (r2.1)), (4, .int (r2.2.1))]) rfl ?_
    refine kj_goto F dX7_heapsOfVolume_144 (tgt := 37) (by decide) ?_
    refine kj_J.sub [1, 2, 3, 4, 0] rfl ?_
    exact kb (r2.1) (r2.2.1) ((r2.2.2.1) + 1) (r2.2.2.2) (Option.some.inj h).symm
theorem jlc_heapsOfVolume_37 {p : Program} {l : Launch} {e : Env} {s : State} {m : MethodId} {args : Array Value} {below : List Frame} {meth : Method} {c : Code} {A : Nat → Prop} {D : va_G} {cA : Nat → ClassId} {h0 : Nat} {q : Nat → Nat} {P : va_W} {Q : State → Prop} (F : kj_Fx p s m args meth c cX7_heapsOfVolume 9 wsX7_heapsOfVolume RX7 (some .int) D (kx_T cA) A) {ba1 bb1 bc1 : Int32} {b1 i1 : Nat} (hB1 : P[i1]? = some (b1, .inr (0, [.int ba1, .int bb1, .int bc1]))) {n : Nat} {x3 : Int32} {x4 : Int32} {x5 : Int32} {z : kx_S} {r : (Int32 × Int32 × kx_S)} (h : lc_heapsOfVolume_37 P ba1 bb1 bc1 n x3 x4 x5 z = some r) (ke : kj_J p l e rm_X7_heapsOfVolume s m args below meth c 0 0 Q 9 D A ((kx_W cA h0 q P) (r.2.2)) 147 [(0, .ref h0), (1, .ref b1), (3, .int (r.1)), (4, .int (r.2.1))] []) : kj_J p l e rm_X7_heapsOfVolume s m args below meth c 0 0 Q 9 D A ((kx_W cA h0 q P) z) 37 [(0, .ref h0), (1, .ref b1), (3, .int x3), (4, .int x4), (5, .int x5)] [] :=
  kj_it_J (Wh := fun (u : (Int32 × Int32 × Int32 × kx_S)) => kj_J p l e rm_X7_heapsOfVolume s m args below meth c 0 0 Q 9 D A ((kx_W cA h0 q P) (u.2.2.2)) 37 [(0, .ref h0), (1, .ref b1), (3, .int (u.1)), (4, .int (u.2.1)), (5, .int (u.2.2.1))] []) (We := fun r => kj_J p l e rm_X7_heapsOfVolume s m args below meth c 0 0 Q 9 D A ((kx_W cA h0 q P) (r.2.2)) 147 [(0, .ref h0), (1, .ref b1), (3, .int (r.1)), (4, .int (r.2.1))] []) (fun u o h kb ke => jc_heapsOfVolume_37 F hB1 h (fun a0' a1' a2' a3' e => kb (a0', a1', a2', a3') e) (fun a0' a1' a2' e => ke (a0', a1', a2') e)) n (x3, x4, x5, z) r h ke
set_option maxRecDepth 20000 in
theorem jc_heapsOfVolume_25 {p : Program} {l : Launch} {e : Env} {s : State} {m : MethodId} {args : Array Value} {below : List Frame} {meth : Method} {c : Code} {A : Nat → Prop} {D : va_G} {cA : Nat → ClassId} {h0 : Nat} {q : Nat → Nat} {P : va_W} {Q : State → Prop} (F : kj_Fx p s m args meth c cX7_heapsOfVolume 9 wsX7_heapsOfVolume RX7 (some .int) D (kx_T cA) A) {ba1 bb1 bc1 : Int32} {b1 i1 : Nat} (hB1 : P[i1]? = some (b1, .inr (0, [.int ba1, .int bb1, .int bc1]))) {x3 : Int32} {x4 : Int32} {z : kx_S} {o : ((Int32 × Int32 × kx_S) ⊕ (Int32 × kx_S))} (h : fc_heapsOfVolume_25 P ba1 bb1 bc1 x3 x4 z = some o) (kb : ∀ (a0' : Int32) (a1' : Int32) (a2' : kx_S), o = .inl (a0', a1', a2') → kj_J p l e rm_X7_heapsOfVolume s m args below meth c 0 0 Q 9 D A ((kx_W cA h0 q P) a2') 25 [(0, .ref h0), (1, .ref b1), (3, .int a0'), (4, .int a1')] []) (ke0 : ∀ (a0' : Int32) (a1' : kx_S), o = .inr (a0', a1') → kj_J p l e rm_X7_heapsOfVolume s m args below meth c 0 0 Q 9 D A ((kx_W cA h0 q P) a1') 153 [(0, .ref h0), (3, .int a0')] []) : kj_J p l e rm_X7_heapsOfVolume s m args below meth c 0 0 Q 9 D A ((kx_W cA h0 q P) z) 25 [(0, .ref h0), (1, .ref b1), (3, .int x3), (4, .int x4)] [] := by
  unfold fc_heapsOfVolume_25 at h
  refine kj_iload F dX7_heapsOfVolume_25 3 rfl ?_
  refine kj_aload_n F dX7_heapsOfVolume_27 1 rfl rfl ?_
  refine kj_get F dX7_heapsOfVolume_28 in_X7_heapsOfVolume_X0 _ (kx_pool hB1) rfl 0 (by decide) (by decide +kernel) rfl rfl ?_
  refine kj_icmp_gt F dX7_heapsOfVolume_31 (tgt := 153) (by decide) h (fun hc h => ?_) (fun hc h => ?_)
  · refine kj_J.sub [0, 2] rfl ?_
    exact ke0 x3 z (Option.some.inj h).symm
  · refine kj_iconst F dX7_heapsOfVolume_34 (v := 1) (by decide) ?_
    refine kj_istore F dX7_heapsOfVolume_35 (lv' := [(5, .int (1 : Int32)), (0, .ref h0), (1, .ref b1), (3, .int x3), (4, .int x4)]) (by decide) rfl ?_
    refine kj_J.sub [1, 2, 3, 4, 0] rfl ?_
    refine kj_bn h (fun r1 h1 h => ?_)
    refine jlc_heapsOfVolume_37 F hB1 h1 ?_
    refine kj_iinc F dX7_heapsOfVolume_147 3 rfl (v := 1) (by decide) (by decide) (lv' := [(4, .int ((r1.2.1) + 1)), (0, .ref h0), (1, .ref b1), (3, .int (r1.1))]) rfl ?_
    refine kj_goto F dX7_heapsOfVolume_150 (tgt := 25) (by decide) ?_
    refine kj_J.sub [1, 2, 3, 0] rfl ?_
    exact kb (r1.1) ((r1.2.1) + 1) (r1.2.2) (Option.some.inj h).symm
theorem jlc_heapsOfVolume_25 {p : Program} {l : Launch} {e : Env} {s : State} {m : MethodId} {args : Array Value} {below : List Frame} {meth : Method} {c : Code} {A : Nat → Prop} {D : va_G} {cA : Nat → ClassId} {h0 : Nat} {q : Nat → Nat} {P : va_W} {Q : State → Prop} (F : kj_Fx p s m args meth c cX7_heapsOfVolume 9 wsX7_heapsOfVolume RX7 (some .int) D (kx_T cA) A) {ba1 bb1 bc1 : Int32} {b1 i1 : Nat} (hB1 : P[i1]? = some (b1, .inr (0, [.int ba1, .int bb1, .int bc1]))) {n : Nat} {x3 : Int32} {x4 : Int32} {z : kx_S} {r : (Int32 × kx_S)} (h : lc_heapsOfVolume_25 P ba1 bb1 bc1 n x3 x4 z = some r) (ke : kj_J p l e rm_X7_heapsOfVolume s m args below meth c 0 0 Q 9 D A ((kx_W cA h0 q P) (r.2)) 153 [(0, .ref h0), (3, .int (r.1))] []) : kj_J p l e rm_X7_heapsOfVolume s m args below meth c 0 0 Q 9 D A ((kx_W cA h0 q P) z) 25 [(0, .ref h0), (1, .ref b1), (3, .int x3), (4, .int x4)] [] :=
  kj_it_J (Wh := fun (u : (Int32 × Int32 × kx_S)) => kj_J p l e rm_X7_heapsOfVolume s m args below meth c 0 0 Q 9 D A ((kx_W cA h0 q P) (u.2.2)) 25 [(0, .ref h0), (1, .ref b1), (3, .int (u.1)), (4, .int (u.2.1))] []) (We := fun r => kj_J p l e rm_X7_heapsOfVolume s m args below meth c 0 0 Q 9 D A ((kx_W cA h0 q P) (r.2)) 153 [(0, .ref h0), (3, .int (r.1))] []) (fun u o h kb ke => jc_heapsOfVolume_25 F hB1 h (fun a0' a1' a2' e => kb (a0', a1', a2') e) (fun a0' a1' e => ke (a0', a1') e)) n (x3, x4, z) r h ke
set_option maxRecDepth 20000 in
theorem jc_heapsOfVolume {p : Program} {l : Launch} {e : Env} {s : State} {m : MethodId} {args : Array Value} {below : List Frame} {meth : Method} {c : Code} {A : Nat → Prop} {D : va_G} {cA : Nat → ClassId} {h0 : Nat} {q : Nat → Nat} {P : va_W} (F : kj_Fx p s m args meth c cX7_heapsOfVolume 9 wsX7_heapsOfVolume RX7 (some .int) D (kx_T cA) A) {ba1 bb1 bc1 : Int32} {b1 i1 : Nat} (hB1 : P[i1]? = some (b1, .inr (0, [.int ba1, .int bb1, .int bc1]))) {x2 : Int32} {z : kx_S} {o : (Int32 × kx_S)} (h : fc_heapsOfVolume P ba1 bb1 bc1 x2 z = some o) : kj_J p l e rm_X7_heapsOfVolume s m args below meth c 0 0 (MQ below (kj_Qi D (kx_T cA) A (kx_W cA h0 q P) o) args s 0 0 A) 9 D A ((kx_W cA h0 q P) z) 0 [(0, .ref h0), (1, .ref b1), (2, .int x2)] [] := by
  unfold fc_heapsOfVolume at h
  refine kj_iload_n F dX7_heapsOfVolume_0 2 rfl rfl ?_
  refine kj_bipush F dX7_heapsOfVolume_1 (v := 48) (by decide) ?_
  refine kj_mmin F dX7_heapsOfVolume_3 (by decide +kernel) (by decide +kernel) (by decide +kernel) (by decide +kernel) (Nat.le_of_ble_eq_true rfl) (Nat.le_of_ble_eq_true rfl) ⟨Nat.zero_le _, Nat.zero_le _⟩ ?_
  refine kj_istore_n F dX7_heapsOfVolume_6 (lv' := [(3, .int (if (48 : Int32) < x2 then (48 : Int32) else x2)), (0, .ref h0), (1, .ref b1), (2, .int x2)]) rfl (by decide) rfl ?_
  refine kj_aload_n F dX7_heapsOfVolume_7 1 rfl rfl ?_
  refine kj_get F dX7_heapsOfVolume_8 in_X7_heapsOfVolume_X7 0 rfl rfl 8 (by decide) (by decide +kernel) rfl rfl ?_
  refine kj_lconst F dX7_heapsOfVolume_11 (v := 0) (by decide) ?_
  refine kj_cast (kx_lensC (cA := cA) (h0 := h0) (q := q) (P := P) z).1 ?_
  refine kj_cSv (w := (fun f => kx_W cA h0 q P (z.1, z.2.1, va_up z.2.2.1 1 f, z.2.2.2))) (As := [.ref (q (1 + 9)), .long (0 : Int64)]) (rest := []) F dX7_heapsOfVolume_12 h (fun o h1 => cj_fill_d0a16 (t0 := 1) (kx_lensC (cA := cA) (h0 := h0) (q := q) (P := P) z).2.1 (kx_lensC (cA := cA) (h0 := h0) (q := q) (P := P) z).2.2 rfl h1) (va_cwS 2 F.2.2.2.2.1 gX7_heapsOfVolume_J7_fill_d0a16 rfl rfl rfl (by decide +kernel) ⟨Nat.le_of_ble_eq_true rfl, Nat.le_of_ble_eq_true rfl⟩) rfl rfl (Nat.le_of_ble_eq_true rfl) ⟨Nat.zero_le _, Nat.zero_le _⟩ (fun o1 h => ?_)
  refine kj_aload_n F dX7_heapsOfVolume_15 1 rfl rfl ?_
  refine kj_get F dX7_heapsOfVolume_16 in_X7_heapsOfVolume_X7 0 rfl rfl 8 (by decide) (by decide +kernel) rfl rfl ?_
  refine kj_iconst F dX7_heapsOfVolume_19 (v := 0) (by decide) ?_
  refine kj_lconst F dX7_heapsOfVolume_20 (v := 1) (by decide) ?_
  refine kx_last F dX7_heapsOfVolume_21 1 (by decide) h (fun z2 h => ?_)
  refine kj_iconst F dX7_heapsOfVolume_22 (v := 1) (by decide) ?_
  refine kj_istore F dX7_heapsOfVolume_23 (lv' := [(4, .int (1 : Int32)), (3, .int (if (48 : Int32) < x2 then (48 : Int32) else x2)), (0, .ref h0), (1, .ref b1), (2, .int x2)]) (by decide) rfl ?_
  refine kj_J.sub [2, 3, 1, 0] rfl ?_
  refine kj_bn h (fun r3 h1 h => ?_)
  refine jlc_heapsOfVolume_25 F hB1 h1 ?_
  refine kj_aload_n F dX7_heapsOfVolume_153 0 rfl rfl ?_
  refine kj_get F dX7_heapsOfVolume_154 in_X7_heapsOfVolume_X7 0 rfl rfl 8 (by decide) (by decide +kernel) rfl rfl ?_
  refine kj_iload_n F dX7_heapsOfVolume_157 1 rfl rfl ?_
  refine kx_lald F dX7_heapsOfVolume_158 1 (by decide) h (fun v4 h => ?_)
  refine kj_l2i F dX7_heapsOfVolume_159 ?_
  exact kj_iret F dX7_heapsOfVolume_160 h
theorem cc_heapsOfVolume {l : Launch} {D : va_G} {cA : Nat → ClassId} {h0 : Nat} {q : Nat → Nat} {P : va_W} {ba1 bb1 bc1 : Int32} {b1 i1 : Nat} (hB1 : P[i1]? = some (b1, .inr (0, [.int ba1, .int bb1, .int bc1]))) {x2 : Int32} {z : kx_S} {o : (Int32 × kx_S)} (h : fc_heapsOfVolume P ba1 bb1 bc1 x2 z = some o) : kj_Mi l yX7_heapsOfVolume wsX7_heapsOfVolume rm_X7_heapsOfVolume D (kx_T cA) (kx_W cA h0 q P) z [.ref h0, .ref b1, .int x2] o :=
  fun sz => kj_start (by decide) rfl (Nat.le_of_ble_eq_true rfl) rfl fun p e s m args below meth c hsz F => jc_heapsOfVolume F hB1 h
